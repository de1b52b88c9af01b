/-! ===== round: both codes ===== -/
theorem pu_m1 {v : Nat} (h : v < 2 ^ 31) : ¬ (-1 : Int32) = nI v := fun q => by
  have := congrArg Int32.toInt q
  rw [nI_toInt h, show (-1 : Int32).toInt = -1 by decide] at this
  omega
def Aw (l : Nat → Int32) (W : Nat → Nat) : Prop := ∀ k, k < 6 → W k ≤ 99 ∧ l k = (if W k = 99 then -1 else nI (W k))
theorem aw_eq {v r : Nat} (hv : v ≤ 99) (hr : r < 99) : ((if v = 99 then (-1 : Int32) else nI v) = nI r) ↔ v = r := by
  by_cases e : v = 99
  · rw [if_pos e]
    exact ⟨fun q => absurd q (pu_m1 (by omega)), fun q => by omega⟩
  · rw [if_neg e, nI_eq (by omega) (by omega)]
theorem aw_no {v : Nat} (hv : v ≤ 99) : ((if v = 99 then (-1 : Int32) else nI v) = -1) ↔ v = 99 := by
  by_cases e : v = 99
  · rw [if_pos e]
    exact ⟨fun _ => e, fun _ => rfl⟩
  · rw [if_neg e]
    exact ⟨fun q => absurd q.symm (pu_m1 (by omega)), fun q => absurd q e⟩
theorem pu_reach {l : Nat → Int32} {W : Nat → Nat} {p q r : Nat} (hA : Aw l W) (hp : p < 6) (hq : q < 6) (hr : r < 90) : ∃ l', fX4_reachOver l (nI p) (nI q) (nI r) = some l' ∧ Aw l' (ro W p q r) := by
  obtain ⟨p1, p2⟩ := hA p hp
  obtain ⟨q1, q2⟩ := hA q hq
  unfold fX4_reachOver
  rw [pu_rd hp (by decide), Option.bind_some, p2]
  by_cases e1 : W p = r
  · rw [if_pos ((aw_eq p1 (by omega)).mpr e1), pu_rd hq (by decide), Option.bind_some, q2]
    by_cases e2 : W q = 99
    · rw [if_pos ((aw_no q1).mpr e2), pu_wr hq (by decide), Option.bind_some, nI_1]
      refine ⟨_, rfl, fun k hk => ?_⟩
      unfold ro
      by_cases e3 : k = q
      · subst e3
        rw [if_pos (show k = k ∧ W p = r ∧ W k = 99 from ⟨rfl, e1, e2⟩), ya_up_eq, if_neg (by omega)]
        exact ⟨by omega, rfl⟩
      · rw [if_neg (show ¬ (k = q ∧ W p = r ∧ W q = 99) from fun z => e3 z.1), ya_up_ne e3]
        exact hA k hk
    · rw [if_neg (fun z => e2 ((aw_no q1).mp z))]
      refine ⟨l, rfl, fun k hk => ?_⟩
      unfold ro
      rw [if_neg (show ¬ (k = q ∧ W p = r ∧ W q = 99) from fun z => e2 z.2.2)]
      exact hA k hk
  · rw [if_neg (fun z => e1 ((aw_eq p1 (by omega)).mp z))]
    refine ⟨l, rfl, fun k hk => ?_⟩
    unfold ro
    rw [if_neg (show ¬ (k = q ∧ W p = r ∧ W q = 99) from fun z => e1 z.2.1)]
    exact hA k hk
theorem pu_away39 {N F S r : Nat} {fr tt : Nat → Int32} {a c W : Nat → Nat} (hF : F ≤ 10) (hS : S < 1024) (hr : r < 90) (hE : Ends F fr tt a c) : ∀ (n i : Nat) (l : Nat → Int32), i ≤ F → F - i < n → Aw l (rnd S.testBit a c r W i) → ∃ l', fX4_measureAway_L39 N n (nI S) (nI r) (nI i) (nI F) fr tt l = some l' ∧ Aw l' (rnd S.testBit a c r W F) := by
  intro n
  induction n with
  | zero => intro i l h1 h2; omega
  | succ n ih =>
    intro i l h1 h2 hA
    unfold fX4_measureAway_L39
    by_cases hi : i = F
    · subst hi
      rw [if_pos (nI_le (Nat.le_refl _) (by omega))]
      exact ⟨l, rfl, hA⟩
    · have hlt : i < F := by omega
      obtain ⟨g1, g2, -, e1, e2⟩ := hE i hlt
      have e : rnd S.testBit a c r W (i + 1) = if S.testBit i = true then ro (ro (rnd S.testBit a c r W i) (a i) (c i) r) (c i) (a i) r else rnd S.testBit a c r W i := rfl
      rw [if_neg (nI_ge hlt (by omega)), pu_holds hS (by omega), Option.bind_some]
      by_cases hp : S.testBit i = true
      · obtain ⟨l1, z1, y1⟩ := pu_reach hA g1 g2 hr
        obtain ⟨l2, z2, y2⟩ := pu_reach y1 g2 g1 hr
        rw [if_pos hp, if_neg (show ¬ (1 : Int32) = 0 by decide), pu_rd (by omega) (by decide), Option.bind_some, pu_rd (by omega) (by decide), Option.bind_some, e1, e2, z1, Option.bind_some, Option.bind_some, Option.bind_some, z2, Option.bind_some, pu_lt, nI_1]
        refine ih (i + 1) l2 (by omega) (by omega) ?_
        rw [e, if_pos hp]
        exact y2
      · rw [if_neg hp, if_pos rfl, pu_lt, nI_1]
        refine ih (i + 1) l (by omega) (by omega) ?_
        rw [e, if_neg hp]
        exact hA
theorem pu_away30 {N F S g : Nat} {fr tt : Nat → Int32} {a c : Nat → Nat} (hN : 5000 ≤ N) (hF : F ≤ 10) (hS : S < 1024) (hE : Ends F fr tt a c) : ∀ (n r : Nat) (l : Nat → Int32) (W : Nat → Nat), r ≤ 6 → 6 - r < n → Aw l W → IA S.testBit a c F g r W → ∃ (l' : Nat → Int32) (W' : Nat → Nat), fX4_measureAway_L30 N n (nI S) (nI r) (nI F) fr tt l = some l' ∧ Aw l' W' ∧ IA S.testBit a c F g 6 W' := by
  intro n
  induction n with
  | zero => intro r l W h1 h2; omega
  | succ n ih =>
    intro r l W h1 h2 hA hI
    unfold fX4_measureAway_L30
    by_cases h : r = 6
    · subst h
      rw [if_pos (show (6 : Int32) ≤ nI 6 from nI_le (a := 6) (Nat.le_refl _) (by decide))]
      exact ⟨l, W, rfl, hA, hI⟩
    · obtain ⟨l', e, h'⟩ := pu_away39 (N := N) (r := r) (W := W) hF hS (by omega) hE N 0 l (Nat.zero_le F) (by omega) hA
      rw [if_neg (show ¬ (6 : Int32) ≤ nI r from nI_ge (b := 6) (by omega) (by decide)), show (0 : Int32) = nI 0 from rfl, e, Option.bind_some, pu_lt, nI_1]
      exact ih (r + 1) l' _ (by omega) (by omega) h' (rnd_I (by omega) (fun f hf => ⟨(hE f hf).1, (hE f hf).2.1⟩) hI)
theorem pu_away2 {N : Nat} {y1 y2 : Int32} : ∀ (n i : Nat) (l : Nat → Int32), i ≤ 6 → 6 - i < n → (∀ k, k < i → l k = -1) → ∃ l', fX4_measureAway_L2 N n y1 y2 (nI i) l = some l' ∧ ∀ k, k < 6 → l' k = -1 := by
  intro n
  induction n with
  | zero => intro i l h1 h2; omega
  | succ n ih =>
    intro i l h1 h2 h3
    unfold fX4_measureAway_L2
    by_cases h : i = 6
    · subst h
      rw [if_pos (show (6 : Int32) ≤ nI 6 from nI_le (a := 6) (Nat.le_refl _) (by decide))]
      exact ⟨l, rfl, h3⟩
    · rw [if_neg (show ¬ (6 : Int32) ≤ nI i from nI_ge (b := 6) (by omega) (by decide)), pu_wr (by omega) (by decide), Option.bind_some, pu_lt, nI_1]
      refine ih (i + 1) _ (by omega) (by omega) (fun k hk => ?_)
      by_cases q : k = i
      · subst q
        rw [ya_up_eq]
      · rw [ya_up_ne q]
        exact h3 k (by omega)
theorem pu_away {N F S g : Nat} {fr tt l : Nat → Int32} {a c : Nat → Nat} (hN : 5000 ≤ N) (hF : F ≤ 10) (hS : S < 1024) (hE : Ends F fr tt a c) (hg : g < 6) : ∃ (l' : Nat → Int32) (W' : Nat → Nat), fX4_measureAway N (nI F) fr tt l (nI g) (nI S) = some l' ∧ Aw l' W' ∧ IA S.testBit a c F g 6 W' := by
  obtain ⟨l1, e1, h1⟩ := pu_away2 (N := N) (y1 := nI g) (y2 := nI S) N 0 l (by decide) (by omega) (fun k hk => absurd hk (Nat.not_lt_zero k))
  obtain ⟨l2, W2, e2, h2, h3⟩ := pu_away30 hN hF hS hE (g := g) N 0 (ya_up l1 g 0) (fun k => if k = g then 0 else 99) (by decide) (by omega) (fun k hk => by
    dsimp only
    by_cases e : k = g
    · subst e
      simp [ya_up]
      rfl
    · simp [ya_up, e, h1 k hk]) (fun k hk => by
    dsimp only
    by_cases e : k = g
    · rw [if_pos e]
      refine ⟨fun q => ⟨Nat.le_refl 0, q, fun x hx => absurd hx (Nat.not_lt_zero x)⟩, fun q => ?_⟩
      have : decide (k = g) = false := q
      simp [e] at this
    · rw [if_neg e]
      refine ⟨fun q => ?_, fun _ => rfl⟩
      have : decide (k = g) = true := q
      simp [e] at this)
  refine ⟨l2, W2, ?_, h2, h3⟩
  unfold fX4_measureAway
  rw [show fX4_measureAway_L2 N N (nI g) (nI S) 0 l = some l1 from e1, Option.bind_some, pu_wr hg (by decide), Option.bind_some, show fX4_measureAway_L30 N N (nI S) 0 (nI F) fr tt (ya_up l1 g 0) = some l2 from e2, Option.bind_some]
theorem pu_far77 {N F R f : Nat} {y2 y4 : Int32} {fr tt b : Nat → Int32} {a c V : Nat → Nat} {P : Nat → Bool} (hF : F ≤ 10) (hM : Mb F R fr tt b) (hE : Ends F fr tt a c) (hf : f < F) (hP : ∀ g, g < F → P g = (!R.testBit g && !decide (g = f))) (hV : ∀ k, V k ≤ 99) : ∀ (n i : Nat) (l : Nat → Int32), i ≤ F → F - i < n → Lr l (rxs P a c V i) → ∃ l', fX5_round_L77 N n (nI f) y2 y4 (nI i) b l = some l' ∧ Lr l' (rxs P a c V F) := by
  intro n
  induction n with
  | zero => intro i l h1 h2; omega
  | succ n ih =>
    intro i l h1 h2 hL
    unfold fX5_round_L77
    rw [pu_flows, hM.1, Option.bind_some]
    by_cases hi : i = F
    · subst hi
      rw [if_pos (nI_le (Nat.le_refl _) (by omega))]
      exact ⟨l, rfl, hL⟩
    · have hlt : i < F := by omega
      obtain ⟨g1, g2, g3, e1, e2⟩ := hE i hlt
      obtain ⟨m0, m1, -⟩ := hM.2 i hlt
      rw [if_neg (nI_ge hlt (by omega)), pu_isRead hF hM hlt, Option.bind_some]
      have hstep : rxs P a c V (i + 1) = if P i = true then rx (rxs P a c V i) (a i) (c i) else rxs P a c V i := rfl
      by_cases hb : R.testBit i = true
      · rw [if_pos hb, if_neg (show ¬ (1 : Int32) = 0 by decide), pu_lt, nI_1]
        refine ih (i + 1) l (by omega) (by omega) ?_
        rw [hstep, if_neg (by rw [hP i hlt, hb]; simp)]
        exact hL
      · rw [if_neg hb, if_pos rfl]
        by_cases hif : i = f
        · rw [if_pos (by rw [hif]), pu_lt, nI_1]
          refine ih (i + 1) l (by omega) (by omega) ?_
          rw [hstep, if_neg (by rw [hP i hlt]; simp [hif])]
          exact hL
        · have hp : P i = true := by rw [hP i hlt]; simp [hif, hb]
          have hle : ∀ k, rxs P a c V i k ≤ 99 := fun k => Nat.le_trans ((rxs_C (P := P) (V := V) (fun f hf => (hE f hf).2.2.1) i (by omega)).1 k) (hV k)
          generalize rxs P a c V i = U at hL hstep hle
          have hu1 := hle (a i)
          have hu2 := hle (c i)
          rw [if_neg (fun q => hif ((nI_eq (by omega) (by omega)).mp q)), pu_get (f := i) (x := 0) 0 rfl (by omega), Option.bind_some, m0, e1, pu_get (f := i) (x := 1) 1 rfl (by omega), Option.bind_some, m1, e2, pu_rd g2 (by decide), Option.bind_some, pu_rd g1 (by decide), Option.bind_some, Option.bind_some, Option.bind_some, hL _ g1, hL _ g2, nI_1]
          have hfin : ∀ u v : Nat, u = min (U (c i) + 1) (U (a i)) → v = min (u + 1) (U (c i)) → ∃ l', fX5_round_L77 N n (nI f) y2 y4 (nI (i + 1)) b (ya_up (ya_up l (a i) (nI u)) (c i) (nI v)) = some l' ∧ Lr l' (rxs P a c V F) := by
            intro u v hu hv
            refine ih (i + 1) _ (by omega) (by omega) (fun k hk => ?_)
            rw [hstep, if_pos hp]
            unfold rx
            by_cases q2 : k = c i
            · rw [q2, ya_up_eq, if_pos rfl, hv, hu]
            · rw [ya_up_ne q2, if_neg q2]
              by_cases q1 : k = a i
              · rw [q1, ya_up_eq, if_pos rfl, hu]
              · rw [ya_up_ne q1, if_neg q1, hL k hk]
          have hmid : ∀ u : Nat, u ≤ 99 → u = min (U (c i) + 1) (U (a i)) → ∃ l', ((ya_wr l 6 (nI (a i)) (nI u)).bind fun v44 => (ya_rd v44 6 (nI (a i))).bind fun v46 => (ya_rd v44 6 (nI (c i))).bind fun v48 => (if v48 ≤ (v46 + 1) then (ya_rd v44 6 (nI (c i))).bind fun v51 => (ya_wr v44 6 (nI (c i)) v51).bind fun v53 => ya_lt (nI i + 1) fun v55 => fX5_round_L77 N n (nI f) y2 y4 v55 b v53 else (ya_rd v44 6 (nI (a i))).bind fun v57 => (ya_wr v44 6 (nI (c i)) (v57 + 1)).bind fun v59 => ya_lt (nI i + 1) fun v61 => fX5_round_L77 N n (nI f) y2 y4 v61 b v59)) = some l' ∧ Lr l' (rxs P a c V F) := by
            intro u hu99 hu
            rw [pu_wr g1 (by decide), Option.bind_some, pu_rd g1 (by decide), Option.bind_some, pu_rd g2 (by decide), Option.bind_some, Option.bind_some, Option.bind_some, ya_up_eq, ya_up_ne (fun q => g3 q.symm), hL _ g2, nI_1]
            by_cases z : U (c i) ≤ u + 1
            · rw [if_pos (nI_le z (by omega)), pu_wr g2 (by decide), Option.bind_some, pu_lt, nI_1]
              exact hfin u (U (c i)) hu (by omega)
            · rw [if_neg (nI_ge (by omega) (by omega)), pu_wr g2 (by decide), Option.bind_some, pu_lt, nI_1]
              exact hfin u (u + 1) hu (by omega)
          by_cases z : U (a i) ≤ U (c i) + 1
          · rw [if_pos (nI_le z (by omega))]
            exact hmid (U (a i)) hu1 (by omega)
          · rw [if_neg (nI_ge (by omega) (by omega))]
            exact hmid (U (c i) + 1) (by omega) (by omega)
theorem pu_far67 {N F R f g : Nat} {y2 : Int32} {fr tt b : Nat → Int32} {a c : Nat → Nat} {P : Nat → Bool} (hN : 5000 ≤ N) (hF : F ≤ 10) (hM : Mb F R fr tt b) (hE : Ends F fr tt a c) (hf : f < F) (hP : ∀ g, g < F → P g = (!R.testBit g && !decide (g = f))) : ∀ (n r : Nat) (l : Nat → Int32) (V : Nat → Nat), r ≤ 6 → 6 - r < n → Lr l V → SF P a c F g V → CF P a c F g r V → ∃ (l' : Nat → Int32) (V' : Nat → Nat), fX5_round_L67 N n (nI f) y2 (nI r) b l = some l' ∧ Lr l' V' ∧ SF P a c F g V' ∧ CF P a c F g 6 V' := by
  intro n
  induction n with
  | zero => intro r l V h1 h2; omega
  | succ n ih =>
    intro r l V h1 h2 hL hS hC
    unfold fX5_round_L67
    by_cases h : r = 6
    · subst h
      rw [if_pos (show (6 : Int32) ≤ nI 6 from nI_le (a := 6) (Nat.le_refl _) (by decide))]
      exact ⟨l, V, rfl, hL, hS, hC⟩
    · obtain ⟨l', e, h'⟩ := pu_far77 (N := N) (y2 := y2) (y4 := nI r) (V := V) hF hM hE hf hP (fun k => (hS k).1) N 0 l (Nat.zero_le F) (by omega) hL
      rw [if_neg (show ¬ (6 : Int32) ≤ nI r from nI_ge (b := 6) (by omega) (by decide)), show (0 : Int32) = nI 0 from rfl, e, Option.bind_some, pu_lt, nI_1]
      exact ih (r + 1) l' _ (by omega) (by omega) h' (rxs_S hS F (Nat.le_refl F)) (rxs_CF (fun f hf => (hE f hf).2.2.1) hC)
theorem pu_far32 {N g : Nat} (hg : g < 6) {y1 y2 : Int32} : ∀ (n i : Nat) (l : Nat → Int32), i ≤ 6 → 6 - i < n → (∀ k, k < i → l k = nI (if k = g then 0 else 99)) → ∃ l', fX5_round_L32 N n y1 y2 (nI g) (nI i) l = some l' ∧ Lr l' (fun k => if k = g then 0 else 99) := by
  intro n
  induction n with
  | zero => intro i l h1 h2; omega
  | succ n ih =>
    intro i l h1 h2 h3
    unfold fX5_round_L32
    by_cases h : i = 6
    · subst h
      rw [if_pos (show (6 : Int32) ≤ nI 6 from nI_le (a := 6) (Nat.le_refl _) (by decide))]
      exact ⟨l, rfl, h3⟩
    · rw [if_neg (show ¬ (6 : Int32) ≤ nI i from nI_ge (b := 6) (by omega) (by decide))]
      by_cases e : i = g
      · rw [if_pos (by rw [e]), pu_wr (by omega) (by decide), Option.bind_some, pu_lt, nI_1]
        refine ih (i + 1) _ (by omega) (by omega) (fun k hk => ?_)
        by_cases q : k = i
        · subst q
          rw [ya_up_eq, if_pos e]
          rfl
        · rw [ya_up_ne q]
          exact h3 k (by omega)
      · rw [if_neg (fun q => e ((nI_eq (by omega) (by omega)).mp q)), pu_wr (by omega) (by decide), Option.bind_some, pu_lt, nI_1]
        refine ih (i + 1) _ (by omega) (by omega) (fun k hk => ?_)
        by_cases q : k = i
        · subst q
          rw [ya_up_eq, if_neg e]
          rfl
        · rw [ya_up_ne q]
          exact h3 k (by omega)
theorem pu_touches {F f k : Nat} {fr tt : Nat → Int32} {a c : Nat → Nat} (hF : F ≤ 10) (hE : Ends F fr tt a c) (hf : f < F) (hk : k < 6) : fX3_touches fr tt (nI f) (nI k) = some (if a f = k ∨ c f = k then 1 else 0) := by
  obtain ⟨g1, g2, -, e1, e2⟩ := hE f hf
  unfold fX3_touches
  rw [pu_rd (by omega) (by decide), Option.bind_some, e1]
  by_cases q1 : a f = k
  · rw [if_pos (by rw [q1]), if_pos (Or.inl q1)]
  · rw [if_neg (fun q => q1 ((nI_eq (by omega) (by omega)).mp q)), pu_rd (by omega) (by decide), Option.bind_some, e2]
    by_cases q2 : c f = k
    · rw [if_pos (by rw [q2]), if_pos (Or.inr q2)]
    · rw [if_neg (fun q => q2 ((nI_eq (by omega) (by omega)).mp q)), if_neg (by omega)]
/-- the other end -/
def oe (a c : Nat → Nat) (f k : Nat) : Nat := if a f = k then c f else a f
theorem oe_lt {F f k : Nat} {fr tt : Nat → Int32} {a c : Nat → Nat} (hE : Ends F fr tt a c) (hf : f < F) : oe a c f k < 6 := by
  obtain ⟨g1, g2, -⟩ := hE f hf
  unfold oe
  split <;> assumption
theorem pu_otherEnd {F f k : Nat} {fr tt : Nat → Int32} {a c : Nat → Nat} (hF : F ≤ 10) (hE : Ends F fr tt a c) (hf : f < F) (hk : k < 6) : fX3_otherEnd fr tt (nI f) (nI k) = some (nI (oe a c f k)) := by
  obtain ⟨g1, g2, -, e1, e2⟩ := hE f hf
  unfold fX3_otherEnd oe
  rw [pu_rd (by omega) (by decide), Option.bind_some, e1]
  by_cases q1 : a f = k
  · rw [if_pos (by rw [q1]), if_pos q1, pu_rd (by omega) (by decide), Option.bind_some, e2]
  · rw [if_neg (fun q => q1 ((nI_eq (by omega) (by omega)).mp q)), if_neg q1, Option.bind_some]
/-- flow f leads from knot k to one at distance d -/
def ldg (P : Nat → Bool) (a c : Nat → Nat) (F g k d f : Nat) : Prop := P f = true ∧ (a f = k ∨ c f = k) ∧ dm P a c F g (oe a c f k) d
theorem pu_near2 {N F S g k d g0 : Nat} {fr tt l : Nat → Int32} {a c W : Nat → Nat} (hF : F ≤ 10) (hS : S < 1024) (hE : Ends F fr tt a c) (hA : Aw l W) (hI : IA S.testBit a c F g 6 W) (hk : k < 6) (hd : d ≤ 5) (hkd : dm S.testBit a c F g k (d + 1)) (hg0 : g0 < F) (h0 : ldg S.testBit a c F g k d g0) (hlt0 : ∀ x, x < g0 → ¬ ldg S.testBit a c F g k d x) : ∀ (n i : Nat), i ≤ g0 → F - i < n → fX4_firstFlowNearer_L2 N n (nI k) (nI S) (nI i) (nI F) fr tt l = some (.inl (nI g0)) := by
  have hW : W k = d + 1 := (IA_dm hI (by decide) hk (by omega)).mpr hkd
  have hlk : l k = nI (d + 1) := by rw [(hA k hk).2, hW, if_neg (by omega)]
  intro n
  induction n with
  | zero => intro i h1 h2; omega
  | succ n ih =>
    intro i h1 h2
    have hlt : i < F := by omega
    unfold fX4_firstFlowNearer_L2
    rw [if_neg (nI_ge hlt (by omega)), pu_holds hS (by omega), Option.bind_some]
    have hgo : ¬ ldg S.testBit a c F g k d i → fX4_firstFlowNearer_L2 N n (nI k) (nI S) (nI (i + 1)) (nI F) fr tt l = some (.inl (nI g0)) := fun hn => by
      have : i ≠ g0 := fun q => hn (by rw [q]; exact h0)
      exact ih (i + 1) (by omega) (by omega)
    by_cases hp : S.testBit i = true
    · rw [if_pos hp, if_neg (show ¬ (1 : Int32) = 0 by decide), pu_touches hF hE hlt hk, Option.bind_some]
      by_cases ht : a i = k ∨ c i = k
      · rw [if_pos ht, if_neg (show ¬ (1 : Int32) = 0 by decide), pu_rd hk (by decide), Option.bind_some, hlk, if_neg (show ¬ nI (d + 1) ≤ 0 from nI_ge (a := 0) (b := d + 1) (by omega) (by omega)), pu_otherEnd hF hE hlt hk, Option.bind_some, pu_rd (oe_lt hE hlt) (by decide), Option.bind_some, Option.bind_some, (hA _ (oe_lt hE hlt)).2, show nI (d + 1) - 1 = nI d from pk_sub (a := d + 1) (b := 1) (by omega)]
        by_cases hz : W (oe a c i k) = d
        · have hl : ldg S.testBit a c F g k d i := ⟨hp, ht, (IA_dm hI (by decide) (oe_lt hE hlt) (by omega)).mp hz⟩
          have hig : i = g0 := by
            have := hlt0 i
            by_cases q : i < g0
            · exact absurd hl (hlt0 i q)
            · omega
          rw [if_pos ((aw_eq (hA _ (oe_lt hE hlt)).1 (by omega)).mpr hz), hig]
        · rw [if_neg (fun q => hz ((aw_eq (hA _ (oe_lt hE hlt)).1 (by omega)).mp q)), pu_lt, nI_1]
          exact hgo (fun q => hz ((IA_dm hI (by decide) (oe_lt hE hlt) (by omega)).mpr q.2.2))
      · rw [if_neg ht, if_pos rfl, pu_lt, nI_1]
        exact hgo (fun q => ht q.2.1)
    · rw [if_neg hp, if_pos rfl, pu_lt, nI_1]
      exact hgo (fun q => hp q.1)
theorem pu_near0 {N F S g : Nat} {fr tt l : Nat → Int32} {a c W : Nat → Nat} {k : Nat} (hF : F ≤ 10) (hS : S < 1024) (hE : Ends F fr tt a c) (hk : k < 6) (hlk : l k = nI 0) : ∀ (n i : Nat), i ≤ F → F - i < n → fX4_firstFlowNearer_L2 N n (nI k) (nI S) (nI i) (nI F) fr tt l = some (.inr ()) := by
  intro n
  induction n with
  | zero => intro i h1 h2; omega
  | succ n ih =>
    intro i h1 h2
    unfold fX4_firstFlowNearer_L2
    by_cases hi : i = F
    · subst hi
      rw [if_pos (nI_le (Nat.le_refl _) (by omega))]
    · have hlt : i < F := by omega
      have ih' := ih (i + 1) (by omega) (by omega)
      rw [if_neg (nI_ge hlt (by omega)), pu_holds hS (by omega), Option.bind_some]
      by_cases hp : S.testBit i = true
      · rw [if_pos hp, if_neg (show ¬ (1 : Int32) = 0 by decide), pu_touches hF hE hlt hk, Option.bind_some]
        by_cases ht : a i = k ∨ c i = k
        · rw [if_pos ht, if_neg (show ¬ (1 : Int32) = 0 by decide), pu_rd hk (by decide), Option.bind_some, hlk, if_pos (show nI 0 ≤ 0 by decide), pu_lt, nI_1]
          exact ih'
        · rw [if_neg ht, if_pos rfl, pu_lt, nI_1]
          exact ih'
      · rw [if_neg hp, if_pos rfl, pu_lt, nI_1]
        exact ih'
theorem pu_leads {F R g k d f : Nat} {fr tt b l : Nat → Int32} {a c V : Nat → Nat} (hF : F ≤ 10) (hM : Mb F R fr tt b) (hE : Ends F fr tt a c) (hL : Lr l V) (hV : ∀ k, V k ≤ 99) (hk : k < 6) (hVk : V k = d + 1) (hf : f < F) : fX5_leads b l (nI f) (nI k) = some (if (a f = k ∨ c f = k) ∧ V (oe a c f k) = d then 1 else 0) := by
  obtain ⟨g1, g2, g3, e1, e2⟩ := hE f hf
  obtain ⟨m0, m1, -⟩ := hM.2 f hf
  have v1 := hV (a f)
  have v2 := hV (c f)
  have v3 := hV k
  unfold fX5_leads oe
  rw [pu_get (f := f) (x := 0) 0 rfl (by omega), Option.bind_some, m0, e1, pu_get (f := f) (x := 1) 1 rfl (by omega), Option.bind_some, m1, e2]
  by_cases q1 : a f = k
  · rw [if_pos (by rw [q1]), pu_rd g2 (by decide), Option.bind_some, pu_rd hk (by decide), Option.bind_some, hL _ g2, hL _ hk, hVk, show nI (d + 1) - 1 = nI d from pk_sub (a := d + 1) (b := 1) (by omega), if_pos q1]
    by_cases q2 : V (c f) = d
    · rw [if_pos (by rw [q2]), if_pos ⟨Or.inl q1, q2⟩]
    · rw [if_neg (fun q => q2 ((nI_eq (by omega) (by omega)).mp q)), Option.bind_some, if_neg (fun q => g3 (q1.trans ((nI_eq (by omega) (by omega)).mp q).symm)), if_neg (fun q => q2 q.2)]
  · rw [if_neg (fun q => q1 ((nI_eq (by omega) (by omega)).mp q)), Option.bind_some, if_neg q1]
    by_cases q2 : c f = k
    · rw [if_pos (by rw [q2]), Option.bind_some, pu_rd g1 (by decide), Option.bind_some, pu_rd hk (by decide), Option.bind_some, hL _ g1, hL _ hk, hVk, show nI (d + 1) - 1 = nI d from pk_sub (a := d + 1) (b := 1) (by omega)]
      by_cases q3 : V (a f) = d
      · rw [if_pos (by rw [q3]), if_pos ⟨Or.inr q2, q3⟩]
      · rw [if_neg (fun q => q3 ((nI_eq (by omega) (by omega)).mp q)), if_neg (fun q => q3 q.2)]
    · rw [if_neg (fun q => q2 ((nI_eq (by omega) (by omega)).mp q)), if_neg (fun q => by
        rcases q.1 with z | z
        · exact q1 z
        · exact q2 z)]
theorem pu_search {N F R g k d g0 f : Nat} {y2 y6 : Int32} {fr tt b l : Nat → Int32} {a c V : Nat → Nat} {P : Nat → Bool} (hF : F ≤ 10) (hM : Mb F R fr tt b) (hE : Ends F fr tt a c) (hf : f < F) (hP : ∀ g, g < F → P g = (!R.testBit g && !decide (g = f))) (hL : Lr l V) (hSF : SF P a c F g V) (hC : CF P a c F g 6 V) (hk : k < 6) (hd : d ≤ 5) (hkd : dm P a c F g k (d + 1)) (hg0 : g0 < F) (h0 : ldg P a c F g k d g0) (hlt0 : ∀ x, x < g0 → ¬ ldg P a c F g k d x) : ∀ (n i : Nat), i ≤ g0 → F - i < n → fX5_round_L259 N n (nI f) y2 (nI k) y6 (nI i) b l = some (nI g0) := by
  have hVk : V k = d + 1 := (CF_dm hSF hC (by decide) (by omega)).mpr hkd
  intro n
  induction n with
  | zero => intro i h1 h2; omega
  | succ n ih =>
    intro i h1 h2
    have hlt : i < F := by omega
    unfold fX5_round_L259
    rw [pu_isRead hF hM hlt, Option.bind_some]
    have hgo : ¬ ldg P a c F g k d i → fX5_round_L259 N n (nI f) y2 (nI k) y6 (nI (i + 1)) b l = some (nI g0) := fun hn => by
      have : i ≠ g0 := fun q => hn (by rw [q]; exact h0)
      exact ih (i + 1) (by omega) (by omega)
    by_cases hb : R.testBit i = true
    · rw [if_pos hb, if_neg (show ¬ (1 : Int32) = 0 by decide), pu_lt, nI_1]
      exact hgo (fun q => by
        have := q.1
        rw [hP i hlt, hb] at this
        exact absurd this (by simp))
    · rw [if_neg hb, if_pos rfl]
      by_cases hif : i = f
      · rw [if_pos (by rw [hif]), pu_lt, nI_1]
        exact hgo (fun q => by
          have := q.1
          rw [hP i hlt] at this
          simp [hif] at this)
      · have hp : P i = true := by rw [hP i hlt]; simp [hif, hb]
        rw [if_neg (fun q => hif ((nI_eq (by omega) (by omega)).mp q)), pu_leads (g := g) hF hM hE hL (fun k => (hSF k).1) hk hVk hlt, Option.bind_some]
        by_cases hz : (a i = k ∨ c i = k) ∧ V (oe a c i k) = d
        · have hl : ldg P a c F g k d i := ⟨hp, hz.1, (CF_dm hSF hC (by decide) (by omega)).mp hz.2⟩
          have hig : i = g0 := by
            by_cases q : i < g0
            · exact absurd hl (hlt0 i q)
            · omega
          rw [if_pos hz, if_neg (show ¬ (1 : Int32) = 0 by decide), hig]
        · rw [if_neg hz, if_pos rfl, pu_lt, nI_1]
          exact hgo (fun q => hz ⟨q.2.1, (CF_dm hSF hC (by decide) (by omega)).mpr q.2.2⟩)
theorem ldg_ex {P : Nat → Bool} {a c : Nat → Nat} {F g k d : Nat} (hac : ∀ f, f < F → a f ≠ c f) (h : dm P a c F g k (d + 1)) : ∃ g0, g0 < F ∧ ldg P a c F g k d g0 ∧ ∀ x, x < g0 → ¬ ldg P a c F g k d x := by
  obtain ⟨f, hf, hp, q⟩ := dm_next h
  have hl : ldg P a c F g k d f := by
    unfold ldg oe
    rcases q with q | q
    · rw [if_pos q.1]
      exact ⟨hp, Or.inl q.1, q.2⟩
    · rw [if_neg (fun z => hac f hf (z.trans q.1.symm))]
      exact ⟨hp, Or.inr q.1, q.2⟩
  obtain ⟨m, h1, h2, h3⟩ := ex_least f hl
  exact ⟨m, by omega, h2, h3⟩
/-- the walk along the round, in the class and in the reference -/
theorem pu_walk {N F R S g f i : Nat} {fr tt b l lf : Nat → Int32} {a c V W : Nat → Nat} (hN : 5000 ≤ N) (hF : F ≤ 10) (hS : S < 1024) (hM : Mb F R fr tt b) (hE : Ends F fr tt a c) (hf : f < F) (hP : ∀ g, g < F → S.testBit g = (!R.testBit g && !decide (g = f))) (hA : Aw l W) (hI : IA S.testBit a c F g 6 W) (hL : Lr lf V) (hSF : SF S.testBit a c F g V) (hC : CF S.testBit a c F g 6 V) (hi : i < 6) : ∀ (m j k d last : Nat), j ≤ i → i - j < m → k < 6 → d ≤ 5 → last < 10 → dm S.testBit a c F g k d → ∃ r, fX4_round_L74 N m (nI i) (nI S) (nI last) (nI k) (nI j) (nI F) fr tt l = some r ∧ (fX5_round_L238 N m (nI f) (nI i) (nI k) (nI last) (nI j) b lf = some (.inr r) ∨ (fX5_round_L238 N m (nI f) (nI i) (nI k) (nI last) (nI j) b lf = some (.inl ()) ∧ r = -1)) := by
  intro m
  induction m with
  | zero => intro j k d last h1 h2; omega
  | succ m ih =>
    intro j k d last h1 h2 hk hd hlast hdm
    have hWk : W k = d := (IA_dm hI (by decide) hk (by omega)).mpr hdm
    have hVk : V k = d := (CF_dm hSF hC (by decide) (by omega)).mpr hdm
    have hlk : l k = nI d := by rw [(hA k hk).2, hWk, if_neg (by omega)]
    unfold fX4_round_L74 fX5_round_L238
    by_cases hij : j = i
    · subst hij
      rw [if_pos (nI_le (Nat.le_refl _) (by omega)), if_pos (nI_le (Nat.le_refl _) (by omega))]
      exact ⟨_, rfl, Or.inl rfl⟩
    · rw [if_neg (nI_ge (by omega) (by omega)), if_neg (nI_ge (by omega) (by omega)), if_neg (fun q => pu_m1 (v := last) (by omega) q.symm), pu_rd hk (by decide), Option.bind_some, hL k hk, hVk]
      cases d with
      | zero =>
        rw [if_pos (show nI 0 = 0 from rfl)]
        have e : fX4_firstFlowNearer N (nI F) fr tt l (nI k) (nI S) = some (-1) := by
          unfold fX4_firstFlowNearer
          rw [show fX4_firstFlowNearer_L2 N N (nI k) (nI S) 0 (nI F) fr tt l = some (.inr ()) from pu_near0 (g := g) (W := W) hF hS hE hk hlk N 0 (Nat.zero_le F) (by omega)]
          rfl
        rw [e, Option.bind_some, if_pos rfl, pu_lt, nI_1]
        refine ⟨-1, ?_, Or.inr ⟨rfl, rfl⟩⟩
        obtain ⟨m2, rfl⟩ : ∃ m2, m = m2 + 1 := ⟨m - 1, by omega⟩
        unfold fX4_round_L74
        by_cases q : nI i ≤ nI (j + 1)
        · rw [if_pos q]
        · rw [if_neg q, if_pos rfl]
      | succ d =>
        rw [if_neg (show ¬ nI (d + 1) = 0 from nI_ne0 (by omega) (by omega))]
        obtain ⟨g0, hg0, hl0, hlt0⟩ := ldg_ex (fun f hf => (hE f hf).2.2.1) hdm
        have e1 : fX4_firstFlowNearer N (nI F) fr tt l (nI k) (nI S) = some (nI g0) := by
          unfold fX4_firstFlowNearer
          rw [show fX4_firstFlowNearer_L2 N N (nI k) (nI S) 0 (nI F) fr tt l = some (.inl (nI g0)) from pu_near2 hF hS hE hA hI hk (by omega) hdm hg0 hl0 hlt0 N 0 (Nat.zero_le g0) (by omega)]
          rfl
        have e2 := pu_search (N := N) (y2 := nI i) (y6 := nI j) hF hM hE hf hP hL hSF hC hk (by omega) hdm hg0 hl0 hlt0 N 0 (Nat.zero_le g0) (by omega)
        obtain ⟨u1, u2, u3, q1, q2⟩ := hE g0 hg0
        obtain ⟨m0, m1, -⟩ := hM.2 g0 hg0
        rw [e1, Option.bind_some, if_neg (fun q => pu_m1 (v := g0) (by omega) q.symm), pu_otherEnd hF hE hg0 hk, Option.bind_some, show (0 : Int32) = nI 0 from rfl, e2, Option.bind_some, show nI 0 = (0 : Int32) from rfl, pu_get (f := g0) (x := 0) 0 rfl (by omega), Option.bind_some, m0, q1, pu_get (f := g0) (x := 1) 1 rfl (by omega), Option.bind_some, m1, q2, Option.bind_some]
        simp only [pu_lt]
        rw [nI_1]
        have := ih (j + 1) (oe a c g0 k) d g0 (by omega) (by omega) (oe_lt hE hg0) (by omega) (by omega) hl0.2.2
        by_cases z : a g0 = k
        · rw [if_pos (by rw [z])]
          have ez : oe a c g0 k = c g0 := if_pos z
          rw [ez] at this ⊢
          exact this
        · rw [if_neg (fun q => z ((nI_eq (by omega) (by omega)).mp q))]
          have ez : oe a c g0 k = a g0 := if_neg z
          rw [ez] at this ⊢
          exact this
/-- past its end a round has no flow -/
theorem pu_past {N F R g f : Nat} {x2 : Int32} {fr tt b lf : Nat → Int32} {a c V : Nat → Nat} {P : Nat → Bool} (hN : 5000 ≤ N) (hF : F ≤ 10) (hM : Mb F R fr tt b) (hE : Ends F fr tt a c) (hf : f < F) (hP : ∀ g, g < F → P g = (!R.testBit g && !decide (g = f))) (hL : Lr lf V) (hSF : SF P a c F g V) (hC : CF P a c F g 6 V) (hi : 6 ≤ x2.toInt) : ∀ (d m j k last : Nat), d < m → k < 6 → j + d ≤ 5 → dm P a c F g k d → fX5_round_L238 N m (nI f) x2 (nI k) (nI last) (nI j) b lf = some (.inl ()) := by
  intro d
  induction d with
  | zero =>
    intro m j k last h1 hk hj hdm
    obtain ⟨m2, rfl⟩ : ∃ m2, m = m2 + 1 := ⟨m - 1, by omega⟩
    have hVk : V k = 0 := (CF_dm hSF hC (by decide) (by omega)).mpr hdm
    unfold fX5_round_L238
    rw [if_neg (fun q => by
      rw [Int32.le_iff_toInt_le, nI_toInt (by omega)] at q
      omega), pu_rd hk (by decide), Option.bind_some, hL k hk, hVk, if_pos (show nI 0 = 0 from rfl)]
  | succ d ih =>
    intro m j k last h1 hk hj hdm
    obtain ⟨m2, rfl⟩ : ∃ m2, m = m2 + 1 := ⟨m - 1, by omega⟩
    have hVk : V k = d + 1 := (CF_dm hSF hC (by decide) (by omega)).mpr hdm
    unfold fX5_round_L238
    obtain ⟨g0, hg0, hl0, hlt0⟩ := ldg_ex (fun f hf => (hE f hf).2.2.1) hdm
    have e2 := pu_search (N := N) (y2 := x2) (y6 := nI j) hF hM hE hf hP hL hSF hC hk (by omega) hdm hg0 hl0 hlt0 N 0 (Nat.zero_le g0) (by omega)
    obtain ⟨u1, u2, u3, q1, q2⟩ := hE g0 hg0
    obtain ⟨m0, m1, -⟩ := hM.2 g0 hg0
    rw [if_neg (fun q => by
      rw [Int32.le_iff_toInt_le, nI_toInt (by omega)] at q
      omega), pu_rd hk (by decide), Option.bind_some, hL k hk, hVk, if_neg (show ¬ nI (d + 1) = 0 from nI_ne0 (by omega) (by omega)), show (0 : Int32) = nI 0 from rfl, e2, Option.bind_some, show nI 0 = (0 : Int32) from rfl, pu_get (f := g0) (x := 0) 0 rfl (by omega), Option.bind_some, m0, q1, pu_get (f := g0) (x := 1) 1 rfl (by omega), Option.bind_some, m1, q2, Option.bind_some]
    simp only [pu_lt]
    rw [nI_1]
    have := ih m2 (j + 1) (oe a c g0 k) g0 (by omega) (oe_lt hE hg0) (by omega) hl0.2.2
    by_cases z : a g0 = k
    · rw [if_pos (by rw [z])]
      have ez : oe a c g0 k = c g0 := if_pos z
      rw [ez] at this
      exact this
    · rw [if_neg (fun q => z ((nI_eq (by omega) (by omega)).mp q))]
      have ez : oe a c g0 k = a g0 := if_neg z
      rw [ez] at this
      exact this

set_option maxHeartbeats 4000000 in
theorem ps_round {N : Nat} (hN : 5000 ≤ N) : ob_round N yInv := by
  intro kn fl rs fr tt rd ms pr kd ln sh nx ct kK fK rK frK ttK rdK msK prK kdK lnK shK s_x_groups_least s_x_fit_unread s_x_fit_below s_x_fit_heaps_least s_x_fit_pieces_least s_x_fit_sides_least s_x_fit_rows s_x_fit_surplus s_x_away s_x_testAbove s_x_testBelow mn s_m_below s_m_above1 s_m_below1 nw bf s_m_heapOf s_m_partOf s_m_place s_m_matrix s_m_right s_m_force s_m_work s_m_side s_m_far s_m_fallAbove s_m_fallBelow s_m_ranks s_m_was hI x1 x2
  obtain ⟨⟨K, F, R, hW⟩, hP⟩ := id hI
  have hK := hW.2.1
  have hF := hW.2.2.1
  have hR := hW.2.2.2.1
  have hkn : kn = nI K := hW.2.2.2.2.1
  have hfl : fl = nI F := hW.2.2.2.2.2.1
  have hrs : rs = nI R := hW.2.2.2.2.2.2.1
  have hb0 := hW.2.2.2.2.2.2.2.1
  have hb := hW.2.2.2.2.2.2.2.2.1
  subst hkn
  subst hfl
  subst hrs
  rcases pu_flow hF hb x1 with ⟨f, hf, rfl, c1, c2⟩ | ⟨c1, c2⟩
  · obtain ⟨l1, e1⟩ := pu_isSeenC (l := s_x_groups_least) hN hF (pu_1024 hR hF) hW.ends hf
    obtain ⟨s1, e2⟩ := pu_isSeenM (l := s_m_side) hN hF hW.mb hW.ends hf
    obtain ⟨g1, g2, g3, q1, q2⟩ := hW.ends f hf
    obtain ⟨m0, m1, -⟩ := hW.mb.2 f hf
    have hS1 := clr_1024 (R := R) (f := f) hF
    have hPP : ∀ g, g < F → (clr (unr F R) f).testBit g = (!R.testBit g && !decide (g = f)) := fun g hg => clr_P hF hg
    by_cases hs : isSn F R (eA fr) (eA tt) f = true
    · by_cases hx : x2 < 0 ∨ 6 ≤ x2
      · refine ⟨-1, s_x_groups_least, s_x_away, s1, s_m_far, ?_, ?_, hI⟩
        · unfold fX4_round
          rw [c1, Option.bind_some, if_neg (show ¬ (1 : Int32) = 0 by decide)]
          by_cases z : x2 < 0
          · rw [if_pos z]
          · rw [if_neg z, if_pos (hx.resolve_left z)]
        · unfold fX5_round
          rw [c2, Option.bind_some, if_neg (show ¬ (1 : Int32) = 0 by decide), e2, Option.bind_some]
          dsimp only
          rw [if_pos hs, if_neg (show ¬ (1 : Int32) = 0 by decide)]
      · refine ⟨-1, l1, s_x_away, s1, s_m_far, ?_, ?_, hI⟩
        · unfold fX4_round
          rw [c1, Option.bind_some, if_neg (show ¬ (1 : Int32) = 0 by decide), if_neg (fun z => hx (Or.inl z)), if_neg (fun z => hx (Or.inr z)), e1, Option.bind_some]
          dsimp only
          rw [if_pos hs, if_neg (show ¬ (1 : Int32) = 0 by decide)]
        · unfold fX5_round
          rw [c2, Option.bind_some, if_neg (show ¬ (1 : Int32) = 0 by decide), e2, Option.bind_some]
          dsimp only
          rw [if_pos hs, if_neg (show ¬ (1 : Int32) = 0 by decide)]
    · obtain ⟨aw, W, w1, w2, w3⟩ := pu_away (l := s_x_away) (g := eA fr f) hN hF hS1 hW.ends g1
      obtain ⟨f1, v1, v2⟩ := pu_far32 (N := N) (y1 := nI f) (y2 := x2) g1 N 0 s_m_far (by decide) (by omega) (fun k hk => absurd hk (Nat.not_lt_zero k))
      obtain ⟨f2, V, u1, u2, u3, u4⟩ := pu_far67 (y2 := x2) (g := eA fr f) hN hF hW.mb hW.ends hf hPP N 0 f1 _ (by decide) (by omega) v2 (fun k => by
        by_cases z : k = eA fr f
        · rw [if_pos z]
          refine ⟨by omega, fun _ => ?_⟩
          show decide (k = eA fr f) = true
          simp [z]
        · rw [if_neg z]
          exact ⟨Nat.le_refl _, fun q => absurd q (Nat.lt_irrefl _)⟩) (fun d hd k hk => by
        have : d = 0 := by omega
        subst this
        have : decide (k = eA fr f) = true := hk
        rw [if_pos (by simpa using this)]
        omega)
      have hbl : bl (clr (unr F R) f).testBit (eA fr) (eA tt) F (eA fr f) 5 (eA tt f) = true := by
        have hcl := bl_closed (P := (clr (unr F R) f).testBit) (a := eA fr) (c := eA tt) (F := F) (g := eA fr f) (fun f hf => ⟨(hW.ends f hf).1, (hW.ends f hf).2.1⟩) g1
        have hgat : gat (clr (unr F R) f).testBit (eA fr) (eA tt) F (eA tt f) = gat (clr (unr F R) f).testBit (eA fr) (eA tt) F (eA fr f) := by
          unfold isSn at hs
          rw [Bool.or_eq_true, not_or] at hs
          have := hs.2
          simp only [Bool.not_eq_true', decide_eq_false_iff_not, Classical.not_not] at this
          exact this.symm
        have := gat_factor F hcl _ _ hgat
        rw [this]
        have z : bl (clr (unr F R) f).testBit (eA fr) (eA tt) F (eA fr f) 0 (eA fr f) = true := by
          show decide (eA fr f = eA fr f) = true
          simp
        exact bl_le z 5 (by decide)
      obtain ⟨d, hd, hdm⟩ := dm_ex 5 hbl
      have hC : ∀ y, ¬ x2 < 0 → ¬ 6 ≤ x2 → fX4_round_L74 N N x2 (nI (clr (unr F R) f)) (nI f) (nI (eA tt f)) 0 (nI F) fr tt aw = some y → fX4_round N (nI F) (nI R) fr tt s_x_groups_least s_x_away (nI f) x2 = some (y, l1, aw) := fun y z1 z2 hy => by
        unfold fX4_round
        rw [c1, Option.bind_some, if_neg (show ¬ (1 : Int32) = 0 by decide), if_neg z1, if_neg z2, e1, Option.bind_some]
        dsimp only
        rw [if_neg hs, if_pos rfl, pu_unread hF, Option.bind_some, pu_bit (by omega), Option.bind_some, pu_lt, pu_not, pu_and, show unr F R &&& (2 ^ f ^^^ 4294967295) = clr (unr F R) f from rfl, pu_rd (by omega) (by decide), Option.bind_some, q1, w1, Option.bind_some, pu_rd (by omega) (by decide), Option.bind_some, q2, hy, Option.bind_some]
      have hM : ∀ y, 0 ≤ x2 → ((∃ r, fX5_round_L238 N N (nI f) x2 (nI (eA tt f)) (nI f) 0 nw f2 = some (.inr r) ∧ y = r) ∨ (fX5_round_L238 N N (nI f) x2 (nI (eA tt f)) (nI f) 0 nw f2 = some (.inl ()) ∧ y = -1)) → fX5_round N nw s_m_side s_m_far (nI f) x2 = some (y, s1, f2) := fun y z1 hy => by
        unfold fX5_round
        rw [c2, Option.bind_some, if_neg (show ¬ (1 : Int32) = 0 by decide), e2, Option.bind_some]
        dsimp only
        rw [if_neg hs, if_pos rfl, if_pos z1, pu_get (f := f) (x := 0) 0 rfl (by omega), Option.bind_some, m0, q1, show fX5_round_L32 N N (nI f) x2 (nI (eA fr f)) 0 s_m_far = some f1 from v1, Option.bind_some, show fX5_round_L67 N N (nI f) x2 0 nw f1 = some f2 from u1, Option.bind_some, pu_get (f := f) (x := 1) 1 rfl (by omega), Option.bind_some, m1, q2]
        rcases hy with ⟨r, hy, rfl⟩ | ⟨hy, rfl⟩
        · rw [hy]
          rfl
        · rw [hy]
          rfl
      by_cases z1 : x2 < 0
      · refine ⟨-1, s_x_groups_least, s_x_away, s1, s_m_far, ?_, ?_, hI⟩
        · unfold fX4_round
          rw [c1, Option.bind_some, if_neg (show ¬ (1 : Int32) = 0 by decide), if_pos z1]
        · unfold fX5_round
          rw [c2, Option.bind_some, if_neg (show ¬ (1 : Int32) = 0 by decide), e2, Option.bind_some]
          dsimp only
          rw [if_neg hs, if_pos rfl, if_neg (fun q => by
            rw [Int32.le_iff_toInt_le] at q
            rw [Int32.lt_iff_toInt_lt] at z1
            omega)]
      · have z1' : 0 ≤ x2 := by
          rw [Int32.lt_iff_toInt_lt] at z1
          rw [Int32.le_iff_toInt_le]
          omega
        by_cases z2 : 6 ≤ x2
        · refine ⟨-1, s_x_groups_least, s_x_away, s1, f2, ?_, ?_, hI⟩
          · unfold fX4_round
            rw [c1, Option.bind_some, if_neg (show ¬ (1 : Int32) = 0 by decide), if_neg z1, if_pos z2]
          · refine hM (-1) z1' (Or.inr ⟨?_, rfl⟩)
            have h6 : 6 ≤ x2.toInt := by
              rw [Int32.le_iff_toInt_le] at z2
              exact z2
            exact pu_past hN hF hW.mb hW.ends hf hPP u2 u3 u4 h6 d N 0 (eA tt f) f (by omega) g2 (by omega) hdm
        · have hx : ∃ i, i < 6 ∧ x2 = nI i := by
            rcases pk_ix x2 (n := 6) (by decide) with h | h | h
            · exact absurd h z1
            · exact absurd h z2
            · exact h
          obtain ⟨i, hi, rfl⟩ := hx
          obtain ⟨r, y1, y2⟩ := pu_walk hN hF hS1 hW.mb hW.ends hf hPP w2 w3 u2 u3 u4 hi N 0 (eA tt f) d f (by omega) (by omega) g2 hd (by omega) hdm
          refine ⟨r, l1, aw, s1, f2, hC r z1 z2 y1, hM r z1' ?_, hI⟩
          rcases y2 with y2 | ⟨y2, y3⟩
          · exact Or.inl ⟨r, y2, rfl⟩
          · exact Or.inr ⟨y2, y3⟩
  · refine ⟨-1, s_x_groups_least, s_x_away, s_m_side, s_m_far, ?_, ?_, hI⟩
    · unfold fX4_round
      rw [c1, Option.bind_some, if_pos rfl]
    · unfold fX5_round
      rw [c2, Option.bind_some, if_pos rfl]
