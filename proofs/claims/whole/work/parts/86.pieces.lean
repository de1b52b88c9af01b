/-! ===== the reference's pieces ===== -/
theorem pu_parts76 {N p q : Nat} (hp : p < 6) (hq : q < 6) {y1 y2 : Int32} : ∀ (n i : Nat) (l : Nat → Int32), i ≤ 6 → 6 - i < n → fX5_solves_L76 N n y1 y2 (nI p) (nI q) (nI i) l = some (fun k => if i ≤ k ∧ k < 6 ∧ l k = nI (max p q) then nI (min p q) else l k) := by
  intro n
  induction n with
  | zero => intro i l h1 h2; omega
  | succ n ih =>
    intro i l h1 h2
    unfold fX5_solves_L76
    by_cases h : i = 6
    · subst h
      rw [if_pos (show (6 : Int32) ≤ nI 6 from nI_le (a := 6) (Nat.le_refl _) (by decide))]
      refine congrArg some (funext fun k => ?_)
      rw [if_neg (by omega)]
    · rw [if_neg (show ¬ (6 : Int32) ≤ nI i from nI_ge (b := 6) (by omega) (by decide)), pu_rd (by omega) (by decide), Option.bind_some]
      have hyes : l i = nI (max p q) → fX5_solves_L76 N n y1 y2 (nI p) (nI q) (nI (i + 1)) (ya_up l i (nI (min p q))) = some (fun k => if i ≤ k ∧ k < 6 ∧ l k = nI (max p q) then nI (min p q) else l k) := fun hv => by
        rw [ih (i + 1) _ (by omega) (by omega)]
        refine congrArg some (funext fun k => ?_)
        by_cases hk : k = i
        · subst hk
          rw [if_neg (by omega), if_pos ⟨Nat.le_refl _, by omega, hv⟩, ya_up_eq]
        · rw [ya_up_ne hk]
          by_cases hc : i + 1 ≤ k ∧ k < 6 ∧ l k = nI (max p q)
          · rw [if_pos hc, if_pos ⟨by omega, hc.2.1, hc.2.2⟩]
          · rw [if_neg hc, if_neg (fun z => hc ⟨by omega, z.2.1, z.2.2⟩)]
      have hno : ¬ l i = nI (max p q) → fX5_solves_L76 N n y1 y2 (nI p) (nI q) (nI (i + 1)) l = some (fun k => if i ≤ k ∧ k < 6 ∧ l k = nI (max p q) then nI (min p q) else l k) := fun hv => by
        rw [ih (i + 1) _ (by omega) (by omega)]
        refine congrArg some (funext fun k => ?_)
        by_cases hc : i + 1 ≤ k ∧ k < 6 ∧ l k = nI (max p q)
        · rw [if_pos hc, if_pos ⟨by omega, hc.2.1, hc.2.2⟩]
        · rw [if_neg hc, if_neg (fun z => hc ⟨by
            have := z.1
            by_cases e : k = i
            · subst e; exact absurd z.2.2 hv
            · omega, z.2.1, z.2.2⟩)]
      by_cases hpq : p ≤ q
      · rw [if_pos (nI_le hpq (by omega))]
        rw [Nat.max_eq_right hpq, Nat.min_eq_left hpq] at hyes hno ⊢
        by_cases hv : l i = nI q
        · rw [if_pos hv]
          by_cases e : q ≤ p
          · have : p = q := by omega
            subst this
            rw [if_pos (nI_le e (by omega)), pu_wr (by omega) (by decide), Option.bind_some, pu_lt, nI_1]
            exact hyes hv
          · rw [if_neg (nI_ge (by omega) (by omega)), pu_wr (by omega) (by decide), Option.bind_some, pu_lt, nI_1]
            exact hyes hv
        · rw [if_neg hv, pu_lt, nI_1]
          exact hno hv
      · rw [if_neg (nI_ge (by omega) (by omega))]
        rw [Nat.max_eq_left (by omega), Nat.min_eq_right (by omega)] at hyes hno ⊢
        by_cases hv : l i = nI p
        · rw [if_pos hv, if_pos (nI_le (by omega) (by omega)), pu_wr (by omega) (by decide), Option.bind_some, pu_lt, nI_1]
          exact hyes hv
        · rw [if_neg hv, pu_lt, nI_1]
          exact hno hv

def gl (L0 a c : Nat → Nat) : Nat → Nat → Nat
  | 0 => L0
  | i + 1 => jn (gl L0 a c i) (a i) (c i)
theorem gl_le {L0 a c : Nat → Nat} (h : ∀ k, L0 k ≤ k) : ∀ i k, gl L0 a c i k ≤ k
  | 0, k => h k
  | i + 1, k => by
    have ih := gl_le (a := a) (c := c) h i
    show jn (gl L0 a c i) (a i) (c i) k ≤ k
    unfold jn
    have := ih k
    split <;> omega
theorem gl_conn {L0 a c : Nat → Nat} : ∀ i f, f < i → gl L0 a c i (a f) = gl L0 a c i (c f)
  | 0, f, h => absurd h (Nat.not_lt_zero f)
  | i + 1, f, h => by
    show jn (gl L0 a c i) (a i) (c i) (a f) = jn (gl L0 a c i) (a i) (c i) (c f)
    by_cases e : f = i
    · subst e
      rw [jn_left, jn_right]
    · exact jn_keep (gl_conn i f (by omega))
theorem gl_in {L0 a c M : Nat → Nat} {F : Nat} (h0 : ∀ k, M (L0 k) = M k) (hM : ∀ f, f < F → M (a f) = M (c f)) : ∀ i, i ≤ F → ∀ k, M (gl L0 a c i k) = M k
  | 0, _, k => h0 k
  | i + 1, hi, k => by
    have ih := gl_in h0 hM i (by omega)
    show M (jn (gl L0 a c i) (a i) (c i) k) = M k
    have h1 := ih (a i)
    have h2 := ih (c i)
    have h3 := ih k
    have h4 := hM i (by omega)
    unfold jn
    by_cases e : gl L0 a c i k = max (gl L0 a c i (a i)) (gl L0 a c i (c i))
    · rw [if_pos e]
      have hk : M k = M (a i) := by
        rw [← h3, e]
        by_cases z : gl L0 a c i (a i) ≤ gl L0 a c i (c i)
        · rw [Nat.max_eq_right z, h2, h4]
        · rw [Nat.max_eq_left (by omega), h1]
      rw [hk]
      by_cases z : gl L0 a c i (a i) ≤ gl L0 a c i (c i)
      · rw [Nat.min_eq_left z, h1]
      · rw [Nat.min_eq_right (by omega), h2, h4]
    · rw [if_neg e, h3]
theorem gl_gat {P Q : Nat → Bool} {a c : Nat → Nat} {F : Nat} (hQ : ∀ f, f < F → Q f = true) : gl (gat P a c F) a c F = gat Q a c F := by
  funext k
  have hM : ∀ f, f < F → gat Q a c F (a f) = gat Q a c F (c f) := fun f hf => gat_conn Q a c F f hf (hQ f hf)
  have h1 := gl_in (L0 := gat P a c F) (M := gat Q a c F) (fun k => gat_sub (Nat.le_refl F) (fun f hf _ => hQ f hf) (gat_idem P a c F k)) hM F (Nat.le_refl F) k
  have h2 := gat_factor (P := Q) (s := gl (gat P a c F) a c F) F (fun f hf _ => gl_conn F f hf) (gat Q a c F k) k (gat_idem Q a c F k)
  have h3 := gl_le (a := a) (c := c) (gat_le P a c F) F (gat Q a c F k)
  have h4 := gat_le Q a c F (gl (gat P a c F) a c F k)
  rw [h2] at h3
  rw [h1] at h4
  omega
theorem pu_so40 {N F R : Nat} {y1 : Int32} {fr tt b : Nat → Int32} {a c : Nat → Nat} (hN : 5000 ≤ N) (hF : F ≤ 10) (hM : Mb F R fr tt b) (hE : Ends F fr tt a c) {L0 : Nat → Nat} (hle : ∀ k, L0 k ≤ k) : ∀ (n i : Nat) (l : Nat → Int32), i ≤ F → F - i < n → Lr l (gl L0 a c i) → ∃ l', fX5_solves_L40 N n y1 (nI i) b l = some l' ∧ Lr l' (gl L0 a c F) := by
  intro n
  induction n with
  | zero => intro i l h1 h2; omega
  | succ n ih =>
    intro i l h1 h2 hL
    unfold fX5_solves_L40
    rw [pu_flows, hM.1, Option.bind_some]
    by_cases hi : i = F
    · subst hi
      rw [if_pos (nI_le (Nat.le_refl _) (by omega))]
      exact ⟨l, rfl, hL⟩
    · have hlt : i < F := by omega
      obtain ⟨g1, g2, -, e1, e2⟩ := hE i hlt
      obtain ⟨m0, m1, -⟩ := hM.2 i hlt
      have h3 := gl_le (a := a) (c := c) hle i (a i)
      have h4 := gl_le (a := a) (c := c) hle i (c i)
      rw [if_neg (nI_ge hlt (by omega)), pu_get (f := i) (x := 0) 0 rfl (by omega), Option.bind_some, m0, e1, pu_rd g1 (by decide), Option.bind_some, pu_get (f := i) (x := 1) 1 rfl (by omega), Option.bind_some, m1, e2, pu_rd g2 (by decide), Option.bind_some, hL _ g1, hL _ g2, show (0 : Int32) = nI 0 from rfl, pu_parts76 (by omega) (by omega) N 0 l (by decide) (by omega), Option.bind_some, pu_lt, nI_1]
      refine ih (i + 1) _ (by omega) (by omega) (fun k hk => ?_)
      have h5 := gl_le (a := a) (c := c) hle i k
      show (if _ then _ else _) = nI (jn (gl L0 a c i) (a i) (c i) k)
      rw [hL k hk]
      unfold jn
      by_cases hq : gl L0 a c i k = max (gl L0 a c i (a i)) (gl L0 a c i (c i))
      · rw [if_pos hq, if_pos ⟨Nat.zero_le _, hk, by rw [hq]⟩]
      · rw [if_neg hq, if_neg (fun q => hq ((nI_eq (by omega) (by omega)).mp q.2.2))]
theorem gl_fix {L a c : Nat → Nat} {F : Nat} (h : ∀ f, f < F → L (a f) = L (c f)) : ∀ i, i ≤ F → gl L a c i = L
  | 0, _ => rfl
  | i + 1, hi => by
    show jn (gl L a c i) (a i) (c i) = L
    rw [gl_fix h i (by omega), jn_same (h i (by omega))]
theorem pu_so32 {N F R : Nat} {fr tt b : Nat → Int32} {a c L : Nat → Nat} (hN : 5000 ≤ N) (hF : F ≤ 10) (hM : Mb F R fr tt b) (hE : Ends F fr tt a c) (hle : ∀ k, L k ≤ k) (hc : ∀ f, f < F → L (a f) = L (c f)) : ∀ (n i : Nat) (l : Nat → Int32), i ≤ 6 → 6 - i < n → Lr l L → ∃ l', fX5_solves_L32 N n (nI i) b l = some l' ∧ Lr l' L := by
  intro n
  induction n with
  | zero => intro i l h1 h2; omega
  | succ n ih =>
    intro i l h1 h2 hL
    unfold fX5_solves_L32
    by_cases h : i = 6
    · subst h
      rw [if_pos (show (6 : Int32) ≤ nI 6 from nI_le (a := 6) (Nat.le_refl _) (by decide))]
      exact ⟨l, rfl, hL⟩
    · obtain ⟨l', e, h'⟩ := pu_so40 (y1 := nI i) hN hF hM hE hle N 0 l (Nat.zero_le F) (by omega) hL
      rw [gl_fix hc F (Nat.le_refl F)] at h'
      rw [if_neg (show ¬ (6 : Int32) ≤ nI i from nI_ge (b := 6) (by omega) (by decide)), show (0 : Int32) = nI 0 from rfl, e, Option.bind_some, pu_lt, nI_1]
      exact ih (i + 1) l' (by omega) (by omega) h'
theorem pu_so6 {N : Nat} {lh : Nat → Int32} : ∀ (n i : Nat) (l : Nat → Int32), i ≤ 6 → 6 - i < n → (∀ k, k < i → l k = lh k) → ∃ l', fX5_solves_L6 N n (nI i) lh l = some l' ∧ ∀ k, k < 6 → l' k = lh k := by
  intro n
  induction n with
  | zero => intro i l h1 h2; omega
  | succ n ih =>
    intro i l h1 h2 h3
    unfold fX5_solves_L6
    by_cases h : i = 6
    · subst h
      rw [if_pos (show (6 : Int32) ≤ nI 6 from nI_le (a := 6) (Nat.le_refl _) (by decide))]
      exact ⟨l, rfl, h3⟩
    · rw [if_neg (show ¬ (6 : Int32) ≤ nI i from nI_ge (b := 6) (by omega) (by decide)), pu_rd (by omega) (by decide), Option.bind_some, pu_wr (by omega) (by decide), Option.bind_some, pu_lt, nI_1]
      refine ih (i + 1) _ (by omega) (by omega) (fun k hk => ?_)
      by_cases q : k = i
      · subst q
        rw [ya_up_eq]
      · rw [ya_up_ne q]
        exact h3 k (by omega)
/-- the pieces -/
theorem pu_pieces {N F R : Nat} {fr tt b lh lp : Nat → Int32} {a c : Nat → Nat} {P Q : Nat → Bool} (hN : 5000 ≤ N) (hF : F ≤ 10) (hM : Mb F R fr tt b) (hE : Ends F fr tt a c) (hL : Lr lh (gat P a c F)) (hQ : ∀ f, f < F → Q f = true) : ∃ l1 l2, fX5_solves_L6 N N 0 lh lp = some l1 ∧ fX5_solves_L32 N N 0 b l1 = some l2 ∧ Lr l2 (gat Q a c F) := by
  obtain ⟨l1, e1, h1⟩ := pu_so6 (N := N) (lh := lh) N 0 lp (by decide) (by omega) (fun k hk => absurd hk (Nat.not_lt_zero k))
  obtain ⟨l2, e2, h2⟩ := pu_so40 (y1 := nI 0) hN hF hM hE (gat_le P a c F) N 0 l1 (Nat.zero_le F) (by omega) (fun k hk => by rw [h1 k hk]; exact hL k hk)
  rw [gl_gat hQ] at h2
  obtain ⟨X, rfl⟩ : ∃ X, N = X + 1 := ⟨N - 1, by omega⟩
  obtain ⟨l3, e3, h3⟩ := pu_so32 hN hF hM hE (gat_le Q a c F) (fun f hf => gat_conn Q a c F f hf (hQ f hf)) X 1 l2 (by decide) (by omega) h2
  refine ⟨l1, l3, e1, ?_, h3⟩
  unfold fX5_solves_L32
  rw [if_neg (show ¬ (6 : Int32) ≤ 0 by decide), show fX5_solves_L40 (X + 1) (X + 1) 0 0 b l1 = some l2 from e2, Option.bind_some, pu_lt, show (0 : Int32) + 1 = nI 1 from rfl, e3]
/-! ===== the reference's system ===== -/
def plv (hr : Nat → Bool) (k : Nat) : Int32 := if hr k then nI (plc hr k) else -1
theorem pu_so146 {N K : Nat} {b lh lp : Nat → Int32} {L M : Nat → Nat} (hK : K ≤ 6) (hb0 : b 0 = nI K) (hL : Lr lh L) (hM : Lr lp M) (h1 : ∀ k, L k ≤ k) (h2 : ∀ k, M k ≤ k) : ∀ (n i : Nat) (pl : Nat → Int32), i ≤ K → K - i < n → (∀ k, k < i → pl k = plv (hrw L M) k) → ∃ pl', fX5_solves_L146 N n (nI (plc (hrw L M) i)) (nI i) b lh lp pl = some (nI (plc (hrw L M) K), pl') ∧ ∀ k, k < K → pl' k = plv (hrw L M) k := by
  intro n
  induction n with
  | zero => intro i pl g1 g2; omega
  | succ n ih =>
    intro i pl g1 g2 hp
    unfold fX5_solves_L146
    rw [pu_knots, hb0, Option.bind_some]
    by_cases hi : i = K
    · subst hi
      rw [if_pos (nI_le (Nat.le_refl _) (by omega))]
      exact ⟨pl, rfl, hp⟩
    · have hlt : i < K := by omega
      have q1 := h1 i
      have q2 := h2 i
      rw [if_neg (nI_ge hlt (by omega)), pu_wr (by omega) (by decide), Option.bind_some, pu_rd (by omega) (by decide), Option.bind_some, hL i (by omega)]
      have hno : ¬ hrw L M i = true → ∃ pl', fX5_solves_L146 N n (nI (plc (hrw L M) i)) (nI (i + 1)) b lh lp (ya_up pl i (-1)) = some (nI (plc (hrw L M) K), pl') ∧ ∀ k, k < K → pl' k = plv (hrw L M) k := fun hn => by
        have := ih (i + 1) (ya_up pl i (-1)) (by omega) (by omega) (fun k hk => by
          by_cases e : k = i
          · subst e
            rw [ya_up_eq]
            unfold plv
            rw [if_neg hn]
          · rw [ya_up_ne e]
            exact hp k (by omega))
        rw [plc_skip hn] at this
        exact this
      by_cases e1 : L i = i
      · rw [if_pos (by rw [e1]), pu_rd (by omega) (by decide), Option.bind_some, hM i (by omega)]
        by_cases e2 : M i = i
        · rw [if_pos (by rw [e2]), pu_lt, nI_1]
          exact hno (by unfold hrw; simp [e2])
        · have hy : hrw L M i = true := by
            unfold hrw
            simp [e1, e2]
          rw [if_neg (fun q => e2 ((nI_eq (by omega) (by omega)).mp q)), pu_wr (by omega) (by decide), Option.bind_some, pu_lt, pu_lt, nI_1, nI_1]
          have := ih (i + 1) (ya_up (ya_up pl i (-1)) i (nI (plc (hrw L M) i))) (by omega) (by omega) (fun k hk => by
            by_cases e : k = i
            · subst e
              rw [ya_up_eq]
              unfold plv
              rw [if_pos hy]
            · rw [ya_up_ne e, ya_up_ne e]
              exact hp k (by omega))
          rw [plc_succ hy] at this
          exact this
      · rw [if_neg (fun q => e1 ((nI_eq (by omega) (by omega)).mp q)), pu_lt, nI_1]
        exact hno (by unfold hrw; simp [e1])
theorem pu_so202 {N : Nat} {y1 : Int32} : ∀ (n i : Nat) (m : Nat → Int64), i ≤ 36 → 36 - i < n → (∀ k, k < i → m k = oL 0) → ∃ m', fX5_solves_L202 N n y1 (nI i) m = some m' ∧ ∀ k, k < 36 → m' k = oL 0 := by
  intro n
  induction n with
  | zero => intro i m h1 h2; omega
  | succ n ih =>
    intro i m h1 h2 h3
    unfold fX5_solves_L202
    by_cases h : i = 36
    · subst h
      rw [if_pos (show (36 : Int32) ≤ nI 36 from nI_le (a := 36) (Nat.le_refl _) (by decide))]
      exact ⟨m, rfl, h3⟩
    · rw [if_neg (show ¬ (36 : Int32) ≤ nI i from nI_ge (b := 36) (by omega) (by decide)), pu_wr (by omega) (by decide), Option.bind_some, pu_lt, nI_1]
      refine ih (i + 1) _ (by omega) (by omega) (fun k hk => ?_)
      by_cases q : k = i
      · subst q
        rw [ya_up_eq]
        rfl
      · rw [ya_up_ne q]
        exact h3 k (by omega)
theorem pu_so223 {N : Nat} {y1 : Int32} : ∀ (n i : Nat) (m : Nat → Int64), i ≤ 6 → 6 - i < n → (∀ k, k < i → m k = oL 0) → ∃ m', fX5_solves_L223 N n y1 (nI i) m = some m' ∧ ∀ k, k < 6 → m' k = oL 0 := by
  intro n
  induction n with
  | zero => intro i m h1 h2; omega
  | succ n ih =>
    intro i m h1 h2 h3
    unfold fX5_solves_L223
    by_cases h : i = 6
    · subst h
      rw [if_pos (show (6 : Int32) ≤ nI 6 from nI_le (a := 6) (Nat.le_refl _) (by decide))]
      exact ⟨m, rfl, h3⟩
    · rw [if_neg (show ¬ (6 : Int32) ≤ nI i from nI_ge (b := 6) (by omega) (by decide)), pu_wr (by omega) (by decide), Option.bind_some, pu_lt, nI_1]
      refine ih (i + 1) _ (by omega) (by omega) (fun k hk => ?_)
      by_cases q : k = i
      · subst q
        rw [ya_up_eq]
        rfl
      · rw [ya_up_ne q]
        exact h3 k (by omega)
def dS (hr : Nat → Bool) (s p : Nat) : Int := if hr s = true ∧ p = plc hr s then 1 else 0
theorem pu_puts {hr : Nat → Bool} {mat : Nat → Int64} {s g : Nat} {ms : Int32} (hs : hr s = true → plc hr s < 6) (hg : hr g = true → plc hr g < 6) (hsg : hr s = true → hr g = true → plc hr s ≠ plc hr g) : ∃ mat', fX5_puts mat (plv hr s) (plv hr g) ms = some mat' ∧ ∀ p q, p < 6 → q < 6 → mat' (6 * p + q) = mat (6 * p + q) + oL (ms.toInt * (dS hr s p * (dS hr s q - dS hr g q))) := by
  have z : ∀ v : Int64, v + oL 0 = v := fun v => Int64.add_zero v
  have hm : ∀ v : Int64, v - oL ms.toInt = v + oL (- ms.toInt) := fun v => by rw [← oL_neg, Int64.sub_eq_add_neg]
  unfold fX5_puts plv
  rw [oL_i32]
  by_cases b1 : hr s = true
  · have hs' := hs b1
    rw [if_pos b1, if_neg (fun q => pu_m1 (v := plc hr s) (by omega) q.symm), show (6 * nI (plc hr s)) + nI (plc hr s) = nI (6 * plc hr s + plc hr s) from by rw [show (6 : Int32) = nI 6 from rfl, pk_mul, nI_add], pu_rd (by omega) (by decide), Option.bind_some, pu_wr (by omega) (by decide), Option.bind_some]
    by_cases b2 : hr g = true
    · have hg' := hg b2
      have hne := hsg b1 b2
      rw [if_pos b2, if_neg (fun q => pu_m1 (v := plc hr g) (by omega) q.symm), show (6 * nI (plc hr s)) + nI (plc hr g) = nI (6 * plc hr s + plc hr g) from by rw [show (6 : Int32) = nI 6 from rfl, pk_mul, nI_add], pu_rd (by omega) (by decide), Option.bind_some, pu_wr (by omega) (by decide), Option.bind_some]
      refine ⟨_, rfl, fun p q hp hq => ?_⟩
      unfold dS
      simp only [b1, b2, true_and]
      by_cases p1 : p = plc hr s
      · by_cases q1 : q = plc hr g
        · have q2 : ¬ q = plc hr s := fun e => hne (e.symm.trans q1)
          rw [p1, q1, ya_up_eq, ya_up_ne (by omega), hm]
          rw [q1] at q2
          simp [q2]
        · rw [ya_up_ne (by omega)]
          by_cases q2 : q = plc hr s
          · rw [p1, q2, ya_up_eq]
            simp [hne]
          · rw [ya_up_ne (by omega)]
            simp [p1, q1, q2, z]
      · rw [ya_up_ne (by omega), ya_up_ne (by omega)]
        simp [p1, z]
    · rw [if_neg b2, if_pos rfl]
      refine ⟨_, rfl, fun p q hp hq => ?_⟩
      unfold dS
      simp only [b1, b2, true_and, false_and]
      by_cases p1 : p = plc hr s ∧ q = plc hr s
      · rw [p1.1, p1.2, ya_up_eq]
        simp
      · rw [ya_up_ne (by omega)]
        by_cases p2 : p = plc hr s
        · have : ¬ q = plc hr s := fun e => p1 ⟨p2, e⟩
          simp [this, z]
        · simp [p2, z]
  · rw [if_neg b1, if_pos rfl]
    refine ⟨mat, rfl, fun p q hp hq => ?_⟩
    unfold dS
    simp [b1, z]
