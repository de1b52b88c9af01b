/-! ===== seen; look ===== -/
def Mx (F : Nat) (rd ms pr b : Nat → Int32) : Prop := ∀ f, f < F → b (2 + 24 * f + 3) = rd f ∧ b (2 + 24 * f + 4) = ms f ∧ b (2 + 24 * f + 5) = pr f
theorem RelW.mx {K F R : Nat} {kn fl rs : Int32} {fr tt rd ms pr kd ln sh b : Nat → Int32} (h : RelW K F R kn fl rs fr tt rd ms pr kd ln sh b) : Mx F rd ms pr b := fun f hf => by
  obtain ⟨a0, a1, a2, a3, a4, a5, a6, a7, a8, a9, a10, a11, a12, a13, a14, a15, a16⟩ := h.2.2.2.2.2.2.2.2.2 f hf
  exact ⟨a4, a7, a9⟩
theorem pu_countSeen {N F R : Nat} {fr tt b : Nat → Int32} {a c : Nat → Nat} (hN : 5000 ≤ N) (hF : F ≤ 10) (hR : R < 1024) (hM : Mb F R fr tt b) (hE : Ends F fr tt a c) : ∀ (n i : Nat) (y : Int32) (l s : Nat → Int32), i ≤ F → F - i < n → ∃ (r : Int32) (l' s' : Nat → Int32), fX4_countSeen_L4 N n y (nI i) (nI F) (nI R) fr tt l = some (r, l') ∧ fX5_look_L123 N n y (nI i) b s = some (r, s') := by
  intro n
  induction n with
  | zero => intro i y l s h1 h2; omega
  | succ n ih =>
    intro i y l s h1 h2
    unfold fX4_countSeen_L4 fX5_look_L123
    rw [pu_flows, hM.1, Option.bind_some]
    by_cases hi : i = F
    · subst hi
      rw [if_pos (nI_le (Nat.le_refl _) (by omega)), if_pos (nI_le (Nat.le_refl _) (by omega))]
      exact ⟨y, l, s, rfl, rfl⟩
    · have hlt : i < F := by omega
      obtain ⟨l', e1⟩ := pu_isSeenC (l := l) hN hF hR hE hlt
      obtain ⟨s', e2⟩ := pu_isSeenM (l := s) hN hF hM hE hlt
      rw [if_neg (nI_ge hlt (by omega)), if_neg (nI_ge hlt (by omega)), e1, e2, Option.bind_some, Option.bind_some]
      dsimp only
      by_cases hs : isSn F R a c i = true
      · rw [if_pos hs, if_neg (show ¬ (1 : Int32) = 0 by decide), if_neg (show ¬ (1 : Int32) = 0 by decide)]
        simp only [pu_lt]
        rw [nI_1]
        exact ih (i + 1) _ l' s' (by omega) (by omega)
      · rw [if_neg hs, if_pos rfl, if_pos rfl]
        simp only [pu_lt]
        rw [nI_1, Int32.add_zero]
        exact ih (i + 1) _ l' s' (by omega) (by omega)
theorem pu_look60 {N F R : Nat} {fr tt b : Nat → Int32} (hF : F ≤ 10) (hM : Mb F R fr tt b) : ∀ (n i : Nat), i ≤ F → F - i < n → fX5_look_L60 N n (nI (bc i R)) (nI i) b = some (nI (bc F R)) := by
  intro n
  induction n with
  | zero => intro i h1 h2; omega
  | succ n ih =>
    intro i h1 h2
    unfold fX5_look_L60
    rw [pu_flows, hM.1, Option.bind_some]
    by_cases hi : i = F
    · subst hi
      rw [if_pos (nI_le (Nat.le_refl _) (by omega))]
    · have hlt : i < F := by omega
      rw [if_neg (nI_ge hlt (by omega)), pu_get (f := i) (x := 2) 2 rfl (by omega), Option.bind_some, (hM.2 i hlt).2.2, pu_lt, pu_lt, nI_1, ← ih (i + 1) (by omega) (by omega)]
      refine congrArg (fun z => fX5_look_L60 N n z (nI (i + 1)) b) ?_
      show nI (bc i R) + _ = nI (bc i R + (if R.testBit i then 1 else 0))
      rw [← nI_add]
      by_cases hbit : R.testBit i = true
      · rw [if_pos hbit, if_pos hbit]; rfl
      · rw [if_neg hbit, if_neg hbit]; rfl
theorem pu_look87 {N K : Nat} {b l l' : Nat → Int32} {L : Nat → Nat} (hK : K ≤ 6) (hb : b 0 = nI K) (h1 : Lr l L) (h2 : Lr l' L) : ∀ (n i : Nat) (y : Int32), i ≤ K → K - i < n → ∃ r, fX1_howMany_L4 N n (nI K) y (nI i) l = some r ∧ fX5_look_L87 N n y (nI i) b l' = some r := by
  intro n
  induction n with
  | zero => intro i y h1 h2; omega
  | succ n ih =>
    intro i y g1 g2
    unfold fX1_howMany_L4 fX5_look_L87
    rw [pu_knots, hb, Option.bind_some]
    by_cases hi : i = K
    · subst hi
      rw [if_pos (nI_le (Nat.le_refl _) (by omega)), if_pos (nI_le (Nat.le_refl _) (by omega))]
      exact ⟨y, rfl, rfl⟩
    · have hlt : i < K := by omega
      rw [if_neg (nI_ge hlt (by omega)), if_neg (nI_ge hlt (by omega)), pu_rd (by omega) (by decide), pu_rd (by omega) (by decide), Option.bind_some, Option.bind_some, h1 i (by omega), h2 i (by omega)]
      by_cases hs : nI (L i) = nI i
      · rw [if_pos hs, if_pos hs]
        simp only [pu_lt]
        rw [nI_1]
        exact ih (i + 1) _ (by omega) (by omega)
      · rw [if_neg hs, if_neg hs]
        simp only [pu_lt]
        rw [nI_1, Int32.add_zero]
        exact ih (i + 1) _ (by omega) (by omega)
theorem pu_look157 {N F R S : Nat} {fr tt b : Nat → Int32} {a c : Nat → Nat} (hN : 5000 ≤ N) (hF : F ≤ 10) (hM : Mb F R fr tt b) (hE : Ends F fr tt a c) (hS : ∀ f, f < F → S.testBit f = isSp R (gat (unr F R).testBit a c F) a c f) : ∀ (n i : Nat) (l : Nat → Int32), i ≤ F → F - i < n → ∃ l', fX5_look_L157 N n (nI (bc i S)) (nI i) b l = some (nI (bc F S), l') := by
  intro n
  induction n with
  | zero => intro i l h1 h2; omega
  | succ n ih =>
    intro i l h1 h2
    unfold fX5_look_L157
    rw [pu_flows, hM.1, Option.bind_some]
    by_cases hi : i = F
    · subst hi
      rw [if_pos (nI_le (Nat.le_refl _) (by omega))]
      exact ⟨l, rfl⟩
    · have hlt : i < F := by omega
      obtain ⟨l', e, -⟩ := pu_isSpare (l := l) hN hF hM hE hlt
      rw [if_neg (nI_ge hlt (by omega)), e, Option.bind_some]
      dsimp only
      have hn : bc (i + 1) S = bc i S + (if S.testBit i then 1 else 0) := rfl
      obtain ⟨l2, q⟩ := ih (i + 1) l' (by omega) (by omega)
      rw [hn, hS i hlt] at q
      refine ⟨l2, ?_⟩
      by_cases hs : isSp R (gat (unr F R).testBit a c F) a c i = true
      · rw [if_pos hs, if_neg (show ¬ (1 : Int32) = 0 by decide), pu_lt, pu_lt, nI_1, nI_1]
        rw [if_pos hs] at q
        exact q
      · rw [if_neg hs, if_pos rfl, pu_lt, pu_lt, nI_1, Int32.add_zero]
        rw [if_neg hs] at q
        exact q
/-- knots out of balance -/
def surK (a c : Nat → Nat) (rd : Nat → Int32) (k : Nat) : Nat → Int32
  | 0 => 0
  | i + 1 => if c i = k then surK a c rd k i + rd i else if a i = k then surK a c rd k i - rd i else surK a c rd k i
theorem pu_allReadAt {N F R k : Nat} {fr tt : Nat → Int32} {a c : Nat → Nat} (hF : F ≤ 10) (hR : R < 1024) (hk : k < 6) (hE : Ends F fr tt a c) : ∀ (n i : Nat), i ≤ F → F - i < n → ((∀ g, i ≤ g → g < F → (a g = k ∨ c g = k) → R.testBit g = true) ∧ fX3_isAllReadAt_L2 N n (nI k) (nI i) (nI F) (nI R) fr tt = some (.inr ())) ∨ ((¬ ∀ g, i ≤ g → g < F → (a g = k ∨ c g = k) → R.testBit g = true) ∧ fX3_isAllReadAt_L2 N n (nI k) (nI i) (nI F) (nI R) fr tt = some (.inl ())) := by
  intro n
  induction n with
  | zero => intro i h1 h2; omega
  | succ n ih =>
    intro i h1 h2
    unfold fX3_isAllReadAt_L2
    by_cases hi : i = F
    · subst hi
      rw [if_pos (nI_le (Nat.le_refl _) (by omega))]
      exact Or.inl ⟨fun g q1 q2 => by omega, rfl⟩
    · have hlt : i < F := by omega
      obtain ⟨g1, g2, -, e1, e2⟩ := hE i hlt
      have ht : fX3_touches fr tt (nI i) (nI k) = some (if a i = k ∨ c i = k then 1 else 0) := by
        unfold fX3_touches
        rw [pu_rd (by omega) (by decide), Option.bind_some, e1]
        by_cases q1 : a i = k
        · rw [if_pos (by rw [q1]), if_pos (Or.inl q1)]
        · rw [if_neg (fun q => q1 ((nI_eq (by omega) (by omega)).mp q)), pu_rd (by omega) (by decide), Option.bind_some, e2]
          by_cases q2 : c i = k
          · rw [if_pos (by rw [q2]), if_pos (Or.inr q2)]
          · rw [if_neg (fun q => q2 ((nI_eq (by omega) (by omega)).mp q)), if_neg (by omega)]
      rw [if_neg (nI_ge hlt (by omega)), ht, Option.bind_some]
      have hgo : (¬ (a i = k ∨ c i = k) ∨ R.testBit i = true) → ((∀ g, i ≤ g → g < F → (a g = k ∨ c g = k) → R.testBit g = true) ↔ ∀ g, i + 1 ≤ g → g < F → (a g = k ∨ c g = k) → R.testBit g = true) := fun hq => ⟨fun h g q1 q2 q3 => h g (by omega) q2 q3, fun h g q1 q2 q3 => by
        by_cases e : g = i
        · subst e
          exact hq.resolve_left (fun z => z q3)
        · exact h g (by omega) q2 q3⟩
      by_cases hq : a i = k ∨ c i = k
      · rw [if_pos hq, if_neg (show ¬ (1 : Int32) = 0 by decide), pu_holds hR (by omega), Option.bind_some]
        by_cases hbit : R.testBit i = true
        · rw [if_pos hbit, if_neg (show ¬ (1 : Int32) = 0 by decide), pu_lt, nI_1, hgo (Or.inr hbit)]
          exact ih (i + 1) (by omega) (by omega)
        · rw [if_neg hbit, if_pos rfl]
          exact Or.inr ⟨fun h => hbit (h i (Nat.le_refl _) hlt hq), rfl⟩
      · rw [if_neg hq, if_pos rfl, pu_lt, nI_1, hgo (Or.inl hq)]
        exact ih (i + 1) (by omega) (by omega)
theorem pu_surplusAt {N F k : Nat} {fr tt rd : Nat → Int32} {a c : Nat → Nat} (hF : F ≤ 10) (hk : k < 6) (hE : Ends F fr tt a c) : ∀ (n i : Nat), i ≤ F → F - i < n → fX3_surplusAt_L4 N n (nI k) (surK a c rd k i) (nI i) (nI F) fr tt rd = some (surK a c rd k F) := by
  intro n
  induction n with
  | zero => intro i h1 h2; omega
  | succ n ih =>
    intro i h1 h2
    unfold fX3_surplusAt_L4
    by_cases hi : i = F
    · subst hi
      rw [if_pos (nI_le (Nat.le_refl _) (by omega))]
    · have hlt : i < F := by omega
      obtain ⟨g1, g2, g3, e1, e2⟩ := hE i hlt
      have hn : surK a c rd k (i + 1) = if c i = k then surK a c rd k i + rd i else if a i = k then surK a c rd k i - rd i else surK a c rd k i := rfl
      rw [if_neg (nI_ge hlt (by omega)), pu_rd (by omega) (by decide), Option.bind_some, e2, ← ih (i + 1) (by omega) (by omega), hn]
      by_cases q2 : c i = k
      · rw [if_pos (by rw [q2]), if_pos q2, pu_rd (by omega) (by decide), Option.bind_some, pu_lt, pu_rd (by omega) (by decide), Option.bind_some, e1, if_neg (fun q => g3 (((nI_eq (by omega) (by omega)).mp q).trans q2.symm)), pu_lt, nI_1]
      · rw [if_neg (fun q => q2 ((nI_eq (by omega) (by omega)).mp q)), if_neg q2, pu_rd (by omega) (by decide), Option.bind_some, e1]
        by_cases q1 : a i = k
        · rw [if_pos (by rw [q1]), if_pos q1, pu_rd (by omega) (by decide), Option.bind_some, pu_lt, pu_lt, nI_1]
        · rw [if_neg (fun q => q1 ((nI_eq (by omega) (by omega)).mp q)), if_neg q1, pu_lt, nI_1]
theorem pu_isOff4 {N F R k : Nat} {fr tt rd ms pr b : Nat → Int32} {a c : Nat → Nat} (hF : F ≤ 10) (hk : k < 6) (hM : Mb F R fr tt b) (hX : Mx F rd ms pr b) (hE : Ends F fr tt a c) : ∀ (n i : Nat), i ≤ F → F - i < n → ((∀ g, i ≤ g → g < F → (a g = k ∨ c g = k) → R.testBit g = true) ∧ fX5_isOff_L4 N n (nI k) (surK a c rd k i) (nI i) b = some (.inr (surK a c rd k F))) ∨ ((¬ ∀ g, i ≤ g → g < F → (a g = k ∨ c g = k) → R.testBit g = true) ∧ fX5_isOff_L4 N n (nI k) (surK a c rd k i) (nI i) b = some (.inl ())) := by
  intro n
  induction n with
  | zero => intro i h1 h2; omega
  | succ n ih =>
    intro i h1 h2
    unfold fX5_isOff_L4
    rw [pu_flows, hM.1, Option.bind_some]
    by_cases hi : i = F
    · subst hi
      rw [if_pos (nI_le (Nat.le_refl _) (by omega))]
      exact Or.inl ⟨fun g q1 q2 => by omega, rfl⟩
    · have hlt : i < F := by omega
      obtain ⟨g1, g2, g3, e1, e2⟩ := hE i hlt
      obtain ⟨m0, m1, -⟩ := hM.2 i hlt
      obtain ⟨m3, -⟩ := hX i hlt
      have hn : surK a c rd k (i + 1) = if c i = k then surK a c rd k i + rd i else if a i = k then surK a c rd k i - rd i else surK a c rd k i := rfl
      rw [if_neg (nI_ge hlt (by omega)), pu_get (f := i) (x := 1) 1 rfl (by omega), Option.bind_some, m1, e2]
      have ih' := ih (i + 1) (by omega) (by omega)
      have hgo : (¬ (a i = k ∨ c i = k) ∨ R.testBit i = true) → ((∀ g, i ≤ g → g < F → (a g = k ∨ c g = k) → R.testBit g = true) ↔ ∀ g, i + 1 ≤ g → g < F → (a g = k ∨ c g = k) → R.testBit g = true) := fun hq => ⟨fun h g q1 q2 q3 => h g (by omega) q2 q3, fun h g q1 q2 q3 => by
        by_cases e : g = i
        · subst e
          exact hq.resolve_left (fun z => z q3)
        · exact h g (by omega) q2 q3⟩
      by_cases q2 : c i = k
      · rw [if_pos (by rw [q2]), pu_isRead hF hM hlt, Option.bind_some]
        by_cases hbit : R.testBit i = true
        · rw [if_pos hbit, if_neg (show ¬ (1 : Int32) = 0 by decide), pu_get (f := i) (x := 3) 3 rfl (by omega), Option.bind_some, m3, pu_lt, pu_lt, nI_1, hgo (Or.inr hbit)]
          rw [hn, if_pos q2] at ih'
          exact ih'
        · rw [if_neg hbit, if_pos rfl]
          exact Or.inr ⟨fun h => hbit (h i (Nat.le_refl _) hlt (Or.inr q2)), rfl⟩
      · rw [if_neg (fun q => q2 ((nI_eq (by omega) (by omega)).mp q)), pu_get (f := i) (x := 0) 0 rfl (by omega), Option.bind_some, m0, e1]
        by_cases q1 : a i = k
        · rw [if_pos (by rw [q1]), pu_isRead hF hM hlt, Option.bind_some]
          by_cases hbit : R.testBit i = true
          · rw [if_pos hbit, if_neg (show ¬ (1 : Int32) = 0 by decide), pu_get (f := i) (x := 3) 3 rfl (by omega), Option.bind_some, m3, pu_lt, pu_lt, nI_1, hgo (Or.inr hbit), ← Int32.sub_eq_add_neg]
            rw [hn, if_neg q2, if_pos q1] at ih'
            exact ih'
          · rw [if_neg hbit, if_pos rfl]
            exact Or.inr ⟨fun h => hbit (h i (Nat.le_refl _) hlt (Or.inl q1)), rfl⟩
        · rw [if_neg (fun q => q1 ((nI_eq (by omega) (by omega)).mp q)), pu_lt, nI_1, hgo (Or.inl (by omega))]
          rw [hn, if_neg q2, if_neg q1] at ih'
          exact ih'
theorem pu_look191 {N K F R : Nat} {fr tt rd ms pr b : Nat → Int32} {a c : Nat → Nat} (hN : 5000 ≤ N) (hK : K ≤ 6) (hb0 : b 0 = nI K) (hF : F ≤ 10) (hR : R < 1024) (hM : Mb F R fr tt b) (hX : Mx F rd ms pr b) (hE : Ends F fr tt a c) : ∀ (n i : Nat) (y : Int32), i ≤ K → K - i < n → ∃ r, fX4_countUnbalanced_L4 N n y (nI i) (nI K) (nI F) (nI R) fr tt rd = some r ∧ fX5_look_L191 N n y (nI i) b = some r := by
  intro n
  induction n with
  | zero => intro i y h1 h2; omega
  | succ n ih =>
    intro i y g1 g2
    unfold fX4_countUnbalanced_L4 fX5_look_L191
    rw [pu_knots, hb0, Option.bind_some]
    by_cases hi : i = K
    · subst hi
      rw [if_pos (nI_le (Nat.le_refl _) (by omega)), if_pos (nI_le (Nat.le_refl _) (by omega))]
      exact ⟨y, rfl, rfl⟩
    · have hlt : i < K := by omega
      rw [if_neg (nI_ge hlt (by omega)), if_neg (nI_ge hlt (by omega))]
      have eS : fX3_surplusAt N (nI F) fr tt rd (nI i) = some (surK a c rd i F) := by
        unfold fX3_surplusAt
        have := pu_surplusAt (N := N) (k := i) (rd := rd) hF (by omega) hE N 0 (Nat.zero_le F) (by omega)
        rw [show (0 : Int32) = surK a c rd i 0 from rfl, show surK a c rd i 0 = nI 0 from rfl] at *
        rw [this, Option.bind_some]
      have z : (fX3_isAllReadAt N (nI F) (nI R) fr tt (nI i) = some 0 ∧ fX5_isOff N b (nI i) = some 0) ∨ (fX3_isAllReadAt N (nI F) (nI R) fr tt (nI i) = some 1 ∧ fX5_isOff N b (nI i) = some (if surK a c rd i F = 0 then 0 else 1)) := by
        have z1 := pu_allReadAt (N := N) (k := i) hF hR (by omega) hE N 0 (Nat.zero_le F) (by omega)
        have z2 := pu_isOff4 (N := N) (k := i) hF (by omega) hM hX hE N 0 (Nat.zero_le F) (by omega)
        unfold fX3_isAllReadAt fX5_isOff
        rcases z1 with ⟨hall, z1⟩ | ⟨hall, z1⟩
        · rcases z2 with ⟨-, z2⟩ | ⟨h, -⟩
          · right
            rw [show fX3_isAllReadAt_L2 N N (nI i) 0 (nI F) (nI R) fr tt = some (.inr ()) from z1, show fX5_isOff_L4 N N (nI i) 0 0 b = some (.inr (surK a c rd i F)) from z2]
            refine ⟨rfl, ?_⟩
            show (if surK a c rd i F = 0 then some 0 else some 1) = some (if surK a c rd i F = 0 then (0 : Int32) else 1)
            split <;> rfl
          · exact absurd hall h
        · rcases z2 with ⟨h, -⟩ | ⟨-, z2⟩
          · exact absurd h hall
          · left
            rw [show fX3_isAllReadAt_L2 N N (nI i) 0 (nI F) (nI R) fr tt = some (.inl ()) from z1, show fX5_isOff_L4 N N (nI i) 0 0 b = some (.inl ()) from z2]
            exact ⟨rfl, rfl⟩
      rcases z with ⟨z1, z2⟩ | ⟨z1, z2⟩
      · rw [z1, z2, Option.bind_some, Option.bind_some, if_pos rfl, if_pos rfl]
        simp only [pu_lt]
        rw [nI_1, Int32.add_zero]
        exact ih (i + 1) _ (by omega) (by omega)
      · rw [z1, z2, Option.bind_some, Option.bind_some, if_neg (show ¬ (1 : Int32) = 0 by decide), eS, Option.bind_some]
        by_cases hs : surK a c rd i F = 0
        · rw [if_pos hs, if_pos hs, if_pos rfl]
          simp only [pu_lt]
          rw [nI_1, Int32.add_zero]
          exact ih (i + 1) _ (by omega) (by omega)
        · rw [if_neg hs, if_neg hs, if_neg (show ¬ (1 : Int32) = 0 by decide)]
          simp only [pu_lt]
          rw [nI_1]
          exact ih (i + 1) _ (by omega) (by omega)

set_option maxHeartbeats 2000000 in
theorem ps_seen {N : Nat} (hN : 5000 ≤ N) : ob_seen N yInv := by
  intro kn fl rs fr tt rd ms pr kd ln sh nx ct kK fK rK frK ttK rdK msK prK kdK lnK shK s_x_groups_least s_x_fit_unread s_x_fit_below s_x_fit_heaps_least s_x_fit_pieces_least s_x_fit_sides_least s_x_fit_rows s_x_fit_surplus s_x_away s_x_testAbove s_x_testBelow mn s_m_below s_m_above1 s_m_below1 nw bf s_m_heapOf s_m_partOf s_m_place s_m_matrix s_m_right s_m_force s_m_work s_m_side s_m_far s_m_fallAbove s_m_fallBelow s_m_ranks s_m_was hI x1
  obtain ⟨⟨K, F, R, hW⟩, hP⟩ := id hI
  have hK := hW.2.1
  have hF := hW.2.2.1
  have hR := hW.2.2.2.1
  have hkn : kn = nI K := hW.2.2.2.2.1
  have hfl : fl = nI F := hW.2.2.2.2.2.1
  have hrs : rs = nI R := hW.2.2.2.2.2.2.1
  have hb0 := hW.2.2.2.2.2.2.2.1
  have hb := hW.2.2.2.2.2.2.2.2.1
  subst hkn
  subst hfl
  subst hrs
  rcases pu_flow hF hb x1 with ⟨f, hf, rfl, c1, c2⟩ | ⟨c1, c2⟩
  · obtain ⟨l', e1⟩ := pu_isSeenC (l := s_x_groups_least) hN hF (pu_1024 hR hF) hW.ends hf
    obtain ⟨s', e2⟩ := pu_isSeenM (l := s_m_side) hN hF hW.mb hW.ends hf
    refine ⟨if isSn F R (eA fr) (eA tt) f then 1 else 0, l', s', ?_, ?_, hI⟩
    · unfold fX4_seen
      rw [c1, Option.bind_some, if_neg (show ¬ (1 : Int32) = 0 by decide), e1, Option.bind_some]
      dsimp only
      by_cases hs : isSn F R (eA fr) (eA tt) f = true
      · rw [if_pos hs, if_neg (show ¬ (1 : Int32) = 0 by decide)]
      · rw [if_neg hs, if_pos rfl]
    · unfold fX5_seen
      rw [c2, Option.bind_some, if_neg (show ¬ (1 : Int32) = 0 by decide), e2, Option.bind_some]
      dsimp only
      by_cases hs : isSn F R (eA fr) (eA tt) f = true
      · rw [if_pos hs, if_neg (show ¬ (1 : Int32) = 0 by decide)]
      · rw [if_neg hs, if_pos rfl]
  · refine ⟨-1, s_x_groups_least, s_m_side, ?_, ?_, hI⟩
    · unfold fX4_seen
      rw [c1, Option.bind_some, if_pos rfl]
    · unfold fX5_seen
      rw [c2, Option.bind_some, if_pos rfl]

set_option maxHeartbeats 2000000 in
theorem ps_look {N : Nat} (hN : 5000 ≤ N) : ob_look N yInv := by
  intro kn fl rs fr tt rd ms pr kd ln sh nx ct kK fK rK frK ttK rdK msK prK kdK lnK shK s_x_groups_least s_x_fit_unread s_x_fit_below s_x_fit_heaps_least s_x_fit_pieces_least s_x_fit_sides_least s_x_fit_rows s_x_fit_surplus s_x_away s_x_testAbove s_x_testBelow mn s_m_below s_m_above1 s_m_below1 nw bf s_m_heapOf s_m_partOf s_m_place s_m_matrix s_m_right s_m_force s_m_work s_m_side s_m_far s_m_fallAbove s_m_fallBelow s_m_ranks s_m_was hI x1
  obtain ⟨⟨K, F, R, hW⟩, hP⟩ := id hI
  have hK := hW.2.1
  have hF := hW.2.2.1
  have hR := hW.2.2.2.1
  have hkn : kn = nI K := hW.2.2.2.2.1
  have hfl : fl = nI F := hW.2.2.2.2.2.1
  have hrs : rs = nI R := hW.2.2.2.2.2.2.1
  have hb0 := hW.2.2.2.2.2.2.2.1
  have hb := hW.2.2.2.2.2.2.2.2.1
  subst hkn
  subst hfl
  subst hrs
  obtain ⟨m', em, hm⟩ := pu_heaps (l := s_m_heapOf) hN hF hW.mb hW.ends (P := (unr F R).testBit) (fun f hf => unr_P hF hf)
  by_cases h0 : x1 = 0
  · refine ⟨nI K, s_x_groups_least, m', s_m_side, ?_, ?_, hI⟩
    · unfold fX4_look
      rw [if_pos h0]
    · unfold fX5_look
      rw [em, Option.bind_some, if_pos h0, pu_knots, hb0, Option.bind_some]
  by_cases h1 : x1 = 1
  · refine ⟨nI F, s_x_groups_least, m', s_m_side, ?_, ?_, hI⟩
    · unfold fX4_look
      rw [if_neg h0, if_pos h1]
    · unfold fX5_look
      rw [em, Option.bind_some, if_neg h0, if_pos h1, pu_flows, hb, Option.bind_some]
  by_cases h2 : x1 = 2
  · refine ⟨nI (bc F R), s_x_groups_least, m', s_m_side, ?_, ?_, hI⟩
    · unfold fX4_look
      rw [if_neg h0, if_neg h1, if_pos h2, pu_bcF hR hF, Option.bind_some]
    · unfold fX5_look
      have := pu_look60 (N := N) hF hW.mb N 0 (Nat.zero_le F) (by omega)
      rw [em, Option.bind_some, if_neg h0, if_neg h1, if_pos h2, show (fX5_look_L60 N N 0 0 nw) = some (nI (bc F R)) from this, Option.bind_some]
  by_cases h3 : x1 = 3
  · obtain ⟨g', e1, h1'⟩ := pu_gather (l := s_x_groups_least) hN hF (unr_1024 (R := R) hF) hW.ends
    obtain ⟨r, z1, z2⟩ := pu_look87 (N := N) hK hb0 h1' hm N 0 0 (Nat.zero_le K) (by omega)
    refine ⟨r, g', m', s_m_side, ?_, ?_, hI⟩
    · unfold fX4_look
      rw [if_neg h0, if_neg h1, if_neg h2, if_pos h3, pu_unread hF, Option.bind_some, e1, Option.bind_some]
      show (fX1_howMany N g' (nI K)).bind _ = _
      unfold fX1_howMany
      rw [show fX1_howMany_L4 N N (nI K) 0 0 g' = some r from z1]
      rfl
    · unfold fX5_look
      rw [em, Option.bind_some, if_neg h0, if_neg h1, if_neg h2, if_pos h3, show fX5_look_L87 N N 0 0 nw m' = some r from z2, Option.bind_some]
  by_cases h4 : x1 = 4
  · obtain ⟨r, l', s', z1, z2⟩ := pu_countSeen hN hF (pu_1024 hR hF) hW.mb hW.ends N 0 0 s_x_groups_least s_m_side (Nat.zero_le F) (by omega)
    refine ⟨r, l', m', s', ?_, ?_, hI⟩
    · unfold fX4_look fX4_countSeen
      rw [if_neg h0, if_neg h1, if_neg h2, if_neg h3, if_pos h4, show fX4_countSeen_L4 N N 0 0 (nI F) (nI R) fr tt s_x_groups_least = some (r, l') from z1]
      rfl
    · unfold fX5_look
      rw [em, Option.bind_some, if_neg h0, if_neg h1, if_neg h2, if_neg h3, if_pos h4, show fX5_look_L123 N N 0 0 nw s_m_side = some (r, s') from z2]
      rfl
  by_cases h5 : x1 = 5
  · obtain ⟨S', g', e1, q1, q2, -⟩ := pu_spareSet (l := s_x_groups_least) hN hF (pu_1024 hR hF) hW.ends
    obtain ⟨m2, z2⟩ := pu_look157 hN hF hW.mb hW.ends q2 N 0 m' (Nat.zero_le F) (by omega)
    refine ⟨nI (bc F S'), g', m2, s_m_side, ?_, ?_, hI⟩
    · unfold fX4_look
      rw [if_neg h0, if_neg h1, if_neg h2, if_neg h3, if_neg h4, if_pos h5, e1, Option.bind_some]
      show (fJ6_bitCount_0f7a4 (nI S')).bind _ = _
      rw [pu_bcF q1 hF, Option.bind_some]
    · unfold fX5_look
      rw [em, Option.bind_some, if_neg h0, if_neg h1, if_neg h2, if_neg h3, if_neg h4, if_pos h5, show fX5_look_L157 N N 0 0 nw m' = some (nI (bc F S'), m2) from z2]
      rfl
  by_cases h6 : x1 = 6
  · obtain ⟨r, z1, z2⟩ := pu_look191 hN hK hb0 hF (pu_1024 hR hF) hW.mb hW.mx hW.ends N 0 0 (Nat.zero_le K) (by omega)
    refine ⟨r, s_x_groups_least, m', s_m_side, ?_, ?_, hI⟩
    · unfold fX4_look fX4_countUnbalanced
      rw [if_neg h0, if_neg h1, if_neg h2, if_neg h3, if_neg h4, if_neg h5, if_pos h6, show fX4_countUnbalanced_L4 N N 0 0 (nI K) (nI F) (nI R) fr tt rd = some r from z1]
      rfl
    · unfold fX5_look
      rw [em, Option.bind_some, if_neg h0, if_neg h1, if_neg h2, if_neg h3, if_neg h4, if_neg h5, if_pos h6, show fX5_look_L191 N N 0 0 nw = some r from z2]
      rfl
  · refine ⟨-1, s_x_groups_least, m', s_m_side, ?_, ?_, hI⟩
    · unfold fX4_look
      rw [if_neg h0, if_neg h1, if_neg h2, if_neg h3, if_neg h4, if_neg h5, if_neg h6]
    · unfold fX5_look
      rw [em, Option.bind_some, if_neg h0, if_neg h1, if_neg h2, if_neg h3, if_neg h4, if_neg h5, if_neg h6]
