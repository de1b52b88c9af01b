/-! ===== the reference's rounds; heap ===== -/
theorem pu_h31A {N F R : Nat} {y1 : Int32} {fr tt b : Nat → Int32} {a c : Nat → Nat} {P : Nat → Bool} (hN : 5000 ≤ N) (hF : F ≤ 10) (hM : Mb F R fr tt b) (hE : Ends F fr tt a c) (hP : ∀ f, f < F → P f = !R.testBit f) : ∀ (n i : Nat) (l : Nat → Int32), i ≤ F → F - i < n → Lr l (gat P a c i) → ∃ l', fX5_heaps_L31 N n y1 (nI i) b l = some l' ∧ Lr l' (gat P a c F) := by
  intro n
  induction n with
  | zero => intro i l h1 h2; omega
  | succ n ih =>
    intro i l h1 h2 hL
    by_cases hi : i = F
    · subst hi
      exact ⟨l, pu_h31end hF hM.1, hL⟩
    · obtain ⟨l', e, h⟩ := pu_h31 (n := n) (y1 := y1) hN hF hM hE (i := i) (by omega) hL (gat_le P a c i)
      rw [e]
      refine ih (i + 1) l' (by omega) (by omega) ?_
      have eg : gat P a c (i + 1) = (if R.testBit i then gat P a c i else jn (gat P a c i) (a i) (c i)) := by
        show (if P i = true then jn _ _ _ else _) = _
        rw [hP i (by omega)]
        by_cases hb : R.testBit i = true
        · simp [hb]
        · simp [hb]
      rw [eg]
      exact h
theorem pu_h31B {N F R : Nat} {y1 : Int32} {fr tt b : Nat → Int32} {a c L : Nat → Nat} (hN : 5000 ≤ N) (hF : F ≤ 10) (hM : Mb F R fr tt b) (hE : Ends F fr tt a c) (hle : ∀ k, L k ≤ k) (hc : ∀ f, f < F → R.testBit f = false → L (a f) = L (c f)) : ∀ (n i : Nat) (l : Nat → Int32), i ≤ F → F - i < n → Lr l L → ∃ l', fX5_heaps_L31 N n y1 (nI i) b l = some l' ∧ Lr l' L := by
  intro n
  induction n with
  | zero => intro i l h1 h2; omega
  | succ n ih =>
    intro i l h1 h2 hL
    by_cases hi : i = F
    · subst hi
      exact ⟨l, pu_h31end hF hM.1, hL⟩
    · obtain ⟨l', e, h⟩ := pu_h31 (n := n) (y1 := y1) hN hF hM hE (i := i) (by omega) hL hle
      rw [e]
      refine ih (i + 1) l' (by omega) (by omega) ?_
      by_cases hb : R.testBit i = true
      · rw [if_pos hb] at h
        exact h
      · rw [if_neg hb, jn_same (hc i (by omega) (by simpa using hb))] at h
        exact h
theorem pu_h23 {N F R : Nat} {fr tt b : Nat → Int32} {a c L : Nat → Nat} (hN : 5000 ≤ N) (hF : F ≤ 10) (hM : Mb F R fr tt b) (hE : Ends F fr tt a c) (hle : ∀ k, L k ≤ k) (hc : ∀ f, f < F → R.testBit f = false → L (a f) = L (c f)) : ∀ (n i : Nat) (l : Nat → Int32), i ≤ 6 → 6 - i < n → Lr l L → ∃ l', fX5_heaps_L23 N n (nI i) b l = some l' ∧ Lr l' L := by
  intro n
  induction n with
  | zero => intro i l h1 h2; omega
  | succ n ih =>
    intro i l h1 h2 hL
    unfold fX5_heaps_L23
    by_cases h : i = 6
    · subst h
      rw [if_pos (show (6 : Int32) ≤ nI 6 from nI_le (a := 6) (Nat.le_refl _) (by decide))]
      exact ⟨l, rfl, hL⟩
    · obtain ⟨l', e, h'⟩ := pu_h31B (y1 := nI i) hN hF hM hE hle hc N 0 l (Nat.zero_le F) (by omega) hL
      rw [if_neg (show ¬ (6 : Int32) ≤ nI i from nI_ge (b := 6) (by omega) (by decide)), show (0 : Int32) = nI 0 from rfl, e, Option.bind_some, pu_lt, nI_1]
      exact ih (i + 1) l' (by omega) (by omega) h'
theorem pu_h2 {N : Nat} : ∀ (n i : Nat) (l : Nat → Int32), i ≤ 6 → 6 - i < n → fX5_heaps_L2 N n (nI i) l = some (fun k => if i ≤ k ∧ k < 6 then nI k else l k) := by
  intro n
  induction n with
  | zero => intro i l h1 h2; omega
  | succ n ih =>
    intro i l h1 h2
    unfold fX5_heaps_L2
    by_cases h : i = 6
    · subst h
      rw [if_pos (show (6 : Int32) ≤ nI 6 from nI_le (a := 6) (Nat.le_refl _) (by decide))]
      refine congrArg some (funext fun k => ?_)
      rw [if_neg (by omega)]
    · rw [if_neg (show ¬ (6 : Int32) ≤ nI i from nI_ge (b := 6) (by omega) (by decide)), pu_wr (by omega) (by decide), Option.bind_some, pu_lt, nI_1, ih (i + 1) _ (by omega) (by omega)]
      refine congrArg some (funext fun k => ?_)
      by_cases hk : k = i
      · subst hk
        rw [if_neg (by omega), if_pos (by omega), ya_up_eq]
      · rw [ya_up_ne hk]
        by_cases hq : i + 1 ≤ k ∧ k < 6
        · rw [if_pos hq, if_pos (by omega)]
        · rw [if_neg hq, if_neg (by omega)]
theorem pu_heaps {N F R : Nat} {fr tt b l : Nat → Int32} {a c : Nat → Nat} {P : Nat → Bool} (hN : 5000 ≤ N) (hF : F ≤ 10) (hM : Mb F R fr tt b) (hE : Ends F fr tt a c) (hP : ∀ f, f < F → P f = !R.testBit f) : ∃ l', fX5_heaps N b l = some l' ∧ Lr l' (gat P a c F) := by
  obtain ⟨l1, e1, h1⟩ := pu_h31A (y1 := nI 0) hN hF hM hE hP N 0 (fun k => if 0 ≤ k ∧ k < 6 then nI k else l k) (Nat.zero_le F) (by omega) (fun k hk => (if_pos (show 0 ≤ k ∧ k < 6 from ⟨Nat.zero_le k, hk⟩) : (if 0 ≤ k ∧ k < 6 then nI k else l k) = nI k))
  obtain ⟨M, rfl⟩ : ∃ M, N = M + 1 := ⟨N - 1, by omega⟩
  obtain ⟨l2, e2, h2⟩ := pu_h23 hN hF hM hE (gat_le P a c F) (fun f hf hb => gat_conn P a c F f hf (by rw [hP f hf, hb]; rfl)) M 1 l1 (by decide) (by omega) h1
  refine ⟨l2, ?_, h2⟩
  unfold fX5_heaps
  rw [show (0 : Int32) = nI 0 from rfl, pu_h2 (M + 1) 0 l (by decide) (by omega), Option.bind_some]
  unfold fX5_heaps_L23
  rw [if_neg (show ¬ (6 : Int32) ≤ nI 0 by decide), show (0 : Int32) = nI 0 from rfl, e1, Option.bind_some, pu_lt, nI_1, e2, Option.bind_some]
theorem unr_P {F R f : Nat} (hF : F ≤ 10) (hf : f < F) : (unr F R).testBit f = !R.testBit f := by
  rw [unr_bit (by omega)]
  simp [hf]
theorem unr_1024 {F R : Nat} (hF : F ≤ 10) : unr F R < 1024 := pu_1024 unr_lt hF
set_option maxHeartbeats 2000000 in
theorem ps_heap {N : Nat} (hN : 5000 ≤ N) : ob_heap N yInv := by
  intro kn fl rs fr tt rd ms pr kd ln sh nx ct kK fK rK frK ttK rdK msK prK kdK lnK shK s_x_groups_least s_x_fit_unread s_x_fit_below s_x_fit_heaps_least s_x_fit_pieces_least s_x_fit_sides_least s_x_fit_rows s_x_fit_surplus s_x_away s_x_testAbove s_x_testBelow mn s_m_below s_m_above1 s_m_below1 nw bf s_m_heapOf s_m_partOf s_m_place s_m_matrix s_m_right s_m_force s_m_work s_m_side s_m_far s_m_fallAbove s_m_fallBelow s_m_ranks s_m_was hI x1
  obtain ⟨⟨K, F, R, hW⟩, hP⟩ := id hI
  have hK := hW.2.1
  have hF := hW.2.2.1
  have hkn : kn = nI K := hW.2.2.2.2.1
  have hfl : fl = nI F := hW.2.2.2.2.2.1
  have hrs : rs = nI R := hW.2.2.2.2.2.2.1
  have hb0 := hW.2.2.2.2.2.2.2.1
  subst hkn
  subst hfl
  subst hrs
  rcases pu_knot hK hb0 x1 with ⟨k, hk, rfl, c1, c2⟩ | ⟨c1, c2⟩
  · obtain ⟨g', e1, h1⟩ := pu_gather (l := s_x_groups_least) hN hF (unr_1024 (R := R) hF) hW.ends
    obtain ⟨m', e2, h2⟩ := pu_heaps (l := s_m_heapOf) hN hF hW.mb hW.ends (P := (unr F R).testBit) (fun f hf => unr_P hF hf)
    refine ⟨nI (gat (unr F R).testBit (eA fr) (eA tt) F k), g', m', ?_, ?_, hI⟩
    · unfold fX4_heap
      rw [c1, Option.bind_some, if_neg (show ¬ (1 : Int32) = 0 by decide), pu_unread hF, Option.bind_some, e1, Option.bind_some]
      show (ya_rd g' 6 (nI k)).bind _ = _
      rw [pu_rd (by omega) (by decide), Option.bind_some, h1 k (by omega)]
    · unfold fX5_heap
      rw [c2, Option.bind_some, if_neg (show ¬ (1 : Int32) = 0 by decide), e2, Option.bind_some, pu_rd (by omega) (by decide), Option.bind_some, h2 k (by omega)]
  · refine ⟨-1, s_x_groups_least, s_m_heapOf, ?_, ?_, hI⟩
    · unfold fX4_heap
      rw [c1, Option.bind_some, if_pos rfl]
    · unfold fX5_heap
      rw [c2, Option.bind_some, if_pos rfl]
