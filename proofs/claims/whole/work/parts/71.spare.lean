/-! ===== spare ===== -/
theorem pu_spareSet {N F R : Nat} {fr tt l : Nat → Int32} {a c : Nat → Nat} (hN : 5000 ≤ N) (hF : F ≤ 10) (hR : R < 1024) (hE : Ends F fr tt a c) : ∃ (S' : Nat) (l' : Nat → Int32), fX4_spareSet N (nI F) (nI R) fr tt l = some (nI S', l') ∧ S' < 2 ^ F ∧ (∀ f, f < F → S'.testBit f = isSp R (gat (unr F R).testBit a c F) a c f) ∧ Lr l' (gat (unr F R).testBit a c F) := by
  obtain ⟨l', e1, h1⟩ := pu_gather (l := l) hN hF (unr_1024 (R := R) hF) hE
  obtain ⟨S', e2, h2, h3⟩ := pu_spare23 (N := N) hF hR hE h1 (gat_le _ a c F) N 0 0 (Nat.zero_le F) (by omega) (by decide) (fun f hf => absurd hf (Nat.not_lt_zero f))
  refine ⟨S', l', ?_, h2, h3, h1⟩
  unfold fX4_spareSet
  rw [pu_unread hF, Option.bind_some, e1, Option.bind_some]
  show (fX4_spareSet_L23 N N (nI 0) (nI 0) (nI F) (nI R) fr tt l').bind _ = _
  rw [e2, Option.bind_some]
theorem pu_isSpare {N F R f : Nat} {fr tt b l : Nat → Int32} {a c : Nat → Nat} (hN : 5000 ≤ N) (hF : F ≤ 10) (hM : Mb F R fr tt b) (hE : Ends F fr tt a c) (hf : f < F) : ∃ l' : Nat → Int32, fX5_isSpare N b l (nI f) = some (if isSp R (gat (unr F R).testBit a c F) a c f then 1 else 0, l') ∧ Lr l' (gat (unr F R).testBit a c F) := by
  obtain ⟨l', e1, h1⟩ := pu_heaps (l := l) hN hF hM hE (P := (unr F R).testBit) (fun f hf => unr_P hF hf)
  obtain ⟨g1, g2, -, q1, q2⟩ := hE f hf
  obtain ⟨m0, m1, -⟩ := hM.2 f hf
  have h3 := gat_le (unr F R).testBit a c F (a f)
  have h4 := gat_le (unr F R).testBit a c F (c f)
  refine ⟨l', ?_, h1⟩
  unfold fX5_isSpare isSp
  rw [e1, Option.bind_some, pu_isRead hF hM hf, Option.bind_some, pu_get (f := f) (x := 0) 0 rfl (by omega), Option.bind_some, m0, q1, pu_rd g1 (by decide), Option.bind_some, pu_get (f := f) (x := 1) 1 rfl (by omega), Option.bind_some, m1, q2, pu_rd g2 (by decide), Option.bind_some, h1 _ g1, h1 _ g2]
  by_cases hb : R.testBit f = true
  · by_cases hs : gat (unr F R).testBit a c F (a f) = gat (unr F R).testBit a c F (c f)
    · simp [hb, hs]
    · have hn : ¬ nI (gat (unr F R).testBit a c F (a f)) = nI (gat (unr F R).testBit a c F (c f)) := fun q => hs ((nI_eq (by omega) (by omega)).mp q)
      simp [hb, hs, hn]
  · simp [hb]
set_option maxHeartbeats 2000000 in
theorem ps_spare {N : Nat} (hN : 5000 ≤ N) : ob_spare N yInv := by
  intro kn fl rs fr tt rd ms pr kd ln sh nx ct kK fK rK frK ttK rdK msK prK kdK lnK shK s_x_groups_least s_x_fit_unread s_x_fit_below s_x_fit_heaps_least s_x_fit_pieces_least s_x_fit_sides_least s_x_fit_rows s_x_fit_surplus s_x_away s_x_testAbove s_x_testBelow mn s_m_below s_m_above1 s_m_below1 nw bf s_m_heapOf s_m_partOf s_m_place s_m_matrix s_m_right s_m_force s_m_work s_m_side s_m_far s_m_fallAbove s_m_fallBelow s_m_ranks s_m_was hI x1
  obtain ⟨⟨K, F, R, hW⟩, hP⟩ := id hI
  have hF := hW.2.2.1
  have hR := hW.2.2.2.1
  have hfl : fl = nI F := hW.2.2.2.2.2.1
  have hrs : rs = nI R := hW.2.2.2.2.2.2.1
  have hb := hW.2.2.2.2.2.2.2.2.1
  subst hfl
  subst hrs
  rcases pu_flow hF hb x1 with ⟨f, hf, rfl, c1, c2⟩ | ⟨c1, c2⟩
  · obtain ⟨S', g', e1, h1, h2, -⟩ := pu_spareSet (l := s_x_groups_least) hN hF (pu_1024 hR hF) hW.ends
    obtain ⟨m', e2, -⟩ := pu_isSpare (l := s_m_heapOf) hN hF hW.mb hW.ends hf
    refine ⟨if isSp R (gat (unr F R).testBit (eA fr) (eA tt) F) (eA fr) (eA tt) f then 1 else 0, g', m', ?_, ?_, hI⟩
    · unfold fX4_spare
      rw [c1, Option.bind_some, if_neg (show ¬ (1 : Int32) = 0 by decide), e1, Option.bind_some]
      show (fX4_holds (nI S') (nI f)).bind _ = _
      rw [pu_holds (pu_1024 h1 hF) (by omega), Option.bind_some, h2 f hf]
      by_cases hs : isSp R (gat (unr F R).testBit (eA fr) (eA tt) F) (eA fr) (eA tt) f = true
      · rw [if_pos hs, if_neg (by decide)]
      · rw [if_neg hs, if_pos rfl]
    · unfold fX5_spare
      rw [c2, Option.bind_some, if_neg (show ¬ (1 : Int32) = 0 by decide), e2, Option.bind_some]
      by_cases hs : isSp R (gat (unr F R).testBit (eA fr) (eA tt) F) (eA fr) (eA tt) f = true
      · rw [if_pos hs]
        rfl
      · rw [if_neg hs]
        rfl
  · refine ⟨-1, s_x_groups_least, s_m_heapOf, ?_, ?_, hI⟩
    · unfold fX4_spare
      rw [c1, Option.bind_some, if_pos rfl]
    · unfold fX5_spare
      rw [c2, Option.bind_some, if_pos rfl]
