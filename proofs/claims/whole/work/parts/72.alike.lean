/-! ===== alike ===== -/
set_option maxHeartbeats 2000000 in
theorem ps_alike {N : Nat} (hN : 5000 ≤ N) : ob_alike N yInv := by
  intro kn fl rs fr tt rd ms pr kd ln sh nx ct kK fK rK frK ttK rdK msK prK kdK lnK shK s_x_groups_least s_x_fit_unread s_x_fit_below s_x_fit_heaps_least s_x_fit_pieces_least s_x_fit_sides_least s_x_fit_rows s_x_fit_surplus s_x_away s_x_testAbove s_x_testBelow mn s_m_below s_m_above1 s_m_below1 nw bf s_m_heapOf s_m_partOf s_m_place s_m_matrix s_m_right s_m_force s_m_work s_m_side s_m_far s_m_fallAbove s_m_fallBelow s_m_ranks s_m_was hI x1 x2
  obtain ⟨⟨K, F, R, hW⟩, hP⟩ := id hI
  have hF := hW.2.2.1
  have hR := hW.2.2.2.1
  have hfl : fl = nI F := hW.2.2.2.2.2.1
  have hrs : rs = nI R := hW.2.2.2.2.2.2.1
  have hb := hW.2.2.2.2.2.2.2.2.1
  subst hfl
  subst hrs
  rcases pu_flow hF hb x1 with ⟨e, he, rfl, c1, c2⟩ | ⟨c1, c2⟩
  · rcases pu_flow hF hb x2 with ⟨f, hf, rfl, d1, d2⟩ | ⟨d1, d2⟩
    · by_cases hef : e = f
      · subst hef
        refine ⟨0, s_x_groups_least, s_m_heapOf, ?_, ?_, hI⟩
        · unfold fX4_alike
          rw [c1, Option.bind_some, if_neg (show ¬ (1 : Int32) = 0 by decide), Option.bind_some, if_neg (show ¬ (1 : Int32) = 0 by decide), if_pos rfl]
        · unfold fX5_alike
          rw [c2, Option.bind_some, if_neg (show ¬ (1 : Int32) = 0 by decide), Option.bind_some, if_neg (show ¬ (1 : Int32) = 0 by decide), if_pos rfl]
      · have hne : ¬ nI e = nI f := fun q => hef ((nI_eq (by omega) (by omega)).mp q)
        obtain ⟨l1, g1, h1⟩ := pu_gather (l := s_x_groups_least) hN hF (unr_1024 (R := R) hF) hW.ends
        obtain ⟨m1, k1, j1⟩ := pu_isSpare (l := s_m_heapOf) hN hF hW.mb hW.ends he
        obtain ⟨m2, k2, j2⟩ := pu_isSpare (l := m1) hN hF hW.mb hW.ends hf
        have hle := gat_le (unr F R).testBit (eA fr) (eA tt) F
        have s1 := pu_isSpareIn hF (pu_1024 hR hF) hW.ends he h1 hle
        have s2 := pu_isSpareIn hF (pu_1024 hR hF) hW.ends hf h1 hle
        obtain ⟨u1, u2, -, q1, q2⟩ := hW.ends e he
        obtain ⟨u3, u4, -, q3, q4⟩ := hW.ends f hf
        obtain ⟨w1, w2, -⟩ := hW.mb.2 e he
        obtain ⟨w3, w4, -⟩ := hW.mb.2 f hf
        obtain ⟨X, CX⟩ : ∃ X, fX4_alike N (nI F) (nI R) fr tt s_x_groups_least (nI e) (nI f) = X := ⟨_, rfl⟩
        obtain ⟨Y, MX⟩ : ∃ Y, fX5_alike N nw s_m_heapOf (nI e) (nI f) = Y := ⟨_, rfl⟩
        have C0 := CX
        have M0 := MX
        unfold fX4_alike at C0
        unfold fX5_alike at M0
        rw [c1, Option.bind_some, if_neg (show ¬ (1 : Int32) = 0 by decide), d1, Option.bind_some, if_neg (show ¬ (1 : Int32) = 0 by decide), if_neg hne, pu_unread hF, Option.bind_some, g1, Option.bind_some] at C0
        rw [c2, Option.bind_some, if_neg (show ¬ (1 : Int32) = 0 by decide), d2, Option.bind_some, if_neg (show ¬ (1 : Int32) = 0 by decide), if_neg hne, k1, Option.bind_some] at M0
        dsimp only at C0 M0
        rw [s1, Option.bind_some] at C0
        by_cases b1 : isSp R (gat (unr F R).testBit (eA fr) (eA tt) F) (eA fr) (eA tt) e = true
        · rw [if_pos b1, if_neg (show ¬ (1 : Int32) = 0 by decide), s2, Option.bind_some] at C0
          rw [if_pos b1, if_neg (show ¬ (1 : Int32) = 0 by decide), k2, Option.bind_some] at M0
          dsimp only at M0
          by_cases b2 : isSp R (gat (unr F R).testBit (eA fr) (eA tt) F) (eA fr) (eA tt) f = true
          · rw [if_pos b2, if_neg (show ¬ (1 : Int32) = 0 by decide), pu_rd (by omega) (by decide), Option.bind_some, q1, pu_rd u1 (by decide), Option.bind_some, pu_rd (by omega) (by decide), Option.bind_some, q2, pu_rd u2 (by decide), Option.bind_some, pu_rd (by omega) (by decide), Option.bind_some, q3, pu_rd u3 (by decide), Option.bind_some, pu_rd (by omega) (by decide), Option.bind_some, q4, pu_rd u4 (by decide), Option.bind_some, h1 _ u1, h1 _ u2, h1 _ u3, h1 _ u4] at C0
            rw [if_pos b2, if_neg (show ¬ (1 : Int32) = 0 by decide), pu_get (f := e) (x := 0) 0 rfl (by omega), Option.bind_some, w1, q1, pu_rd u1 (by decide), Option.bind_some, pu_get (f := e) (x := 1) 1 rfl (by omega), Option.bind_some, w2, q2, pu_rd u2 (by decide), Option.bind_some, pu_get (f := f) (x := 0) 0 rfl (by omega), Option.bind_some, w3, q3, pu_rd u3 (by decide), Option.bind_some, pu_get (f := f) (x := 1) 1 rfl (by omega), Option.bind_some, w4, q4, pu_rd u4 (by decide), Option.bind_some, j2 _ u1, j2 _ u2, j2 _ u3, j2 _ u4] at M0
            rw [CX, MX, ← C0, ← M0]
            repeat' split
            all_goals first | exact ⟨1, l1, m2, rfl, rfl, hI⟩ | exact ⟨0, l1, m2, rfl, rfl, hI⟩
          · rw [if_neg b2, if_pos rfl] at C0 M0
            exact ⟨0, l1, m2, CX.trans C0.symm, MX.trans M0.symm, hI⟩
        · rw [if_neg b1, if_pos rfl] at C0 M0
          exact ⟨0, l1, m1, CX.trans C0.symm, MX.trans M0.symm, hI⟩
    · refine ⟨0, s_x_groups_least, s_m_heapOf, ?_, ?_, hI⟩
      · unfold fX4_alike
        rw [c1, Option.bind_some, if_neg (show ¬ (1 : Int32) = 0 by decide), d1, Option.bind_some, if_pos rfl]
      · unfold fX5_alike
        rw [c2, Option.bind_some, if_neg (show ¬ (1 : Int32) = 0 by decide), d2, Option.bind_some, if_pos rfl]
  · refine ⟨0, s_x_groups_least, s_m_heapOf, ?_, ?_, hI⟩
    · unfold fX4_alike
      rw [c1, Option.bind_some, if_pos rfl]
    · unfold fX5_alike
      rw [c2, Option.bind_some, if_pos rfl]
