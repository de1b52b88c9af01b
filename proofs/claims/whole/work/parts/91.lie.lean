/-! ===== value; lie ===== -/
theorem unr_more {F R f : Nat} (hF : F ≤ 10) (hf : f < F) : unr F R ||| 2 ^ f = unr F (clr R f) := by
  refine pu_ext (F := F) (set_lt unr_lt hf) unr_lt (fun j hj => ?_)
  rw [set_bit, unr_P hF hj, unr_P hF hj, clr_bit (by omega)]
  by_cases e : j = f
  · simp [e]
  · simp [e]
theorem Bp.mx {F : Nat} {rd ms pr b0 b : Nat → Int32} {q : Nat → Bool} (hX : Mx F rd ms pr b0) (h : Bp F b0 b q) : Mx F rd ms pr b := fun f hf => by
  obtain ⟨h1, h2, h3⟩ := hX f hf
  exact ⟨by rw [h.1 _ (fun g hg => by omega)]; exact h1, by rw [h.1 _ (fun g hg => by omega)]; exact h2, by rw [h.1 _ (fun g hg => by omega)]; exact h3⟩
/-- one flow more is unread -/
theorem pu_without {F R K f : Nat} {fr tt rd ms pr b : Nat → Int32} (hF : F ≤ 10) (hb0 : b 0 = nI K) (hM : Mb F R fr tt b) (hX : Mx F rd ms pr b) (hf : f < F) (hbit : R.testBit f = true) : ∃ b', fX5_set b (nI f) 2 0 = some b' ∧ fX5_set b' (nI f) 2 1 = some b ∧ Mb F (clr R f) fr tt b' ∧ Mx F rd ms pr b' ∧ b' 0 = nI K := by
  have hB0 : Bp F b b R.testBit := ⟨fun _ _ => rfl, fun g hg => (hM.2 g hg).2.2⟩
  obtain ⟨b1, e1, h1⟩ := hB0.set (q' := (clr R f).testBit) (v := 0) hF hf (by rw [clr_bit (by omega)]; simp) (fun g hg hgf => by rw [clr_bit (by omega)]; simp [hgf])
  obtain ⟨b2, e2, h2⟩ := h1.set (q' := R.testBit) (v := 1) hF hf (by rw [hbit]; rfl) (fun g hg hgf => by rw [clr_bit (by omega)]; simp [hgf])
  rw [h2.back hM (fun g hg => rfl)] at e2
  exact ⟨b1, e1, e2, h1.mb hM (fun g hg => rfl), h1.mx hX, by rw [h1.1 0 (fun g hg => by omega)]; exact hb0⟩

set_option maxHeartbeats 4000000 in
theorem ps_value {N : Nat} (hN : 5000 ≤ N) : ob_value N yInv := by
  intro kn fl rs fr tt rd ms pr kd ln sh nx ct kK fK rK frK ttK rdK msK prK kdK lnK shK s_x_groups_least s_x_fit_unread s_x_fit_below s_x_fit_heaps_least s_x_fit_pieces_least s_x_fit_sides_least s_x_fit_rows s_x_fit_surplus s_x_away s_x_testAbove s_x_testBelow mn s_m_below s_m_above1 s_m_below1 nw bf s_m_heapOf s_m_partOf s_m_place s_m_matrix s_m_right s_m_force s_m_work s_m_side s_m_far s_m_fallAbove s_m_fallBelow s_m_ranks s_m_was hI x1 x2
  obtain ⟨⟨K, F, R, hW⟩, hP⟩ := id hI
  have hK := hW.2.1
  have hF := hW.2.2.1
  have hR := hW.2.2.2.1
  have hkn : kn = nI K := hW.2.2.2.2.1
  have hfl : fl = nI F := hW.2.2.2.2.2.1
  have hrs : rs = nI R := hW.2.2.2.2.2.2.1
  have hb0 := hW.2.2.2.2.2.2.2.1
  have hb := hW.2.2.2.2.2.2.2.2.1
  subst hkn
  subst hfl
  subst hrs
  rcases pu_flow hF hb x1 with ⟨f, hf, rfl, c1, c2⟩ | ⟨c1, c2⟩
  · rcases pu_what x2 with ⟨w1, w2, w3⟩ | ⟨w1, w2⟩
    · obtain ⟨l1, s1⟩ := pu_isSeenC (l := s_x_groups_least) hN hF (pu_1024 hR hF) hW.ends hf
      obtain ⟨sd1, s2⟩ := pu_isSeenM (l := s_m_side) hN hF hW.mb hW.ends hf
      by_cases hs : isSn F R (eA fr) (eA tt) f = true
      · obtain ⟨lh, lp, rw', su, e1, p1, p2, p3⟩ := pu_solve (un := s_x_fit_unread) (b0 := s_x_fit_below) (lh := s_x_fit_heaps_least) (lp := s_x_fit_pieces_least) (rows := s_x_fit_rows) (sur := s_x_fit_surplus) hN hF (unr_1024 (R := R) hF) hK hW.ends hW.endK hW.mvr hW.rvr
        obtain ⟨mh, mp, ml, mm, mr, mf, mw, e2, q1, q2⟩ := pu_solves (b0 := s_m_below) (lh := s_m_heapOf) (lp := s_m_partOf) (pl := s_m_place) (mat := s_m_matrix) (right := s_m_right) (fo := s_m_force) (w := s_m_work) hN hF hK hb0 hW.mb hW.mx hW.ends hW.endK
        obtain ⟨b1, b2⟩ := blF_pos (S := unr F R) (a := eA fr) (c := eA tt) hK hF hW.mvr hW.rvr
        obtain ⟨ls2, v1⟩ := pu_valueC (ls := s_x_fit_sides_least) (rd := rd) (ms := ms) hN hF (unr_1024 (R := R) hF) hK hW.ends hW.endK p1 p2 hf
        obtain ⟨sd2, v2⟩ := pu_valueM (sd := sd1) hN hF hK hW.mb hW.mx hW.ends hW.endK (fun f hf => (hW.mvr f hf).1) q1 q2 hf (fun hz => by
          unfold isSn at hs
          rw [hz, Bool.false_or] at hs
          simpa using hs)
        have hvb := vlF_bound (S := unr F R) (rv := (fun f => (rd f).toInt)) hF hK hW.endK hW.mvr hW.rvr hf
        obtain ⟨t1, t2⟩ := pu_terms hN (x := (vlF (unr F R) F K (eA fr) (eA tt) (fun f => (ms f).toInt) (fun f => (rd f).toInt) f)) (y := (blF (unr F R) F K (eA fr) (eA tt) (fun f => (ms f).toInt) (fun f => (rd f).toInt))) (w := x2) (by omega) (by omega) b1 (by omega) w3
        refine ⟨lt2 (vlF (unr F R) F K (eA fr) (eA tt) (fun f => (ms f).toInt) (fun f => (rd f).toInt) f) (blF (unr F R) F K (eA fr) (eA tt) (fun f => (ms f).toInt) (fun f => (rd f).toInt)) x2, l1, nI (unr F R), oL (blF (unr F R) F K (eA fr) (eA tt) (fun f => (ms f).toInt) (fun f => (rd f).toInt)), lh, lp, ls2, rw', su, oL (blF (unr F R) F K (eA fr) (eA tt) (fun f => (ms f).toInt) (fun f => (rd f).toInt)), mh, mp, ml, mm, mr, mf, mw, sd2, ?_, ?_, hI⟩
        · unfold fX4_value
          rw [c1, Option.bind_some, if_neg (show ¬ (1 : Int32) = 0 by decide), w1, Option.bind_some, if_neg (show ¬ (1 : Int32) = 0 by decide), s1, Option.bind_some]
          dsimp only
          rw [if_pos hs, if_neg (show ¬ (1 : Int32) = 0 by decide), pu_unread hF, Option.bind_some, e1, Option.bind_some]
          dsimp only
          rw [v1, Option.bind_some]
          dsimp only
          rw [t1, Option.bind_some]
        · unfold fX5_value
          rw [c2, Option.bind_some, if_neg (show ¬ (1 : Int32) = 0 by decide), w2, Option.bind_some, if_neg (show ¬ (1 : Int32) = 0 by decide), s2, Option.bind_some]
          dsimp only
          rw [if_pos hs, if_neg (show ¬ (1 : Int32) = 0 by decide), e2, Option.bind_some]
          dsimp only
          rw [v2, Option.bind_some]
          dsimp only
          rw [t2, Option.bind_some]
      · refine ⟨-1, l1, s_x_fit_unread, s_x_fit_below, s_x_fit_heaps_least, s_x_fit_pieces_least, s_x_fit_sides_least, s_x_fit_rows, s_x_fit_surplus, s_m_below, s_m_heapOf, s_m_partOf, s_m_place, s_m_matrix, s_m_right, s_m_force, s_m_work, sd1, ?_, ?_, hI⟩
        · unfold fX4_value
          rw [c1, Option.bind_some, if_neg (show ¬ (1 : Int32) = 0 by decide), w1, Option.bind_some, if_neg (show ¬ (1 : Int32) = 0 by decide), s1, Option.bind_some]
          dsimp only
          rw [if_neg hs, if_pos rfl]
        · unfold fX5_value
          rw [c2, Option.bind_some, if_neg (show ¬ (1 : Int32) = 0 by decide), w2, Option.bind_some, if_neg (show ¬ (1 : Int32) = 0 by decide), s2, Option.bind_some]
          dsimp only
          rw [if_neg hs, if_pos rfl]
    · refine ⟨-1, s_x_groups_least, s_x_fit_unread, s_x_fit_below, s_x_fit_heaps_least, s_x_fit_pieces_least, s_x_fit_sides_least, s_x_fit_rows, s_x_fit_surplus, s_m_below, s_m_heapOf, s_m_partOf, s_m_place, s_m_matrix, s_m_right, s_m_force, s_m_work, s_m_side, ?_, ?_, hI⟩
      · unfold fX4_value
        rw [c1, Option.bind_some, if_neg (show ¬ (1 : Int32) = 0 by decide), w1, Option.bind_some, if_pos rfl]
      · unfold fX5_value
        rw [c2, Option.bind_some, if_neg (show ¬ (1 : Int32) = 0 by decide), w2, Option.bind_some, if_pos rfl]
  · refine ⟨-1, s_x_groups_least, s_x_fit_unread, s_x_fit_below, s_x_fit_heaps_least, s_x_fit_pieces_least, s_x_fit_sides_least, s_x_fit_rows, s_x_fit_surplus, s_m_below, s_m_heapOf, s_m_partOf, s_m_place, s_m_matrix, s_m_right, s_m_force, s_m_work, s_m_side, ?_, ?_, hI⟩
    · unfold fX4_value
      rw [c1, Option.bind_some, if_pos rfl]
    · unfold fX5_value
      rw [c2, Option.bind_some, if_pos rfl]

set_option maxHeartbeats 4000000 in
theorem ps_lie {N : Nat} (hN : 5000 ≤ N) : ob_lie N yInv := by
  intro kn fl rs fr tt rd ms pr kd ln sh nx ct kK fK rK frK ttK rdK msK prK kdK lnK shK s_x_groups_least s_x_fit_unread s_x_fit_below s_x_fit_heaps_least s_x_fit_pieces_least s_x_fit_sides_least s_x_fit_rows s_x_fit_surplus s_x_away s_x_testAbove s_x_testBelow mn s_m_below s_m_above1 s_m_below1 nw bf s_m_heapOf s_m_partOf s_m_place s_m_matrix s_m_right s_m_force s_m_work s_m_side s_m_far s_m_fallAbove s_m_fallBelow s_m_ranks s_m_was hI x1 x2
  obtain ⟨⟨K, F, R, hW⟩, hP⟩ := id hI
  have hK := hW.2.1
  have hF := hW.2.2.1
  have hR := hW.2.2.2.1
  have hkn : kn = nI K := hW.2.2.2.2.1
  have hfl : fl = nI F := hW.2.2.2.2.2.1
  have hrs : rs = nI R := hW.2.2.2.2.2.2.1
  have hb0 := hW.2.2.2.2.2.2.2.1
  have hb := hW.2.2.2.2.2.2.2.2.1
  subst hkn
  subst hfl
  subst hrs
  rcases pu_flow hF hb x1 with ⟨f, hf, rfl, c1, c2⟩ | ⟨c1, c2⟩
  · rcases pu_what x2 with ⟨w1, w2, w3⟩ | ⟨w1, w2⟩
    · obtain ⟨S', g', s1, s2, s3, -⟩ := pu_spareSet (l := s_x_groups_least) hN hF (pu_1024 hR hF) hW.ends
      obtain ⟨m1, s4, -⟩ := pu_isSpare (l := s_m_heapOf) hN hF hW.mb hW.ends hf
      by_cases hs : isSp R (gat (unr F R).testBit (eA fr) (eA tt) F) (eA fr) (eA tt) f = true
      · have hs' := hs
        unfold isSp at hs'
        rw [Bool.and_eq_true] at hs'
        have hbit : R.testBit f = true := hs'.1
        have hpar : gat (unr F R).testBit (eA fr) (eA tt) F (eA fr f) ≠ gat (unr F R).testBit (eA fr) (eA tt) F (eA tt f) := by simpa using hs'.2
        have hL' : gat (clr (unr F (clr R f)) f).testBit (eA fr) (eA tt) F = gat (unr F R).testBit (eA fr) (eA tt) F := gat_congr F (fun g hg => by
          rw [clr_bit (by omega), unr_P hF hg, unr_P hF hg, clr_bit (by omega)]
          by_cases e : g = f
          · subst e
            simp [hbit]
          · simp [e])
        obtain ⟨nw2, n1, n2, n3, n4, n5⟩ := pu_without hF hb0 hW.mb hW.mx hf hbit
        obtain ⟨lh, lp, rw', su, e1, p1, p2, p3⟩ := pu_solve (un := s_x_fit_unread) (b0 := s_x_fit_below) (lh := s_x_fit_heaps_least) (lp := s_x_fit_pieces_least) (rows := s_x_fit_rows) (sur := s_x_fit_surplus) hN hF (unr_1024 (R := clr R f) hF) hK hW.ends hW.endK hW.mvr hW.rvr
        obtain ⟨mh, mp, ml, mm, mr, mf, mw, e2, q1, q2⟩ := pu_solves (b0 := s_m_below) (lh := m1) (lp := s_m_partOf) (pl := s_m_place) (mat := s_m_matrix) (right := s_m_right) (fo := s_m_force) (w := s_m_work) hN hF hK n5 n3 n4 hW.ends hW.endK
        obtain ⟨b1, b2⟩ := blF_pos (S := unr F (clr R f)) (a := eA fr) (c := eA tt) hK hF hW.mvr hW.rvr
        obtain ⟨ls2, v1⟩ := pu_valueC (ls := s_x_fit_sides_least) (rd := rd) (ms := ms) hN hF (unr_1024 (R := clr R f) hF) hK hW.ends hW.endK p1 p2 hf
        obtain ⟨sd2, v2⟩ := pu_valueM (sd := s_m_side) hN hF hK n3 n4 hW.ends hW.endK (fun f hf => (hW.mvr f hf).1) q1 q2 hf (fun _ => by
          rw [hL']
          exact hpar)
        have hvb := vlF_bound (S := unr F (clr R f)) (rv := (fun f => (rd f).toInt)) hF hK hW.endK hW.mvr hW.rvr hf
        have hrb := mul_bound (p := 2000) (q := 39135393) (by decide) (hW.rvr f hf).1 (hW.rvr f hf).2 (show -39135393 ≤ (blF (unr F (clr R f)) F K (eA fr) (eA tt) (fun f => (ms f).toInt) (fun f => (rd f).toInt)) by omega) b2
        obtain ⟨t1, t2⟩ := pu_terms hN (x := (rd f).toInt * (blF (unr F (clr R f)) F K (eA fr) (eA tt) (fun f => (ms f).toInt) (fun f => (rd f).toInt)) - (vlF (unr F (clr R f)) F K (eA fr) (eA tt) (fun f => (ms f).toInt) (fun f => (rd f).toInt) f)) (y := (blF (unr F (clr R f)) F K (eA fr) (eA tt) (fun f => (ms f).toInt) (fun f => (rd f).toInt))) (w := x2) (by omega) (by omega) b1 (by omega) w3
        obtain ⟨m3, m4, -⟩ := n4 f hf
        refine ⟨lt2 ((rd f).toInt * (blF (unr F (clr R f)) F K (eA fr) (eA tt) (fun f => (ms f).toInt) (fun f => (rd f).toInt)) - (vlF (unr F (clr R f)) F K (eA fr) (eA tt) (fun f => (ms f).toInt) (fun f => (rd f).toInt) f)) (blF (unr F (clr R f)) F K (eA fr) (eA tt) (fun f => (ms f).toInt) (fun f => (rd f).toInt)) x2, g', nI (unr F (clr R f)), oL (blF (unr F (clr R f)) F K (eA fr) (eA tt) (fun f => (ms f).toInt) (fun f => (rd f).toInt)), lh, lp, ls2, rw', su, oL (blF (unr F (clr R f)) F K (eA fr) (eA tt) (fun f => (ms f).toInt) (fun f => (rd f).toInt)), nw, mh, mp, ml, mm, mr, mf, mw, sd2, ?_, ?_, hI⟩
        · unfold fX4_lie
          rw [c1, Option.bind_some, if_neg (show ¬ (1 : Int32) = 0 by decide), w1, Option.bind_some, if_neg (show ¬ (1 : Int32) = 0 by decide), s1, Option.bind_some]
          dsimp only
          rw [pu_holds (pu_1024 s2 hF) (by omega), Option.bind_some, s3 f hf, if_pos hs, if_neg (show ¬ (1 : Int32) = 0 by decide), pu_unread hF, Option.bind_some, pu_bit (by omega), Option.bind_some, pu_or, unr_more hF hf, e1, Option.bind_some]
          dsimp only
          rw [pu_rd (by omega) (by decide), Option.bind_some, v1, Option.bind_some]
          dsimp only
          rw [oL_i32, oL_mul, oL_sub, t1, Option.bind_some]
        · unfold fX5_lie
          rw [c2, Option.bind_some, if_neg (show ¬ (1 : Int32) = 0 by decide), w2, Option.bind_some, if_neg (show ¬ (1 : Int32) = 0 by decide), s4, Option.bind_some]
          dsimp only
          rw [if_pos hs, if_neg (show ¬ (1 : Int32) = 0 by decide), n1, Option.bind_some, e2, Option.bind_some]
          dsimp only
          rw [pu_get (f := f) (x := 3) 3 rfl (by omega), Option.bind_some, m3, v2, Option.bind_some]
          dsimp only
          rw [pu_lt, n2, Option.bind_some, oL_i32, oL_mul, oL_sub, t2, Option.bind_some]
      · refine ⟨-1, g', s_x_fit_unread, s_x_fit_below, s_x_fit_heaps_least, s_x_fit_pieces_least, s_x_fit_sides_least, s_x_fit_rows, s_x_fit_surplus, s_m_below, nw, m1, s_m_partOf, s_m_place, s_m_matrix, s_m_right, s_m_force, s_m_work, s_m_side, ?_, ?_, hI⟩
        · unfold fX4_lie
          rw [c1, Option.bind_some, if_neg (show ¬ (1 : Int32) = 0 by decide), w1, Option.bind_some, if_neg (show ¬ (1 : Int32) = 0 by decide), s1, Option.bind_some]
          dsimp only
          rw [pu_holds (pu_1024 s2 hF) (by omega), Option.bind_some, s3 f hf, if_neg hs, if_pos rfl]
        · unfold fX5_lie
          rw [c2, Option.bind_some, if_neg (show ¬ (1 : Int32) = 0 by decide), w2, Option.bind_some, if_neg (show ¬ (1 : Int32) = 0 by decide), s4, Option.bind_some]
          dsimp only
          rw [if_neg hs, if_pos rfl]
    · refine ⟨-1, s_x_groups_least, s_x_fit_unread, s_x_fit_below, s_x_fit_heaps_least, s_x_fit_pieces_least, s_x_fit_sides_least, s_x_fit_rows, s_x_fit_surplus, s_m_below, nw, s_m_heapOf, s_m_partOf, s_m_place, s_m_matrix, s_m_right, s_m_force, s_m_work, s_m_side, ?_, ?_, hI⟩
      · unfold fX4_lie
        rw [c1, Option.bind_some, if_neg (show ¬ (1 : Int32) = 0 by decide), w1, Option.bind_some, if_pos rfl]
      · unfold fX5_lie
        rw [c2, Option.bind_some, if_neg (show ¬ (1 : Int32) = 0 by decide), w2, Option.bind_some, if_pos rfl]
  · refine ⟨-1, s_x_groups_least, s_x_fit_unread, s_x_fit_below, s_x_fit_heaps_least, s_x_fit_pieces_least, s_x_fit_sides_least, s_x_fit_rows, s_x_fit_surplus, s_m_below, nw, s_m_heapOf, s_m_partOf, s_m_place, s_m_matrix, s_m_right, s_m_force, s_m_work, s_m_side, ?_, ?_, hI⟩
    · unfold fX4_lie
      rw [c1, Option.bind_some, if_pos rfl]
    · unfold fX5_lie
      rw [c2, Option.bind_some, if_pos rfl]
