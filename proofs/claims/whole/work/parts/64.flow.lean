/-! ===== flow ===== -/
theorem pu_flow54 {N F : Nat} (hF : F < 10) {x1 x2 : Int32} : ∀ (n i : Nat) (b : Nat → Int32), i ≤ 24 → 24 - i < n → fX5_flow_L54 N n x1 x2 (nI F) (nI i) b = some (fun j => if 2 + 24 * F + i ≤ j ∧ j < 2 + 24 * F + 24 then 0 else b j) := by
  intro n
  induction n with
  | zero => intro i b h1 h2; omega
  | succ n ih =>
    intro i b h1 h2
    unfold fX5_flow_L54
    by_cases h : i = 24
    · subst h
      rw [if_pos (show (24 : Int32) ≤ nI 24 from nI_le (a := 24) (Nat.le_refl _) (by decide))]
      refine congrArg some (funext fun j => ?_)
      rw [if_neg (by omega)]
    · rw [if_neg (show ¬ (24 : Int32) ≤ nI i from nI_ge (b := 24) (by omega) (by decide)), pu_set (f := F) (x := nI i) i rfl (by omega), Option.bind_some, pu_lt, nI_1, ih (i + 1) _ (by omega) (by omega)]
      refine congrArg some (funext fun j => ?_)
      by_cases hj : j = 2 + 24 * F + i
      · subst hj
        rw [if_neg (by omega), if_pos (by omega), ya_up_eq]
      · by_cases hk : 2 + 24 * F + (i + 1) ≤ j ∧ j < 2 + 24 * F + 24
        · rw [if_pos hk, if_pos (by omega)]
        · rw [if_neg hk, if_neg (by omega), ya_up_ne hj]
set_option maxHeartbeats 2000000 in
theorem ps_flow {N : Nat} (hN : 5000 ≤ N) : ob_flow N yInv := by
  intro kn fl rs fr tt rd ms pr kd ln sh nx ct kK fK rK frK ttK rdK msK prK kdK lnK shK s_x_groups_least s_x_fit_unread s_x_fit_below s_x_fit_heaps_least s_x_fit_pieces_least s_x_fit_sides_least s_x_fit_rows s_x_fit_surplus s_x_away s_x_testAbove s_x_testBelow mn s_m_below s_m_above1 s_m_below1 nw bf s_m_heapOf s_m_partOf s_m_place s_m_matrix s_m_right s_m_force s_m_work s_m_side s_m_far s_m_fallAbove s_m_fallBelow s_m_ranks s_m_was hI x1 x2
  obtain ⟨⟨K, F, R, hW⟩, hP⟩ := id hI
  have hK := hW.2.1
  have hF := hW.2.2.1
  have hR := hW.2.2.2.1
  have hkn : kn = nI K := hW.2.2.2.2.1
  have hfl : fl = nI F := hW.2.2.2.2.2.1
  have hrs : rs = nI R := hW.2.2.2.2.2.2.1
  have hb0 := hW.2.2.2.2.2.2.2.1
  have hb1 := hW.2.2.2.2.2.2.2.2.1
  subst hkn
  subst hfl
  subst hrs
  rcases pu_knot hK hb0 x1 with ⟨a, ha, rfl, c1, c2⟩ | ⟨c1, c2⟩
  · rcases pu_knot hK hb0 x2 with ⟨b, hb, rfl, d1, d2⟩ | ⟨d1, d2⟩
    · by_cases hab : a = b
      · subst hab
        refine ⟨-1, nI F, nI R, fr, tt, rd, ms, pr, kd, ln, nx, ct, kK, fK, rK, frK, ttK, rdK, msK, prK, kdK, lnK, shK, mn, nw, bf, ?_, ?_, hI⟩
        · unfold fX4_flow
          rw [c1, Option.bind_some, if_neg (show ¬ (1 : Int32) = 0 by decide), Option.bind_some, if_neg (show ¬ (1 : Int32) = 0 by decide), if_pos rfl]
        · unfold fX5_flow
          rw [c2, Option.bind_some, if_neg (show ¬ (1 : Int32) = 0 by decide), Option.bind_some, if_neg (show ¬ (1 : Int32) = 0 by decide), if_pos rfl]
      · have hne : ¬ nI a = nI b := fun e => hab ((nI_eq (by omega) (by omega)).mp e)
        by_cases hF10 : F = 10
        · subst hF10
          refine ⟨-1, nI 10, nI R, fr, tt, rd, ms, pr, kd, ln, nx, ct, kK, fK, rK, frK, ttK, rdK, msK, prK, kdK, lnK, shK, mn, nw, bf, ?_, ?_, hI⟩
          · unfold fX4_flow
            rw [c1, Option.bind_some, if_neg (show ¬ (1 : Int32) = 0 by decide), d1, Option.bind_some, if_neg (show ¬ (1 : Int32) = 0 by decide), if_neg hne, if_neg (show ¬ nI 10 < (10 : Int32) by decide)]
          · unfold fX5_flow
            rw [c2, Option.bind_some, if_neg (show ¬ (1 : Int32) = 0 by decide), d2, Option.bind_some, if_neg (show ¬ (1 : Int32) = 0 by decide), if_neg hne, pu_flows, hb1, Option.bind_some, if_pos (show nI 10 = (10 : Int32) from rfl)]
        · obtain ⟨zn, zc, z3, z4, z5, z6, z7, z8, z9, z10, z11, z12, z13, y1, y2, e1, e2, hP2⟩ := pu_keepP hN hP hW
          have hF9 : F < 10 := by omega
          refine ⟨nI F, nI (F + 1), nI (clr R F), ya_up fr F (nI a), ya_up tt F (nI b), ya_up rd F 0, ya_up ms F 1, ya_up pr F 1, ya_up kd F (-1), ya_up ln F 0, zn, zc, z3, z4, z5, z6, z7, z8, z9, z10, z11, z12, z13, y1, ya_up (ya_up (ya_up (ya_up (ya_up (fun j => if 2 + 24 * F + 0 ≤ j ∧ j < 2 + 24 * F + 24 then 0 else (ya_up nw 1 (nI (F + 1))) j) (2 + 24 * F + 0) (nI a)) (2 + 24 * F + 1) (nI b)) (2 + 24 * F + 4) 1) (2 + 24 * F + 5) 1) (2 + 24 * F + 6) (-1), y2, ?_, ?_, ⟨K, F + 1, clr R F, ?_⟩, hP2⟩
          · unfold fX4_flow
            rw [c1, Option.bind_some, if_neg (show ¬ (1 : Int32) = 0 by decide), d1, Option.bind_some, if_neg (show ¬ (1 : Int32) = 0 by decide), if_neg hne, if_pos (show nI F < (10 : Int32) from nI_lt (b := 10) hF9 (by decide)), e1, Option.bind_some]
            show (fX3_addFlow (nI F) (nI R) fr tt rd ms pr kd ln (nI a) (nI b)).bind _ = _
            unfold fX3_addFlow
            rw [pu_lt, pu_wr hF9 (by decide), Option.bind_some, pu_wr hF9 (by decide), Option.bind_some, pu_drop hF9, Option.bind_some]
            show (((ya_wr ms 10 (nI F) 1).bind _).bind _) = _
            rw [pu_wr hF9 (by decide), Option.bind_some, pu_wr hF9 (by decide), Option.bind_some, pu_wr hF9 (by decide), Option.bind_some, pu_wr hF9 (by decide), Option.bind_some, Option.bind_some, nI_1]
          · unfold fX5_flow
            rw [c2, Option.bind_some, if_neg (show ¬ (1 : Int32) = 0 by decide), d2, Option.bind_some, if_neg (show ¬ (1 : Int32) = 0 by decide), if_neg hne, pu_flows, hb1, Option.bind_some, if_neg (fun e => hF10 ((nI_eq (by omega) (by decide)).mp (e.trans (show (10 : Int32) = nI 10 from rfl)))), e2, Option.bind_some]
            show ((some (nI F)).bind _) = _
            rw [Option.bind_some, show (1 : Int32) = nI 1 from rfl, pu_rd (by decide) (by decide), Option.bind_some, pu_wr (by decide) (by decide), Option.bind_some, hb1, nI_add, show (0 : Int32) = nI 0 from rfl, pu_flow54 hF9 N 0 _ (by decide) (by omega), Option.bind_some, pu_set (f := F) (x := nI 0) 0 rfl (by omega), Option.bind_some, pu_set (f := F) (x := nI 1) 1 rfl (by omega), Option.bind_some, pu_set (f := F) (x := 4) 4 rfl (by omega), Option.bind_some, pu_set (f := F) (x := 5) 5 rfl (by omega), Option.bind_some, pu_set (f := F) (x := 6) 6 rfl (by omega), Option.bind_some]
            rfl
          · obtain ⟨w0, w1, w2, w3, w4, w5, w6, w7, w8, w9⟩ := id hW
            refine ⟨w0, w1, hF9, Nat.lt_of_le_of_lt (clr_le R F) (Nat.lt_of_lt_of_le hR (Nat.pow_le_pow_right (by decide) (by omega))), rfl, rfl, rfl, ?_, ?_, fun f hf => ?_⟩
            · rw [ya_up_ne (by omega), ya_up_ne (by omega), ya_up_ne (by omega), ya_up_ne (by omega), ya_up_ne (by omega), if_neg (by omega), ya_up_ne (by omega)]
              exact w7
            · rw [ya_up_ne (by omega), ya_up_ne (by omega), ya_up_ne (by omega), ya_up_ne (by omega), ya_up_ne (by omega), if_neg (by omega), ya_up_eq]
            · by_cases hfF : f = F
              · subst hfF
                simp only [ya_up_eq]
                refine ⟨⟨a, b, ha, hb, hab, rfl, rfl⟩, by simp [ya_up], by simp [ya_up], by rw [clr_bit (by omega)]; simp [ya_up], by simp [ya_up], fun _ => rfl, by decide, by simp [ya_up], by decide, by simp [ya_up], by decide, by simp [ya_up], by decide, by simp [ya_up], by decide, fun _ => rfl, fun h hh hl => absurd hl (by rw [show (0 : Int32).toInt = 0 by decide]; omega)⟩
              · rw [ya_up_ne hfF, ya_up_ne hfF, ya_up_ne hfF, ya_up_ne hfF, ya_up_ne hfF, ya_up_ne hfF, ya_up_ne hfF]
                refine ((w9 f (by omega)).bit (by rw [clr_bit (by omega)]; simp [hfF])).congr (fun _ _ => rfl) (fun j hj => ?_)
                show ya_up _ _ _ (2 + 24 * f + j) = _
                rw [ya_up_ne (by omega), ya_up_ne (by omega), ya_up_ne (by omega), ya_up_ne (by omega), ya_up_ne (by omega), if_neg (by omega), ya_up_ne (by omega)]
    · refine ⟨-1, nI F, nI R, fr, tt, rd, ms, pr, kd, ln, nx, ct, kK, fK, rK, frK, ttK, rdK, msK, prK, kdK, lnK, shK, mn, nw, bf, ?_, ?_, hI⟩
      · unfold fX4_flow
        rw [c1, Option.bind_some, if_neg (show ¬ (1 : Int32) = 0 by decide), d1, Option.bind_some, if_pos rfl]
      · unfold fX5_flow
        rw [c2, Option.bind_some, if_neg (show ¬ (1 : Int32) = 0 by decide), d2, Option.bind_some, if_pos rfl]
  · refine ⟨-1, nI F, nI R, fr, tt, rd, ms, pr, kd, ln, nx, ct, kK, fK, rK, frK, ttK, rdK, msK, prK, kdK, lnK, shK, mn, nw, bf, ?_, ?_, hI⟩
    · unfold fX4_flow
      rw [c1, Option.bind_some, if_pos rfl]
    · unfold fX5_flow
      rw [c2, Option.bind_some, if_pos rfl]

