/-! ===== of, undo, flow ===== -/
set_option maxHeartbeats 2000000 in
theorem ps_of {N : Nat}  : ob_of N yInv := by
  intro kn fl rs fr tt rd ms pr kd ln sh nx ct kK fK rK frK ttK rdK msK prK kdK lnK shK s_x_groups_least s_x_fit_unread s_x_fit_below s_x_fit_heaps_least s_x_fit_pieces_least s_x_fit_sides_least s_x_fit_rows s_x_fit_surplus s_x_away s_x_testAbove s_x_testBelow mn s_m_below s_m_above1 s_m_below1 nw bf s_m_heapOf s_m_partOf s_m_place s_m_matrix s_m_right s_m_force s_m_work s_m_side s_m_far s_m_fallAbove s_m_fallBelow s_m_ranks s_m_was hI x1 x2
  obtain ⟨⟨K, F, R, hW⟩, hP⟩ := id hI
  have hF := hW.2.2.1
  have hb := hW.2.2.2.2.2.2.2.2.1
  have hfl : fl = nI F := hW.2.2.2.2.2.1
  have hrs : rs = nI R := hW.2.2.2.2.2.2.1
  have hR := hW.2.2.2.1
  subst hfl
  subst hrs
  rcases pu_flow hF hb x1 with ⟨f, hf, rfl, c1, c2⟩ | ⟨c1, c2⟩
  · have hrf := hW.2.2.2.2.2.2.2.2.2 f hf
    obtain ⟨a0, a1, a2, a3, a4, a5, a6, a7, a8, a9, a10, a11, a12, a13, a14, a15, a16⟩ := id hrf
    rcases pk_ix x2 (n := 8) (by decide) with h | h | ⟨w, hw, rfl⟩
    · have hn : ∀ v : Int32, 0 ≤ v.toInt → ¬ x2 = v := fun v hv e => by
        subst e
        rw [Int32.lt_iff_toInt_lt, Int32.toInt_zero] at h
        omega
      have hout : ¬ (0 ≤ x2 ∧ x2 ≤ 7) := fun q => by
        have q1 := q.1
        rw [Int32.le_iff_toInt_le] at q1
        rw [Int32.lt_iff_toInt_lt] at h
        omega
      refine ⟨-1, ?_, ?_, hI⟩
      · unfold fX4_of
        rw [c1, Option.bind_some, if_neg (show ¬ (1 : Int32) = 0 by decide), if_neg (hn 0 (by decide)), if_neg (hn 1 (by decide)), if_neg (hn 2 (by decide)), if_neg (hn 3 (by decide)), if_neg (hn 4 (by decide)), if_neg (hn 5 (by decide)), if_neg (hn 6 (by decide)), if_neg (hn 7 (by decide))]
      · unfold fX5_of
        rw [c2, Option.bind_some, if_neg (show ¬ (1 : Int32) = 0 by decide), pu_isIn, if_neg hout, Option.bind_some, if_pos rfl]
    · have hn : ∀ v : Int32, v.toInt < 8 → ¬ x2 = v := fun v hv e => by
        subst e
        rw [Int32.le_iff_toInt_le, nI_toInt (by decide)] at h
        omega
      have hout : ¬ (0 ≤ x2 ∧ x2 ≤ 7) := fun q => by
        have q2 := q.2
        rw [Int32.le_iff_toInt_le, show (7 : Int32).toInt = 7 by decide] at q2
        rw [Int32.le_iff_toInt_le, nI_toInt (by decide)] at h
        omega
      refine ⟨-1, ?_, ?_, hI⟩
      · unfold fX4_of
        rw [c1, Option.bind_some, if_neg (show ¬ (1 : Int32) = 0 by decide), if_neg (hn 0 (by decide)), if_neg (hn 1 (by decide)), if_neg (hn 2 (by decide)), if_neg (hn 3 (by decide)), if_neg (hn 4 (by decide)), if_neg (hn 5 (by decide)), if_neg (hn 6 (by decide)), if_neg (hn 7 (by decide))]
      · unfold fX5_of
        rw [c2, Option.bind_some, if_neg (show ¬ (1 : Int32) = 0 by decide), pu_isIn, if_neg hout, Option.bind_some, if_pos rfl]
    · have hin : 0 ≤ nI w ∧ nI w ≤ 7 := by
        rw [Int32.le_iff_toInt_le, Int32.le_iff_toInt_le, nI_toInt (by omega), show (7 : Int32).toInt = 7 by decide, Int32.toInt_zero]
        omega
      have hM : fX5_of nw (nI f) (nI w) = some (nw (2 + 24 * f + w)) := by
        unfold fX5_of
        rw [c2, Option.bind_some, if_neg (show ¬ (1 : Int32) = 0 by decide), pu_isIn, if_pos hin, Option.bind_some, if_neg (show ¬ (1 : Int32) = 0 by decide), pu_get (f := f) (x := nI w) w rfl (by omega), Option.bind_some]
      have hf10 : f < 10 := by omega
      match w, hw with
      | 0, _ => exact ⟨fr f, by unfold fX4_of; rw [c1, Option.bind_some, if_neg (show ¬ (1 : Int32) = 0 by decide), if_pos (show nI 0 = (0 : Int32) from rfl), pu_rd hf10 (by decide), Option.bind_some], hM.trans (congrArg some a1), hI⟩
      | 1, _ => exact ⟨tt f, by unfold fX4_of; rw [c1, Option.bind_some, if_neg (show ¬ (1 : Int32) = 0 by decide), if_neg (show ¬ nI 1 = (0 : Int32) by decide), if_pos (show nI 1 = (1 : Int32) from rfl), pu_rd hf10 (by decide), Option.bind_some], hM.trans (congrArg some a2), hI⟩
      | 2, _ =>
        refine ⟨if R.testBit f then 1 else 0, ?_, hM.trans (congrArg some a3), hI⟩
        unfold fX4_of
        rw [c1, Option.bind_some, if_neg (show ¬ (1 : Int32) = 0 by decide), if_neg (show ¬ nI 2 = (0 : Int32) by decide), if_neg (show ¬ nI 2 = (1 : Int32) by decide), if_pos (show nI 2 = (2 : Int32) from rfl), pu_holds (pu_1024 hR hF) hf10, Option.bind_some]
        by_cases hbit : R.testBit f = true
        · rw [if_pos hbit, if_neg (by decide)]
        · rw [if_neg hbit, if_pos rfl]
      | 3, _ => exact ⟨rd f, by unfold fX4_of; rw [c1, Option.bind_some, if_neg (show ¬ (1 : Int32) = 0 by decide), if_neg (show ¬ nI 3 = (0 : Int32) by decide), if_neg (show ¬ nI 3 = (1 : Int32) by decide), if_neg (show ¬ nI 3 = (2 : Int32) by decide), if_pos (show nI 3 = (3 : Int32) from rfl), pu_rd hf10 (by decide), Option.bind_some], hM.trans (congrArg some a4), hI⟩
      | 4, _ => exact ⟨ms f, by unfold fX4_of; rw [c1, Option.bind_some, if_neg (show ¬ (1 : Int32) = 0 by decide), if_neg (show ¬ nI 4 = (0 : Int32) by decide), if_neg (show ¬ nI 4 = (1 : Int32) by decide), if_neg (show ¬ nI 4 = (2 : Int32) by decide), if_neg (show ¬ nI 4 = (3 : Int32) by decide), if_pos (show nI 4 = (4 : Int32) from rfl), pu_rd hf10 (by decide), Option.bind_some], hM.trans (congrArg some a7), hI⟩
      | 5, _ => exact ⟨pr f, by unfold fX4_of; rw [c1, Option.bind_some, if_neg (show ¬ (1 : Int32) = 0 by decide), if_neg (show ¬ nI 5 = (0 : Int32) by decide), if_neg (show ¬ nI 5 = (1 : Int32) by decide), if_neg (show ¬ nI 5 = (2 : Int32) by decide), if_neg (show ¬ nI 5 = (3 : Int32) by decide), if_neg (show ¬ nI 5 = (4 : Int32) by decide), if_pos (show nI 5 = (5 : Int32) from rfl), pu_rd hf10 (by decide), Option.bind_some], hM.trans (congrArg some a9), hI⟩
      | 6, _ => exact ⟨kd f, by unfold fX4_of; rw [c1, Option.bind_some, if_neg (show ¬ (1 : Int32) = 0 by decide), if_neg (show ¬ nI 6 = (0 : Int32) by decide), if_neg (show ¬ nI 6 = (1 : Int32) by decide), if_neg (show ¬ nI 6 = (2 : Int32) by decide), if_neg (show ¬ nI 6 = (3 : Int32) by decide), if_neg (show ¬ nI 6 = (4 : Int32) by decide), if_neg (show ¬ nI 6 = (5 : Int32) by decide), if_pos (show nI 6 = (6 : Int32) from rfl), pu_rd hf10 (by decide), Option.bind_some], hM.trans (congrArg some a11), hI⟩
      | 7, _ => exact ⟨ln f, by unfold fX4_of; rw [c1, Option.bind_some, if_neg (show ¬ (1 : Int32) = 0 by decide), if_neg (show ¬ nI 7 = (0 : Int32) by decide), if_neg (show ¬ nI 7 = (1 : Int32) by decide), if_neg (show ¬ nI 7 = (2 : Int32) by decide), if_neg (show ¬ nI 7 = (3 : Int32) by decide), if_neg (show ¬ nI 7 = (4 : Int32) by decide), if_neg (show ¬ nI 7 = (5 : Int32) by decide), if_neg (show ¬ nI 7 = (6 : Int32) by decide), if_pos (show nI 7 = (7 : Int32) from rfl), pu_rd hf10 (by decide), Option.bind_some], hM.trans (congrArg some a13), hI⟩
  · refine ⟨-1, ?_, ?_, hI⟩
    · unfold fX4_of
      rw [c1, Option.bind_some, if_pos rfl]
    · unfold fX5_of
      rw [c2, Option.bind_some, if_pos rfl]
theorem pu_undo21 {N c : Nat} (hc : c < 6) (bf : Nat → Int32) : ∀ (n i : Nat) (b : Nat → Int32), i ≤ 242 → 242 - i < n → fX5_undo_L21 N n (nI i) (nI c) b bf = some (fun j => if i ≤ j ∧ j < 242 then bf (242 * c + j) else b j) := by
  intro n
  induction n with
  | zero => intro i b h1 h2; omega
  | succ n ih =>
    intro i b h1 h2
    unfold fX5_undo_L21
    by_cases h : i = 242
    · subst h
      rw [if_pos (show (242 : Int32) ≤ nI 242 from nI_le (a := 242) (Nat.le_refl _) (by decide))]
      refine congrArg some (funext fun j => ?_)
      rw [if_neg (by omega)]
    · rw [if_neg (show ¬ (242 : Int32) ≤ nI i from nI_ge (b := 242) (by omega) (by decide)), show ((242 : Int32) * nI c) + nI i = nI (242 * c + i) from by rw [show (242 : Int32) = nI 242 from rfl, pk_mul, nI_add], pu_rd (by omega) (by decide), Option.bind_some, pu_wr (by omega) (by decide), Option.bind_some, pu_lt, nI_1, ih (i + 1) _ (by omega) (by omega)]
      refine congrArg some (funext fun j => ?_)
      by_cases hj : j = i
      · subst hj
        rw [if_neg (by omega), if_pos (by omega), ya_up_eq]
      · by_cases hk : i + 1 ≤ j ∧ j < 242
        · rw [if_pos hk, if_pos (by omega)]
        · rw [if_neg hk, if_neg (by omega), ya_up_ne hj]
set_option maxHeartbeats 2000000 in
theorem ps_undo {N : Nat} (hN : 5000 ≤ N) : ob_undo N yInv := by
  intro kn fl rs fr tt rd ms pr kd ln sh nx ct kK fK rK frK ttK rdK msK prK kdK lnK shK s_x_groups_least s_x_fit_unread s_x_fit_below s_x_fit_heaps_least s_x_fit_pieces_least s_x_fit_sides_least s_x_fit_rows s_x_fit_surplus s_x_away s_x_testAbove s_x_testBelow mn s_m_below s_m_above1 s_m_below1 nw bf s_m_heapOf s_m_partOf s_m_place s_m_matrix s_m_right s_m_force s_m_work s_m_side s_m_far s_m_fallAbove s_m_fallBelow s_m_ranks s_m_was hI
  obtain ⟨⟨K, F, R, hW⟩, hP⟩ := id hI
  obtain ⟨a, c, ha, hc, rfl, rfl, rfl, hA⟩ := hP
  by_cases h0 : c = 0
  · subst h0
    refine ⟨0, kn, fl, rs, fr, tt, rd, ms, pr, kd, ln, sh, nI a, nI 0, nI 0, nw, ?_, ?_, hI⟩
    · unfold fX4_undo fX2_takeBack
      rw [if_pos (show nI 0 = 0 from rfl), Option.bind_some]
      rfl
    · unfold fX5_undo
      rw [if_pos (show nI 0 = 0 from rfl)]
  · have hne : ¬ nI c = 0 := nI_ne0 (by omega) (by omega)
    obtain ⟨q, hq⟩ : ∃ q, q = (a + 5) % 6 := ⟨_, rfl⟩
    have e9 : nI c - 1 = nI (c - 1) := pk_sub (a := c) (b := 1) (by omega)
    refine ⟨1, kK q, fK q, rK q, va_cpy (frK q) fr 0 0 10, va_cpy (ttK q) tt 0 0 10, va_cpy (rdK q) rd 0 0 10, va_cpy (msK q) ms 0 0 10, va_cpy (prK q) pr 0 0 10, va_cpy (kdK q) kd 0 0 10, va_cpy (lnK q) ln 0 0 10, va_cpy (shK q) sh 0 0 160, nI q, nI (c - 1), nI (c - 1), fun j => if 0 ≤ j ∧ j < 242 then bf (242 * (c - 1) + j) else nw j, ?_, ?_, ?_, q, c - 1, by omega, by omega, rfl, rfl, rfl, ?_⟩
    · unfold fX4_undo fX2_takeBack
      rw [if_neg hne, show nI a + 6 - 1 = nI (a + 5) from by rw [show nI a + (6 : Int32) = nI (a + 6) from nI_add a 6]; exact pk_sub (a := a + 6) (b := 1) (by omega), pu_irm (by omega), ← hq, Option.bind_some, pu_lt, e9, pu_ix (by omega) (by decide), Option.bind_some]
      unfold fX3_copyFrom
      simp only [pu_lt, Option.bind_some]
      rfl
    · unfold fX5_undo
      rw [if_neg hne, pu_lt, e9, show (0 : Int32) = nI 0 from rfl, pu_undo21 (by omega) bf N 0 nw (by decide) (by omega), Option.bind_some]
    · obtain ⟨K', F', R', h⟩ := hA (c - 1) (by omega)
      rw [show (a + 6 - c + (c - 1)) % 6 = q by omega] at h
      exact ⟨K', F', R', h.congr (fun j hj => pu_cpy hj) (fun j hj => pu_cpy hj) (fun j hj => pu_cpy hj) (fun j hj => pu_cpy hj) (fun j hj => pu_cpy hj) (fun j hj => pu_cpy hj) (fun j hj => pu_cpy hj) (fun j hj => pu_cpy hj) (fun j hj => by rw [if_pos (by omega)])⟩
    · intro i hi
      have h := hA i (by omega)
      rw [show (a + 6 - c + i) % 6 = (q + 6 - (c - 1) + i) % 6 by omega] at h
      exact h
