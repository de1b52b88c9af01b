/-! ===== the invariant; the simple calls ===== -/
def yInv : yIT := fun kn fl rs fr tt rd ms pr kd ln sh nx ct kK fK rK frK ttK rdK msK prK kdK lnK shK s_x_groups_least s_x_fit_unread s_x_fit_below s_x_fit_heaps_least s_x_fit_pieces_least s_x_fit_sides_least s_x_fit_rows s_x_fit_surplus s_x_away s_x_testAbove s_x_testBelow mn s_m_below s_m_above1 s_m_below1 nw bf s_m_heapOf s_m_partOf s_m_place s_m_matrix s_m_right s_m_force s_m_work s_m_side s_m_far s_m_fallAbove s_m_fallBelow s_m_ranks s_m_was => (∃ K F R, RelW K F R kn fl rs fr tt rd ms pr kd ln sh nw) ∧ RelP nx ct mn kK fK rK frK ttK rdK msK prK kdK lnK shK bf
theorem ps_start : ob_start yInv := by
  refine ⟨⟨2, 0, 0, by decide, by decide, by decide, by decide, rfl, rfl, rfl, rfl, rfl, fun f hf => absurd hf (Nat.not_lt_zero f)⟩, 0, 0, by decide, by decide, rfl, rfl, rfl, fun i hi => absurd hi (Nat.not_lt_zero i)⟩
theorem pu_works18 {N : Nat} {x : Int32} : ∀ (n i : Nat) (b : Nat → Int32), i ≤ 242 → 242 - i < n → fX5_works_L18 N n x (nI i) b = some (fun j => if i ≤ j ∧ j < 242 then 0 else b j) := by
  intro n
  induction n with
  | zero => intro i b h1 h2; omega
  | succ n ih =>
    intro i b h1 h2
    unfold fX5_works_L18
    by_cases h : i = 242
    · subst h
      rw [if_pos (show (242 : Int32) ≤ nI 242 from nI_le (a := 242) (Nat.le_refl _) (by decide))]
      refine congrArg some (funext fun j => ?_)
      rw [if_neg (by omega)]
    · rw [if_neg (show ¬ (242 : Int32) ≤ nI i from nI_ge (b := 242) (by omega) (by decide)), pu_wr (by omega) (by decide), Option.bind_some, pu_lt, nI_1, ih (i + 1) _ (by omega) (by omega)]
      refine congrArg some (funext fun j => ?_)
      by_cases hj : j = i
      · subst hj
        rw [if_neg (by omega), if_pos (by omega), ya_up_eq]
      · by_cases hk : i + 1 ≤ j ∧ j < 242
        · rw [if_pos hk, if_pos (by omega)]
        · rw [if_neg hk, if_neg (by omega), ya_up_ne hj]
theorem pu_lohi {x lo hi : Int32} : (x < lo ∨ (¬ x < lo ∧ ¬ x ≤ hi)) ∧ ¬ (lo ≤ x ∧ x ≤ hi) ∨ (¬ x < lo ∧ x ≤ hi) ∧ (lo ≤ x ∧ x ≤ hi) := by
  rw [Int32.lt_iff_toInt_lt, Int32.le_iff_toInt_le, Int32.le_iff_toInt_le]
  omega
set_option maxHeartbeats 2000000 in
theorem ps_works {N : Nat} (hN : 5000 ≤ N) : ob_works N yInv := by
  intro kn fl rs fr tt rd ms pr kd ln sh nx ct kK fK rK frK ttK rdK msK prK kdK lnK shK s_x_groups_least s_x_fit_unread s_x_fit_below s_x_fit_heaps_least s_x_fit_pieces_least s_x_fit_sides_least s_x_fit_rows s_x_fit_surplus s_x_away s_x_testAbove s_x_testBelow mn s_m_below s_m_above1 s_m_below1 nw bf s_m_heapOf s_m_partOf s_m_place s_m_matrix s_m_right s_m_force s_m_work s_m_side s_m_far s_m_fallAbove s_m_fallBelow s_m_ranks s_m_was hI x1
  obtain ⟨⟨K, F, R, hW⟩, hP⟩ := id hI
  rcases pu_lohi (x := x1) (lo := 2) (hi := 6) with ⟨h1, h2⟩ | ⟨⟨h1, h3⟩, h2⟩
  · refine ⟨0, kn, fl, rs, nx, ct, kK, fK, rK, frK, ttK, rdK, msK, prK, kdK, lnK, shK, mn, nw, bf, ?_, ?_, hI⟩
    · unfold fX4_works
      rcases h1 with h1 | ⟨h1, h3⟩
      · rw [if_pos h1]
      · rw [if_neg h1, if_neg h3]
    · unfold fX5_works
      rw [pu_isIn, if_neg h2, Option.bind_some, if_pos rfl]
  · obtain ⟨k, hk, rfl⟩ : ∃ k : Nat, (2 ≤ k ∧ k ≤ 6) ∧ x1 = nI k := by
      have h4 : ¬ x1 < 0 := by
        have := h2.1
        rw [Int32.le_iff_toInt_le] at this
        rw [Int32.lt_iff_toInt_lt]
        have e : (2 : Int32).toInt = 2 := by decide
        have e0 : (0 : Int32).toInt = 0 := by decide
        omega
      obtain ⟨j, hj, rfl⟩ := nI_of2 (n := 6) (by decide) h4 h3
      refine ⟨j, ⟨?_, hj⟩, rfl⟩
      exact (nI_leI (a := 2) (by decide) (by omega)).mp h2.1
    obtain ⟨zn, zc, z3, z4, z5, z6, z7, z8, z9, z10, z11, z12, z13, y1, y2, e1, e2, hP2⟩ := pu_keepP hN hP hW
    refine ⟨1, nI k, 0, 0, zn, zc, z3, z4, z5, z6, z7, z8, z9, z10, z11, z12, z13, y1, ya_up (fun j => if 0 ≤ j ∧ j < 242 then 0 else nw j) 0 (nI k), y2, ?_, ?_, ?_, hP2⟩
    · unfold fX4_works
      rw [if_neg h1, if_pos h3, e1, Option.bind_some]
      rfl
    · unfold fX5_works
      rw [pu_isIn, if_pos h2, Option.bind_some, if_neg (by decide), e2, Option.bind_some]
      show (fX5_works_L18 N N (nI k) 0 nw).bind _ = _
      rw [show (0 : Int32) = nI 0 from rfl, pu_works18 N 0 nw (by decide) (by omega), Option.bind_some, pu_wr (by decide) (by decide), Option.bind_some]
      rfl
    · refine ⟨k, 0, 0, hk.1, hk.2, by decide, by decide, rfl, rfl, rfl, ?_, ?_, fun f hf => absurd hf (Nat.not_lt_zero f)⟩
      · rw [ya_up_eq]
      · rw [ya_up_ne (by decide), if_pos (by decide)]
        rfl
set_option maxHeartbeats 2000000 in
theorem ps_miss {N : Nat} (hN : 5000 ≤ N) : ob_miss N yInv := by
  intro kn fl rs fr tt rd ms pr kd ln sh nx ct kK fK rK frK ttK rdK msK prK kdK lnK shK s_x_groups_least s_x_fit_unread s_x_fit_below s_x_fit_heaps_least s_x_fit_pieces_least s_x_fit_sides_least s_x_fit_rows s_x_fit_surplus s_x_away s_x_testAbove s_x_testBelow mn s_m_below s_m_above1 s_m_below1 nw bf s_m_heapOf s_m_partOf s_m_place s_m_matrix s_m_right s_m_force s_m_work s_m_side s_m_far s_m_fallAbove s_m_fallBelow s_m_ranks s_m_was hI x1 x2
  obtain ⟨⟨K, F, R, hW⟩, hP⟩ := id hI
  have hF := hW.2.2.1
  have hb := hW.2.2.2.2.2.2.2.2.1
  have hfl : fl = nI F := hW.2.2.2.2.2.1
  have hrs : rs = nI R := hW.2.2.2.2.2.2.1
  subst hfl
  rcases pu_flow hF hb x1 with ⟨f, hf, rfl, c1, c2⟩ | ⟨c1, c2⟩
  · rcases pu_lohi (x := x2) (lo := 1) (hi := 4) with ⟨h1, h2⟩ | ⟨⟨h1, h3⟩, h2⟩
    · refine ⟨0, ms, nx, ct, kK, fK, rK, frK, ttK, rdK, msK, prK, kdK, lnK, shK, mn, nw, bf, ?_, ?_, hI⟩
      · unfold fX4_miss
        rw [c1, Option.bind_some, if_neg (by decide)]
        rcases h1 with h1 | ⟨h1, h3⟩
        · rw [if_pos h1]
        · rw [if_neg h1, if_neg h3]
      · unfold fX5_miss
        rw [c2, Option.bind_some, if_neg (by decide), pu_isIn, if_neg h2, Option.bind_some, if_pos rfl]
    · obtain ⟨zn, zc, z3, z4, z5, z6, z7, z8, z9, z10, z11, z12, z13, y1, y2, e1, e2, hP2⟩ := pu_keepP hN hP hW
      refine ⟨1, ya_up ms f x2, zn, zc, z3, z4, z5, z6, z7, z8, z9, z10, z11, z12, z13, y1, ya_up nw (2 + 24 * f + 4) x2, y2, ?_, ?_, ⟨K, F, R, ?_⟩, hP2⟩
      · unfold fX4_miss
        rw [c1, Option.bind_some, if_neg (by decide), if_neg h1, if_pos h3, e1, Option.bind_some]
        show (ya_wr ms 10 (nI f) x2).bind _ = _
        rw [pu_wr (by omega) (by decide), Option.bind_some]
      · unfold fX5_miss
        rw [c2, Option.bind_some, if_neg (by decide), pu_isIn, if_pos h2, Option.bind_some, if_neg (by decide), e2, Option.bind_some]
        show (fX5_set nw (nI f) 4 x2).bind _ = _
        rw [pu_set (f := f) (x := 4) 4 rfl (by omega), Option.bind_some]
      · rw [hrs]
        have hrf := hW.2.2.2.2.2.2.2.2.2 f hf
        refine hW.upd hf hW.2.2.2.1 (fun _ _ _ => rfl) (fun _ _ => rfl) (fun _ _ => rfl) (fun _ _ => rfl) (fun j hj => ya_up_ne hj) (fun _ _ => rfl) (fun _ _ => rfl) (fun _ _ => rfl) (fun _ _ => rfl) (fun j hj => ya_up_ne (by omega)) ?_
        obtain ⟨a0, a1, a2, a3, a4, a5, a6, a7, a8, a9, a10, a11, a12, a13, a14, a15, a16⟩ := hrf
        rw [Int32.le_iff_toInt_le, Int32.le_iff_toInt_le, show (1 : Int32).toInt = 1 by decide, show (4 : Int32).toInt = 4 by decide] at h2
        exact ⟨a0, by simpa [ya_up] using a1, by simpa [ya_up] using a2, by simpa [ya_up] using a3, by simpa [ya_up] using a4, by simpa [ya_up] using a5, by simpa [ya_up] using a6, by simp [ya_up], by simpa [ya_up] using h2, by simpa [ya_up] using a9, by simpa [ya_up] using a10, by simpa [ya_up] using a11, by simpa [ya_up] using a12, by simpa [ya_up] using a13, by simpa [ya_up] using a14, by simpa [ya_up] using a15, fun h hh hl => by have := a16 h hh (by simpa [ya_up] using hl); simpa [ya_up, show ∀ w, w < 8 → ¬ 8 + h = w from fun w hw => by omega] using this⟩
  · refine ⟨0, ms, nx, ct, kK, fK, rK, frK, ttK, rdK, msK, prK, kdK, lnK, shK, mn, nw, bf, ?_, ?_, hI⟩
    · unfold fX4_miss
      rw [c1, Option.bind_some, if_pos rfl]
    · unfold fX5_miss
      rw [c2, Option.bind_some, if_pos rfl]
set_option maxHeartbeats 2000000 in
theorem ps_price {N : Nat} (hN : 5000 ≤ N) : ob_price N yInv := by
  intro kn fl rs fr tt rd ms pr kd ln sh nx ct kK fK rK frK ttK rdK msK prK kdK lnK shK s_x_groups_least s_x_fit_unread s_x_fit_below s_x_fit_heaps_least s_x_fit_pieces_least s_x_fit_sides_least s_x_fit_rows s_x_fit_surplus s_x_away s_x_testAbove s_x_testBelow mn s_m_below s_m_above1 s_m_below1 nw bf s_m_heapOf s_m_partOf s_m_place s_m_matrix s_m_right s_m_force s_m_work s_m_side s_m_far s_m_fallAbove s_m_fallBelow s_m_ranks s_m_was hI x1 x2
  obtain ⟨⟨K, F, R, hW⟩, hP⟩ := id hI
  have hF := hW.2.2.1
  have hb := hW.2.2.2.2.2.2.2.2.1
  have hfl : fl = nI F := hW.2.2.2.2.2.1
  have hrs : rs = nI R := hW.2.2.2.2.2.2.1
  subst hfl
  rcases pu_flow hF hb x1 with ⟨f, hf, rfl, c1, c2⟩ | ⟨c1, c2⟩
  · rcases pu_lohi (x := x2) (lo := 0) (hi := 99) with ⟨h1, h2⟩ | ⟨⟨h1, h3⟩, h2⟩
    · refine ⟨0, pr, nx, ct, kK, fK, rK, frK, ttK, rdK, msK, prK, kdK, lnK, shK, mn, nw, bf, ?_, ?_, hI⟩
      · unfold fX4_price
        rw [c1, Option.bind_some, if_neg (by decide)]
        rcases h1 with h1 | ⟨h1, h3⟩
        · rw [if_pos h1]
        · rw [if_neg h1, if_neg h3]
      · unfold fX5_price
        rw [c2, Option.bind_some, if_neg (by decide), pu_isIn, if_neg h2, Option.bind_some, if_pos rfl]
    · obtain ⟨zn, zc, z3, z4, z5, z6, z7, z8, z9, z10, z11, z12, z13, y1, y2, e1, e2, hP2⟩ := pu_keepP hN hP hW
      refine ⟨1, ya_up pr f x2, zn, zc, z3, z4, z5, z6, z7, z8, z9, z10, z11, z12, z13, y1, ya_up nw (2 + 24 * f + 5) x2, y2, ?_, ?_, ⟨K, F, R, ?_⟩, hP2⟩
      · unfold fX4_price
        rw [c1, Option.bind_some, if_neg (by decide), if_neg h1, if_pos h3, e1, Option.bind_some]
        show (ya_wr pr 10 (nI f) x2).bind _ = _
        rw [pu_wr (by omega) (by decide), Option.bind_some]
      · unfold fX5_price
        rw [c2, Option.bind_some, if_neg (by decide), pu_isIn, if_pos h2, Option.bind_some, if_neg (by decide), e2, Option.bind_some]
        show (fX5_set nw (nI f) 5 x2).bind _ = _
        rw [pu_set (f := f) (x := 5) 5 rfl (by omega), Option.bind_some]
      · rw [hrs]
        have hrf := hW.2.2.2.2.2.2.2.2.2 f hf
        refine hW.upd hf hW.2.2.2.1 (fun _ _ _ => rfl) (fun _ _ => rfl) (fun _ _ => rfl) (fun _ _ => rfl) (fun _ _ => rfl) (fun j hj => ya_up_ne hj) (fun _ _ => rfl) (fun _ _ => rfl) (fun _ _ => rfl) (fun j hj => ya_up_ne (by omega)) ?_
        obtain ⟨a0, a1, a2, a3, a4, a5, a6, a7, a8, a9, a10, a11, a12, a13, a14, a15, a16⟩ := hrf
        rw [Int32.le_iff_toInt_le, Int32.le_iff_toInt_le, show (0 : Int32).toInt = 0 by decide, show (99 : Int32).toInt = 99 by decide] at h2
        exact ⟨a0, by simpa [ya_up] using a1, by simpa [ya_up] using a2, by simpa [ya_up] using a3, by simpa [ya_up] using a4, by simpa [ya_up] using a5, by simpa [ya_up] using a6, by simpa [ya_up] using a7, by simpa [ya_up] using a8, by simp [ya_up], by simpa [ya_up] using h2, by simpa [ya_up] using a11, by simpa [ya_up] using a12, by simpa [ya_up] using a13, by simpa [ya_up] using a14, by simpa [ya_up] using a15, fun h hh hl => by have := a16 h hh (by simpa [ya_up] using hl); simpa [ya_up, show ∀ w, w < 8 → ¬ 8 + h = w from fun w hw => by omega] using this⟩
  · refine ⟨0, pr, nx, ct, kK, fK, rK, frK, ttK, rdK, msK, prK, kdK, lnK, shK, mn, nw, bf, ?_, ?_, hI⟩
    · unfold fX4_price
      rw [c1, Option.bind_some, if_pos rfl]
    · unfold fX5_price
      rw [c2, Option.bind_some, if_pos rfl]
set_option maxHeartbeats 2000000 in
theorem ps_read {N : Nat} (hN : 5000 ≤ N) : ob_read N yInv := by
  intro kn fl rs fr tt rd ms pr kd ln sh nx ct kK fK rK frK ttK rdK msK prK kdK lnK shK s_x_groups_least s_x_fit_unread s_x_fit_below s_x_fit_heaps_least s_x_fit_pieces_least s_x_fit_sides_least s_x_fit_rows s_x_fit_surplus s_x_away s_x_testAbove s_x_testBelow mn s_m_below s_m_above1 s_m_below1 nw bf s_m_heapOf s_m_partOf s_m_place s_m_matrix s_m_right s_m_force s_m_work s_m_side s_m_far s_m_fallAbove s_m_fallBelow s_m_ranks s_m_was hI x1 x2
  obtain ⟨⟨K, F, R, hW⟩, hP⟩ := id hI
  have hF := hW.2.2.1
  have hb := hW.2.2.2.2.2.2.2.2.1
  have hfl : fl = nI F := hW.2.2.2.2.2.1
  have hrs : rs = nI R := hW.2.2.2.2.2.2.1
  have hR := hW.2.2.2.1
  subst hfl
  subst hrs
  rcases pu_flow hF hb x1 with ⟨f, hf, rfl, c1, c2⟩ | ⟨c1, c2⟩
  · have hrf := hW.2.2.2.2.2.2.2.2.2 f hf
    obtain ⟨a0, a1, a2, a3, a4, a5, a6, a7, a8, a9, a10, a11, a12, a13, a14, a15, a16⟩ := id hrf
    have b2 : nw (2 + 24 * f + 2) = _ := a3
    have b6 : nw (2 + 24 * f + 6) = _ := a11
    rcases pu_lohi (x := x2) (lo := -2000) (hi := 2000) with ⟨h1, h2⟩ | ⟨⟨h1, h3⟩, h2⟩
    · refine ⟨0, nI R, rd, nx, ct, kK, fK, rK, frK, ttK, rdK, msK, prK, kdK, lnK, shK, mn, nw, bf, ?_, ?_, hI⟩
      · unfold fX4_read
        rw [c1, Option.bind_some, if_neg (by decide)]
        rcases h1 with h1 | ⟨h1, h3⟩
        · rw [if_pos h1]
        · rw [if_neg h1, if_neg h3]
      · unfold fX5_read
        rw [c2, Option.bind_some, if_neg (by decide), pu_isIn, if_neg h2, Option.bind_some, if_pos rfl]
    · obtain ⟨zn, zc, z3, z4, z5, z6, z7, z8, z9, z10, z11, z12, z13, y1, y2, e1, e2, hP2⟩ := pu_keepP hN hP hW
      refine ⟨1, nI (R ||| 2 ^ f), ya_up rd f x2, zn, zc, z3, z4, z5, z6, z7, z8, z9, z10, z11, z12, z13, y1, ya_up (ya_up nw (2 + 24 * f + 2) 1) (2 + 24 * f + 3) x2, y2, ?_, ?_, ⟨K, F, R ||| 2 ^ f, ?_⟩, hP2⟩
      · unfold fX4_read
        rw [c1, Option.bind_some, if_neg (by decide), if_neg h1, if_pos h3, e1, Option.bind_some]
        show (fX3_setReading (nI R) rd (nI f) x2).bind _ = _
        rw [pu_setR (by omega), Option.bind_some]
      · unfold fX5_read
        rw [c2, Option.bind_some, if_neg (by decide), pu_isIn, if_pos h2, Option.bind_some, if_neg (by decide), e2, Option.bind_some]
        show (fX5_set nw (nI f) 2 1).bind _ = _
        rw [pu_set (f := f) (x := 2) 2 rfl (by omega), Option.bind_some, pu_set (f := f) (x := 3) 3 rfl (by omega), Option.bind_some]
      · refine hW.upd hf (set_lt hR hf) (fun g _ hg => by rw [set_bit]; simp [hg]) (fun _ _ => rfl) (fun _ _ => rfl) (fun j hj => ya_up_ne hj) (fun _ _ => rfl) (fun _ _ => rfl) (fun _ _ => rfl) (fun _ _ => rfl) (fun _ _ => rfl) (fun j hj => by rw [ya_up_ne (by omega), ya_up_ne (by omega)]) ?_
        rw [Int32.le_iff_toInt_le, Int32.le_iff_toInt_le, show (-2000 : Int32).toInt = -2000 by decide, show (2000 : Int32).toInt = 2000 by decide] at h2
        exact ⟨a0, by simpa [ya_up] using a1, by simpa [ya_up] using a2, by simp [ya_up, set_bit], by simp [ya_up], by simp [set_bit], by simpa [ya_up] using h2, by simpa [ya_up] using a7, by simpa [ya_up] using a8, by simpa [ya_up] using a9, by simpa [ya_up] using a10, by simpa [ya_up] using a11, by simpa [ya_up] using a12, by simpa [ya_up] using a13, by simpa [ya_up] using a14, by simpa [ya_up] using a15, fun h hh hl => by have := a16 h hh (by simpa [ya_up] using hl); simpa [ya_up, show ∀ w, w < 8 → ¬ 8 + h = w from fun w hw => by omega] using this⟩
  · refine ⟨0, nI R, rd, nx, ct, kK, fK, rK, frK, ttK, rdK, msK, prK, kdK, lnK, shK, mn, nw, bf, ?_, ?_, hI⟩
    · unfold fX4_read
      rw [c1, Option.bind_some, if_pos rfl]
    · unfold fX5_read
      rw [c2, Option.bind_some, if_pos rfl]
set_option maxHeartbeats 2000000 in
theorem ps_unread {N : Nat} (hN : 5000 ≤ N) : ob_unread N yInv := by
  intro kn fl rs fr tt rd ms pr kd ln sh nx ct kK fK rK frK ttK rdK msK prK kdK lnK shK s_x_groups_least s_x_fit_unread s_x_fit_below s_x_fit_heaps_least s_x_fit_pieces_least s_x_fit_sides_least s_x_fit_rows s_x_fit_surplus s_x_away s_x_testAbove s_x_testBelow mn s_m_below s_m_above1 s_m_below1 nw bf s_m_heapOf s_m_partOf s_m_place s_m_matrix s_m_right s_m_force s_m_work s_m_side s_m_far s_m_fallAbove s_m_fallBelow s_m_ranks s_m_was hI x1
  obtain ⟨⟨K, F, R, hW⟩, hP⟩ := id hI
  have hF := hW.2.2.1
  have hb := hW.2.2.2.2.2.2.2.2.1
  have hfl : fl = nI F := hW.2.2.2.2.2.1
  have hrs : rs = nI R := hW.2.2.2.2.2.2.1
  have hR := hW.2.2.2.1
  subst hfl
  subst hrs
  rcases pu_flow hF hb x1 with ⟨f, hf, rfl, c1, c2⟩ | ⟨c1, c2⟩
  · have hrf := hW.2.2.2.2.2.2.2.2.2 f hf
    obtain ⟨a0, a1, a2, a3, a4, a5, a6, a7, a8, a9, a10, a11, a12, a13, a14, a15, a16⟩ := id hrf
    have b2 : nw (2 + 24 * f + 2) = _ := a3
    have b6 : nw (2 + 24 * f + 6) = _ := a11
    by_cases hbit : R.testBit f = true
    · obtain ⟨zn, zc, z3, z4, z5, z6, z7, z8, z9, z10, z11, z12, z13, y1, y2, e1, e2, hP2⟩ := pu_keepP hN hP hW
      refine ⟨1, nI (clr R f), ya_up rd f 0, zn, zc, z3, z4, z5, z6, z7, z8, z9, z10, z11, z12, z13, y1, ya_up (ya_up nw (2 + 24 * f + 2) 0) (2 + 24 * f + 3) 0, y2, ?_, ?_, ⟨K, F, clr R f, ?_⟩, hP2⟩
      · unfold fX4_unread
        rw [c1, Option.bind_some, if_neg (by decide), pu_holds (pu_1024 hR hF) (by omega), if_pos hbit, Option.bind_some, if_neg (by decide), e1, Option.bind_some]
        show (fX3_dropReading (nI R) rd (nI f)).bind _ = _
        rw [pu_drop (by omega), Option.bind_some]
      · unfold fX5_unread
        rw [c2, Option.bind_some, if_neg (by decide), pu_get (f := f) (x := 2) 2 rfl (by omega), Option.bind_some, b2, if_pos hbit, if_neg (by decide), e2, Option.bind_some]
        show (fX5_set nw (nI f) 2 0).bind _ = _
        rw [pu_set (f := f) (x := 2) 2 rfl (by omega), Option.bind_some, pu_set (f := f) (x := 3) 3 rfl (by omega), Option.bind_some]
      · refine hW.upd hf (Nat.lt_of_le_of_lt (clr_le R f) hR) (fun g hg0 hg => by rw [clr_bit (by omega)]; simp [hg]) (fun _ _ => rfl) (fun _ _ => rfl) (fun j hj => ya_up_ne hj) (fun _ _ => rfl) (fun _ _ => rfl) (fun _ _ => rfl) (fun _ _ => rfl) (fun _ _ => rfl) (fun j hj => by rw [ya_up_ne (by omega), ya_up_ne (by omega)]) ?_
        exact ⟨a0, by simpa [ya_up] using a1, by simpa [ya_up] using a2, by rw [clr_bit (by omega)]; simp [ya_up], by simp [ya_up], by simp [ya_up], by simp [ya_up], by simpa [ya_up] using a7, by simpa [ya_up] using a8, by simpa [ya_up] using a9, by simpa [ya_up] using a10, by simpa [ya_up] using a11, by simpa [ya_up] using a12, by simpa [ya_up] using a13, by simpa [ya_up] using a14, by simpa [ya_up] using a15, fun h hh hl => by have := a16 h hh (by simpa [ya_up] using hl); simpa [ya_up, show ∀ w, w < 8 → ¬ 8 + h = w from fun w hw => by omega] using this⟩
    · refine ⟨0, nI R, rd, nx, ct, kK, fK, rK, frK, ttK, rdK, msK, prK, kdK, lnK, shK, mn, nw, bf, ?_, ?_, hI⟩
      · unfold fX4_unread
        rw [c1, Option.bind_some, if_neg (by decide), pu_holds (pu_1024 hR hF) (by omega), if_neg hbit, Option.bind_some, if_pos rfl]
      · unfold fX5_unread
        rw [c2, Option.bind_some, if_neg (by decide), pu_get (f := f) (x := 2) 2 rfl (by omega), Option.bind_some, b2, if_neg hbit, if_pos rfl]
  · refine ⟨0, nI R, rd, nx, ct, kK, fK, rK, frK, ttK, rdK, msK, prK, kdK, lnK, shK, mn, nw, bf, ?_, ?_, hI⟩
    · unfold fX4_unread
      rw [c1, Option.bind_some, if_pos rfl]
    · unfold fX5_unread
      rw [c2, Option.bind_some, if_pos rfl]
set_option maxHeartbeats 2000000 in
theorem ps_lose {N : Nat} (hN : 5000 ≤ N) : ob_lose N yInv := by
  intro kn fl rs fr tt rd ms pr kd ln sh nx ct kK fK rK frK ttK rdK msK prK kdK lnK shK s_x_groups_least s_x_fit_unread s_x_fit_below s_x_fit_heaps_least s_x_fit_pieces_least s_x_fit_sides_least s_x_fit_rows s_x_fit_surplus s_x_away s_x_testAbove s_x_testBelow mn s_m_below s_m_above1 s_m_below1 nw bf s_m_heapOf s_m_partOf s_m_place s_m_matrix s_m_right s_m_force s_m_work s_m_side s_m_far s_m_fallAbove s_m_fallBelow s_m_ranks s_m_was hI x1
  obtain ⟨⟨K, F, R, hW⟩, hP⟩ := id hI
  have hF := hW.2.2.1
  have hb := hW.2.2.2.2.2.2.2.2.1
  have hfl : fl = nI F := hW.2.2.2.2.2.1
  have hrs : rs = nI R := hW.2.2.2.2.2.2.1
  have hR := hW.2.2.2.1
  subst hfl
  subst hrs
  rcases pu_flow hF hb x1 with ⟨f, hf, rfl, c1, c2⟩ | ⟨c1, c2⟩
  · have hrf := hW.2.2.2.2.2.2.2.2.2 f hf
    obtain ⟨a0, a1, a2, a3, a4, a5, a6, a7, a8, a9, a10, a11, a12, a13, a14, a15, a16⟩ := id hrf
    have b2 : nw (2 + 24 * f + 2) = _ := a3
    have b6 : nw (2 + 24 * f + 6) = _ := a11
    by_cases hkd : kd f = -1
    · refine ⟨0, kd, ln, nx, ct, kK, fK, rK, frK, ttK, rdK, msK, prK, kdK, lnK, shK, mn, nw, bf, ?_, ?_, hI⟩
      · unfold fX4_lose
        rw [c1, Option.bind_some, if_neg (by decide), pu_rd (by omega) (by decide), Option.bind_some, if_pos hkd]
      · unfold fX5_lose
        rw [c2, Option.bind_some, if_neg (by decide), pu_get (f := f) (x := 6) 6 rfl (by omega), Option.bind_some, b6, if_pos hkd]
    · obtain ⟨zn, zc, z3, z4, z5, z6, z7, z8, z9, z10, z11, z12, z13, y1, y2, e1, e2, hP2⟩ := pu_keepP hN hP hW
      refine ⟨1, ya_up kd f (-1), ya_up ln f 0, zn, zc, z3, z4, z5, z6, z7, z8, z9, z10, z11, z12, z13, y1, ya_up (ya_up nw (2 + 24 * f + 6) (-1)) (2 + 24 * f + 7) 0, y2, ?_, ?_, ⟨K, F, R, ?_⟩, hP2⟩
      · unfold fX4_lose
        rw [c1, Option.bind_some, if_neg (by decide), pu_rd (by omega) (by decide), Option.bind_some, if_neg hkd, e1, Option.bind_some]
        show (ya_wr kd 10 (nI f) (-1)).bind _ = _
        rw [pu_wr (by omega) (by decide), Option.bind_some, pu_wr (by omega) (by decide), Option.bind_some]
      · unfold fX5_lose
        rw [c2, Option.bind_some, if_neg (by decide), pu_get (f := f) (x := 6) 6 rfl (by omega), Option.bind_some, b6, if_neg hkd, e2, Option.bind_some]
        show (fX5_set nw (nI f) 6 (-1)).bind _ = _
        rw [pu_set (f := f) (x := 6) 6 rfl (by omega), Option.bind_some, pu_set (f := f) (x := 7) 7 rfl (by omega), Option.bind_some]
      · refine hW.upd hf hR (fun _ _ _ => rfl) (fun _ _ => rfl) (fun _ _ => rfl) (fun _ _ => rfl) (fun _ _ => rfl) (fun _ _ => rfl) (fun j hj => ya_up_ne hj) (fun j hj => ya_up_ne hj) (fun _ _ => rfl) (fun j hj => by rw [ya_up_ne (by omega), ya_up_ne (by omega)]) ?_
        exact ⟨a0, by simpa [ya_up] using a1, by simpa [ya_up] using a2, by simpa [ya_up] using a3, by simpa [ya_up] using a4, by simpa [ya_up] using a5, by simpa [ya_up] using a6, by simpa [ya_up] using a7, by simpa [ya_up] using a8, by simpa [ya_up] using a9, by simpa [ya_up] using a10, by simp [ya_up], by simp [ya_up], by simp [ya_up], by simp [ya_up], by simp [ya_up], fun h hh hl => absurd hl (by simp [ya_up])⟩
  · refine ⟨0, kd, ln, nx, ct, kK, fK, rK, frK, ttK, rdK, msK, prK, kdK, lnK, shK, mn, nw, bf, ?_, ?_, hI⟩
    · unfold fX4_lose
      rw [c1, Option.bind_some, if_pos rfl]
    · unfold fX5_lose
      rw [c2, Option.bind_some, if_pos rfl]
