/-! ===== hour ===== -/
/-- how many flows below F the set holds -/
def bc : Nat → Nat → Nat
  | 0, _ => 0
  | F + 1, R => bc F R + (if R.testBit F then 1 else 0)
theorem bc_congr {R R' : Nat} : ∀ F, (∀ f, f < F → R'.testBit f = R.testBit f) → bc F R' = bc F R
  | 0, _ => rfl
  | F + 1, h => by
    unfold bc
    rw [bc_congr F (fun f hf => h f (by omega)), h F (by omega)]
theorem bc_le (R : Nat) : ∀ F, bc F R ≤ F
  | 0 => Nat.le_refl 0
  | F + 1 => by
    unfold bc
    have := bc_le R F
    split <;> omega
theorem bc_up {R F : Nat} (hR : R < 2 ^ F) : ∀ G, F ≤ G → bc G R = bc F R
  | 0, h => by
    have : F = 0 := by omega
    subst this; rfl
  | G + 1, h => by
    by_cases e : F = G + 1
    · subst e; rfl
    · show bc G R + (if R.testBit G then 1 else 0) = bc F R
      rw [bc_up hR G (by omega), Nat.testBit_lt_two_pow (Nat.lt_of_lt_of_le hR (Nat.pow_le_pow_right (by decide) (by omega)))]
      simp
theorem pu_bc : ∀ R, R < 1024 → fJ6_bitCount_0f7a4 (nI R) = some (nI (bc 10 R)) := by decide +kernel
theorem pu_bcF {R F : Nat} (hR : R < 2 ^ F) (hF : F ≤ 10) : fJ6_bitCount_0f7a4 (nI R) = some (nI (bc F R)) := by
  rw [pu_bc R (pu_1024 hR hF), bc_up hR 10 hF]
theorem pu_mul10 {x : Int32} (h1 : -128 ≤ x.toInt) (h2 : x.toInt ≤ 127) : (10 * x).toInt = 10 * x.toInt := by
  rw [Int32.toInt_mul, show (10 : Int32).toInt = 10 by decide]
  rw [Int.bmod_eq_of_le (by omega) (by omega)]
theorem pu_hasNumber {f h : Nat} {kd ln sh : Nat → Int32} (hf : f < 10) (hh : h < 16) : fX3_hasNumber kd ln sh (nI f) (nI h) = some (if kd f ≠ -1 ∧ nI h < ln f ∧ ¬ (kd f = 3 ∧ sh (16 * f + h) = -128) then 1 else 0) := by
  unfold fX3_hasNumber
  rw [pu_rd hf (by decide), Option.bind_some, pu_rd hf (by decide), Option.bind_some, Option.bind_some, show nI f * (16 : Int32) + nI h = nI (16 * f + h) from by rw [show (16 : Int32) = nI 16 from rfl, pk_mul, nI_add, Nat.mul_comm], pu_rd (by omega) (by decide), Option.bind_some]
  by_cases c1 : kd f = -1
  · rw [if_pos c1, if_neg (fun q => q.1 c1)]
  · rw [if_neg c1]
    by_cases c2 : nI h < ln f
    · rw [if_pos c2]
      by_cases c3 : kd f = 3
      · rw [if_pos c3]
        by_cases c4 : sh (16 * f + h) = -128
        · rw [if_pos c4, if_neg (fun q => q.2.2 ⟨c3, c4⟩)]
        · rw [if_neg c4, if_pos ⟨c1, c2, fun q => c4 q.2⟩]
      · rw [if_neg c3, if_pos ⟨c1, c2, fun q => c3 q.1⟩]
    · rw [if_neg c2, if_neg (fun q => c2 q.2.1)]
theorem pu_numberAt {f h : Nat} {sh : Nat → Int32} (hf : f < 10) (hh : h < 16) : fX3_numberAt sh (nI f) (nI h) = some (10 * sh (16 * f + h)) := by
  unfold fX3_numberAt
  rw [show nI f * (16 : Int32) + nI h = nI (16 * f + h) from by rw [show (16 : Int32) = nI 16 from rfl, pk_mul, nI_add, Nat.mul_comm], pu_rd (by omega) (by decide), Option.bind_some, Int32.mul_comm]
set_option maxHeartbeats 2000000 in
theorem pu_hour {N K F h : Nat} (hF : F ≤ 10) (hh : h < 16) {kn fl : Int32} {fr tt ms pr kd ln sh : Nat → Int32} : ∀ (n i R : Nat) (rd nw : Nat → Int32), i ≤ F → F - i < n → RelW K F R kn fl (nI R) fr tt rd ms pr kd ln sh nw → ∃ (R' : Nat) (rd' nw' : Nat → Int32), fX4_hour_L25 N n (nI h) (nI i) (nI F) (nI R) rd kd ln sh = some (nI R', rd') ∧ fX5_hour_L20 N n (nI h) (nI (bc i R)) (nI i) nw = some (nI (bc F R'), nw') ∧ RelW K F R' kn fl (nI R') fr tt rd' ms pr kd ln sh nw' := by
  intro n
  induction n with
  | zero => intro i R rd nw h1 h2; omega
  | succ n ih =>
    intro i R rd nw h1 h2 hW
    have hb := hW.2.2.2.2.2.2.2.2.1
    have hR := hW.2.2.2.1
    unfold fX4_hour_L25 fX5_hour_L20
    rw [pu_flows, hb, Option.bind_some]
    by_cases hi : i = F
    · subst hi
      rw [if_pos (nI_le (Nat.le_refl _) (by omega))]
      rw [if_pos (nI_le (Nat.le_refl _) (by omega))]
      exact ⟨R, rd, nw, rfl, rfl, hW⟩
    · have hlt : i < F := by omega
      have hi10 : i < 10 := by omega
      rw [if_neg (nI_ge hlt (by omega)), if_neg (nI_ge hlt (by omega))]
      obtain ⟨a0, a1, a2, a3, a4, a5, a6, a7, a8, a9, a10, a11, a12, a13, a14, a15, a16⟩ := hW.2.2.2.2.2.2.2.2.2 i hlt
      have b6 : nw (2 + 24 * i + 6) = kd i := a11
      have b7 : nw (2 + 24 * i + 7) = ln i := a13
      rw [pu_hasNumber hi10 hh, Option.bind_some, pu_get (f := i) (x := 6) 6 rfl (by omega), Option.bind_some, b6, pu_get (f := i) (x := 7) 7 rfl (by omega), Option.bind_some, b7, show (8 : Int32) + nI h = nI (8 + h) from nI_add 8 h, pu_get (f := i) (x := nI (8 + h)) (8 + h) rfl (by omega), Option.bind_some]
      have hlnI : nI h < ln i ↔ (h : Int) < (ln i).toInt := by rw [Int32.lt_iff_toInt_lt, nI_toInt (by omega)]
      -- not read
      have hno : ∃ (R' : Nat) (rd' nw' : Nat → Int32), fX4_hour_L25 N n (nI h) (nI (i + 1)) (nI F) (nI (clr R i)) (ya_up rd i 0) kd ln sh = some (nI R', rd') ∧ fX5_hour_L20 N n (nI h) (nI (bc i R)) (nI (i + 1)) (ya_up (ya_up nw (2 + 24 * i + 2) 0) (2 + 24 * i + 3) 0) = some (nI (bc F R'), nw') ∧ RelW K F R' kn fl (nI R') fr tt rd' ms pr kd ln sh nw' := by
        have e : bc (i + 1) (clr R i) = bc i R := by
          have e0 : bc i (clr R i) = bc i R := bc_congr i (fun f hf => by rw [clr_bit (by omega)]; simp [show ¬ f = i by omega])
          show bc i (clr R i) + (if (clr R i).testBit i then 1 else 0) = bc i R
          rw [e0, clr_bit (by omega)]
          simp
        rw [← e]
        refine ih (i + 1) (clr R i) _ _ (by omega) (by omega) ?_
        refine hW.upd hlt (Nat.lt_of_le_of_lt (clr_le R i) hR) (fun g hg0 hg => by rw [clr_bit (by omega)]; simp [hg]) (fun _ _ => rfl) (fun _ _ => rfl) (fun j hj => ya_up_ne hj) (fun _ _ => rfl) (fun _ _ => rfl) (fun _ _ => rfl) (fun _ _ => rfl) (fun _ _ => rfl) (fun j hj => by rw [ya_up_ne (by omega), ya_up_ne (by omega)]) ?_
        exact ⟨a0, by simpa [ya_up] using a1, by simpa [ya_up] using a2, by rw [clr_bit (by omega)]; simp [ya_up], by simp [ya_up], by simp [ya_up], by simp [ya_up], by simpa [ya_up] using a7, by simpa [ya_up] using a8, by simpa [ya_up] using a9, by simpa [ya_up] using a10, by simpa [ya_up] using a11, by simpa [ya_up] using a12, by simpa [ya_up] using a13, by simpa [ya_up] using a14, by simpa [ya_up] using a15, fun g hg hl => by have := a16 g hg hl; simpa [ya_up, show ∀ w, w < 8 → ¬ 8 + g = w from fun w hw => by omega] using this⟩
      have sno : (fX3_dropReading (nI R) rd (nI i)) = some (nI (clr R i), ya_up rd i 0) := pu_drop hi10
      have hle : nI h < ln i → ¬ ln i ≤ nI h := fun q => by
        rw [Int32.lt_iff_toInt_lt] at q
        rw [Int32.le_iff_toInt_le]
        omega
      by_cases hC : kd i ≠ -1 ∧ nI h < ln i ∧ ¬ (kd i = 3 ∧ sh (16 * i + h) = -128)
      · have hv := a16 h hh (hlnI.mp hC.2.1)
        have b8 : nw (2 + 24 * i + (8 + h)) = 10 * sh (16 * i + h) := by
          have := hv.2
          rw [if_neg hC.2.2] at this
          exact this
        have hm := pu_mul10 hv.1.1 hv.1.2
        have hv1 : -128 ≤ (sh (16 * i + h)).toInt ∧ (sh (16 * i + h)).toInt ≤ 127 := hv.1
        have hyes : ∃ (R' : Nat) (rd' nw' : Nat → Int32), fX4_hour_L25 N n (nI h) (nI (i + 1)) (nI F) (nI (R ||| 2 ^ i)) (ya_up rd i (10 * sh (16 * i + h))) kd ln sh = some (nI R', rd') ∧ fX5_hour_L20 N n (nI h) (nI (bc i R + 1)) (nI (i + 1)) (ya_up (ya_up nw (2 + 24 * i + 2) 1) (2 + 24 * i + 3) (10 * sh (16 * i + h))) = some (nI (bc F R'), nw') ∧ RelW K F R' kn fl (nI R') fr tt rd' ms pr kd ln sh nw' := by
          have e : bc (i + 1) (R ||| 2 ^ i) = bc i R + 1 := by
            have e0 : bc i (R ||| 2 ^ i) = bc i R := bc_congr i (fun f hf => by rw [set_bit]; simp [show ¬ f = i by omega])
            show bc i (R ||| 2 ^ i) + (if (R ||| 2 ^ i).testBit i then 1 else 0) = bc i R + 1
            rw [e0, set_bit]
            simp
          rw [← e]
          refine ih (i + 1) (R ||| 2 ^ i) _ _ (by omega) (by omega) ?_
          refine hW.upd hlt (set_lt hR hlt) (fun g hg0 hg => by rw [set_bit]; simp [hg]) (fun _ _ => rfl) (fun _ _ => rfl) (fun j hj => ya_up_ne hj) (fun _ _ => rfl) (fun _ _ => rfl) (fun _ _ => rfl) (fun _ _ => rfl) (fun _ _ => rfl) (fun j hj => by rw [ya_up_ne (by omega), ya_up_ne (by omega)]) ?_
          exact ⟨a0, by simpa [ya_up] using a1, by simpa [ya_up] using a2, by simp [ya_up, set_bit], by simp [ya_up], by simp [set_bit], by rw [ya_up_eq, hm]; omega, by simpa [ya_up] using a7, by simpa [ya_up] using a8, by simpa [ya_up] using a9, by simpa [ya_up] using a10, by simpa [ya_up] using a11, by simpa [ya_up] using a12, by simpa [ya_up] using a13, by simpa [ya_up] using a14, by simpa [ya_up] using a15, fun g hg hl => by have := a16 g hg hl; simpa [ya_up, show ∀ w, w < 8 → ¬ 8 + g = w from fun w hw => by omega] using this⟩
        obtain ⟨R', rd', nw', p1, p2, p3⟩ := hyes
        refine ⟨R', rd', nw', ?_, ?_, p3⟩
        · rw [if_pos hC, if_neg (show ¬ (1 : Int32) = 0 by decide), pu_numberAt hi10 hh, Option.bind_some, pu_setR hi10, Option.bind_some]
          show ya_lt (nI i + 1) _ = _
          rw [pu_lt, nI_1]
          exact p1
        · rw [if_neg hC.1, if_neg (hle hC.2.1), b8, if_neg (fun q => by
            have := congrArg Int32.toInt q
            rw [hm, show (-1000000 : Int32).toInt = -1000000 by decide] at this
            omega), pu_set (f := i) (x := 2) 2 rfl (by omega), Option.bind_some, pu_get (f := i) (x := nI (8 + h)) (8 + h) rfl (by omega), Option.bind_some, ya_up_ne (by omega), b8, pu_set (f := i) (x := 3) 3 rfl (by omega), Option.bind_some, pu_lt, pu_lt, nI_1, nI_1]
          exact p2
      · obtain ⟨R', rd', nw', p1, p2, p3⟩ := hno
        refine ⟨R', rd', nw', ?_, ?_, p3⟩
        · rw [if_neg hC, if_pos rfl, sno, Option.bind_some]
          show ya_lt (nI i + 1) _ = _
          rw [pu_lt, nI_1]
          exact p1
        · by_cases c1 : kd i = -1
          · rw [if_pos c1, pu_set (f := i) (x := 2) 2 rfl (by omega), Option.bind_some, pu_set (f := i) (x := 3) 3 rfl (by omega), Option.bind_some, pu_lt, Int32.add_zero, pu_lt, nI_1]
            exact p2
          · rw [if_neg c1]
            by_cases c2 : nI h < ln i
            · have c3 : kd i = 3 ∧ sh (16 * i + h) = -128 := Classical.byContradiction (fun q => hC ⟨c1, c2, q⟩)
              have b8 : nw (2 + 24 * i + (8 + h)) = -1000000 := by
                have := (a16 h hh (hlnI.mp c2)).2
                rw [if_pos c3] at this
                exact this
              rw [if_neg (hle c2), b8, if_pos rfl, pu_set (f := i) (x := 2) 2 rfl (by omega), Option.bind_some, pu_set (f := i) (x := 3) 3 rfl (by omega), Option.bind_some, pu_lt, Int32.add_zero, pu_lt, nI_1]
              exact p2
            · rw [if_pos (show ln i ≤ nI h by
                rw [Int32.lt_iff_toInt_lt] at c2
                rw [Int32.le_iff_toInt_le]
                omega), pu_set (f := i) (x := 2) 2 rfl (by omega), Option.bind_some, pu_set (f := i) (x := 3) 3 rfl (by omega), Option.bind_some, pu_lt, Int32.add_zero, pu_lt, nI_1]
              exact p2
set_option maxHeartbeats 2000000 in
theorem ps_hour {N : Nat} (hN : 5000 ≤ N) : ob_hour N yInv := by
  intro kn fl rs fr tt rd ms pr kd ln sh nx ct kK fK rK frK ttK rdK msK prK kdK lnK shK s_x_groups_least s_x_fit_unread s_x_fit_below s_x_fit_heaps_least s_x_fit_pieces_least s_x_fit_sides_least s_x_fit_rows s_x_fit_surplus s_x_away s_x_testAbove s_x_testBelow mn s_m_below s_m_above1 s_m_below1 nw bf s_m_heapOf s_m_partOf s_m_place s_m_matrix s_m_right s_m_force s_m_work s_m_side s_m_far s_m_fallAbove s_m_fallBelow s_m_ranks s_m_was hI x1
  obtain ⟨⟨K, F, R, hW⟩, hP⟩ := id hI
  have hF := hW.2.2.1
  have hfl : fl = nI F := hW.2.2.2.2.2.1
  have hrs : rs = nI R := hW.2.2.2.2.2.2.1
  subst hfl
  subst hrs
  rcases pk_ix x1 (n := 16) (by decide) with h | h | ⟨w, hw, rfl⟩
  · refine ⟨-1, nI R, rd, nx, ct, kK, fK, rK, frK, ttK, rdK, msK, prK, kdK, lnK, shK, mn, nw, bf, ?_, ?_, hI⟩
    · unfold fX4_hour
      rw [if_pos h]
    · unfold fX5_hour
      rw [pu_isIn, if_neg (fun q => by
        have q1 := q.1
        rw [Int32.le_iff_toInt_le] at q1
        rw [Int32.lt_iff_toInt_lt] at h
        omega), Option.bind_some, if_pos rfl]
  · refine ⟨-1, nI R, rd, nx, ct, kK, fK, rK, frK, ttK, rdK, msK, prK, kdK, lnK, shK, mn, nw, bf, ?_, ?_, hI⟩
    · unfold fX4_hour
      rw [if_neg (fun q => by
        rw [Int32.lt_iff_toInt_lt, Int32.toInt_zero] at q
        rw [Int32.le_iff_toInt_le, nI_toInt (by decide)] at h
        omega), if_neg (fun q => by
        rw [Int32.lt_iff_toInt_lt, show (16 : Int32).toInt = 16 by decide] at q
        rw [Int32.le_iff_toInt_le, nI_toInt (by decide)] at h
        omega)]
    · unfold fX5_hour
      rw [pu_isIn, if_neg (fun q => by
        have q2 := q.2
        rw [Int32.le_iff_toInt_le, show (15 : Int32).toInt = 15 by decide] at q2
        rw [Int32.le_iff_toInt_le, nI_toInt (by decide)] at h
        omega), Option.bind_some, if_pos rfl]
  · obtain ⟨zn, zc, z3, z4, z5, z6, z7, z8, z9, z10, z11, z12, z13, y1, y2, e1, e2, hP2⟩ := pu_keepP hN hP hW
    obtain ⟨R', rd', nw', p1, p2, p3⟩ := pu_hour (N := N) hF hw N 0 R rd nw (Nat.zero_le F) (by omega) hW
    refine ⟨nI (bc F R'), nI R', rd', zn, zc, z3, z4, z5, z6, z7, z8, z9, z10, z11, z12, z13, y1, nw', y2, ?_, ?_, ⟨K, F, R', p3⟩, hP2⟩
    · unfold fX4_hour
      rw [if_neg (nI_pos (by omega)), if_pos (show nI w < (16 : Int32) from nI_lt (b := 16) hw (by decide)), e1, Option.bind_some]
      show ((fX4_hour_L25 N N (nI w) (nI 0) (nI F) (nI R) rd kd ln sh).bind _) = _
      rw [p1, Option.bind_some]
      show ((fJ6_bitCount_0f7a4 (nI R')).bind _) = _
      rw [pu_bcF p3.2.2.2.1 hF, Option.bind_some]
    · unfold fX5_hour
      rw [pu_isIn, if_pos (show (0 : Int32) ≤ nI w ∧ nI w ≤ 15 from ⟨nI_pos' (by omega), nI_le (b := 15) (by omega) (by decide)⟩), Option.bind_some, if_neg (show ¬ (1 : Int32) = 0 by decide), e2, Option.bind_some]
      show ((fX5_hour_L20 N N (nI w) (nI (bc 0 R)) (nI 0) nw).bind _) = _
      rw [p2, Option.bind_some]
