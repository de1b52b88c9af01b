set_option maxRecDepth 20000 in
theorem ggX5_changeOf_X5_get : GoodIn wsX5_changeOf wsX5_get := goodIn_r _ [7, 8, 9, 10, 11, 12, 13, 14, 15, 16, 17, 18, 19, 20, 21, 22, 23, 24, 25, 26, 27] rfl (by decide +kernel)
set_option maxRecDepth 20000 in
theorem gX5_changeOf_X5_get : GoodIn wsX5_changeOf (wsV RX5 86 RX5 yX5_get wsX5_get) := goodIn_app (goodIn_of _ (by decide +kernel)) ggX5_changeOf_X5_get
theorem dX5_changeOf_0 : decode cX5_changeOf 0 = .ok (.aload_n 0, 1) := by decide +kernel
theorem dX5_changeOf_1 : decode cX5_changeOf 1 = .ok (.iload_n 1, 1) := by decide +kernel
theorem dX5_changeOf_2 : decode cX5_changeOf 2 = .ok (.iconst 4, 1) := by decide +kernel
theorem dX5_changeOf_3 : decode cX5_changeOf 3 = .ok (.invokevirtual 86, 3) := by decide +kernel
theorem dX5_changeOf_6 : decode cX5_changeOf 6 = .ok (.i2l, 1) := by decide +kernel
theorem dX5_changeOf_7 : decode cX5_changeOf 7 = .ok (.aload_n 0, 1) := by decide +kernel
theorem dX5_changeOf_8 : decode cX5_changeOf 8 = .ok (.getfield 32, 3) := by decide +kernel
theorem dX5_changeOf_11 : decode cX5_changeOf 11 = .ok (.aload_n 0, 1) := by decide +kernel
theorem dX5_changeOf_12 : decode cX5_changeOf 12 = .ok (.getfield 16, 3) := by decide +kernel
theorem dX5_changeOf_15 : decode cX5_changeOf 15 = .ok (.aload_n 0, 1) := by decide +kernel
theorem dX5_changeOf_16 : decode cX5_changeOf 16 = .ok (.iload_n 1, 1) := by decide +kernel
theorem dX5_changeOf_17 : decode cX5_changeOf 17 = .ok (.iconst 1, 1) := by decide +kernel
theorem dX5_changeOf_18 : decode cX5_changeOf 18 = .ok (.invokevirtual 86, 3) := by decide +kernel
theorem dX5_changeOf_21 : decode cX5_changeOf 21 = .ok (.iaload, 1) := by decide +kernel
theorem dX5_changeOf_22 : decode cX5_changeOf 22 = .ok (.laload, 1) := by decide +kernel
theorem dX5_changeOf_23 : decode cX5_changeOf 23 = .ok (.aload_n 0, 1) := by decide +kernel
theorem dX5_changeOf_24 : decode cX5_changeOf 24 = .ok (.getfield 32, 3) := by decide +kernel
theorem dX5_changeOf_27 : decode cX5_changeOf 27 = .ok (.aload_n 0, 1) := by decide +kernel
theorem dX5_changeOf_28 : decode cX5_changeOf 28 = .ok (.getfield 16, 3) := by decide +kernel
theorem dX5_changeOf_31 : decode cX5_changeOf 31 = .ok (.aload_n 0, 1) := by decide +kernel
theorem dX5_changeOf_32 : decode cX5_changeOf 32 = .ok (.iload_n 1, 1) := by decide +kernel
theorem dX5_changeOf_33 : decode cX5_changeOf 33 = .ok (.iconst 0, 1) := by decide +kernel
theorem dX5_changeOf_34 : decode cX5_changeOf 34 = .ok (.invokevirtual 86, 3) := by decide +kernel
theorem dX5_changeOf_37 : decode cX5_changeOf 37 = .ok (.iaload, 1) := by decide +kernel
theorem dX5_changeOf_38 : decode cX5_changeOf 38 = .ok (.laload, 1) := by decide +kernel
theorem dX5_changeOf_39 : decode cX5_changeOf 39 = .ok (.lsub, 1) := by decide +kernel
theorem dX5_changeOf_40 : decode cX5_changeOf 40 = .ok (.lmul, 1) := by decide +kernel
theorem dX5_changeOf_41 : decode cX5_changeOf 41 = .ok (.lreturn, 1) := by decide +kernel
/-! ===== FlowMetersModel.changeOf(I)J ===== -/
def fX5_changeOf (c_t_now : Nat → Int32) (c_t_heapOf : Nat → Int32) (c_t_force : Nat → Int64) (x1 : Int32) : Option (Int64) :=
  (fX5_get c_t_now x1 4).bind fun v1 =>
  (fX5_get c_t_now x1 1).bind fun v3 =>
  (ya_rd c_t_heapOf 6 v3).bind fun v5 =>
  (ya_rd c_t_force 6 v5).bind fun v7 =>
  (fX5_get c_t_now x1 0).bind fun v9 =>
  (ya_rd c_t_heapOf 6 v9).bind fun v11 =>
  (ya_rd c_t_force 6 v11).bind fun v13 =>
  some ((Int32.toInt64 v1) * (v7 - v13))
theorem fX5_changeOf_32 : yF wsX5_changeOf RX5 32 5 8 RX5 TX5 19 := ⟨rfl, by decide, by decide +kernel, by decide +kernel⟩
theorem fX5_changeOf_16 : yF wsX5_changeOf RX5 16 5 3 RX5 TX5 19 := ⟨rfl, by decide, by decide +kernel, by decide +kernel⟩
abbrev rmX5_changeOf : Room := { frames := 1, cells := 0, slots := 0, locals := 22 }
theorem eX5_changeOf : yY yX5_changeOf wsX5_changeOf cX5_changeOf 2 (some .long) rmX5_changeOf 1 := ⟨⟨_, rfl⟩, rfl, rfl, by decide, by decide, by decide +kernel⟩
set_option maxHeartbeats 4000000 in
set_option maxRecDepth 100000 in
theorem mX5_changeOf {l : Launch} {D : va_G} {sz : Nat} {cI cJ cZ cW cR : ClassId} {h_t : Nat} {A_t : Nat → Nat} {c_t_many : Int32} {c_t_below : Int64} {c_t_above1 : Int64} {c_t_below1 : Int64} {c_t_now : Nat → Int32} {c_t_heapOf : Nat → Int32} {c_t_force : Nat → Int64} {x1 : Int32} {r : Int64} (hf : fX5_changeOf c_t_now c_t_heapOf c_t_force x1 = some r) : Met l yX5_changeOf wsX5_changeOf rmX5_changeOf (yP D (yT cI cJ cZ cW cR) [(h_t, oR A_t c_t_many c_t_below c_t_above1 c_t_below1), (A_t 0, eI cI 242 c_t_now), (A_t 2, eI cI 6 c_t_heapOf), (A_t 7, eJ cJ 6 c_t_force)] sz [.ref h_t, .int x1]) (yQl D (yT cI cJ cZ cW cR) r [(h_t, oR A_t c_t_many c_t_below c_t_above1 c_t_below1), (A_t 0, eI cI 242 c_t_now), (A_t 2, eI cI 6 c_t_heapOf), (A_t 7, eJ cJ 6 c_t_force)] (va_A [(h_t, oR A_t c_t_many c_t_below c_t_above1 c_t_below1), (A_t 0, eI cI 242 c_t_now), (A_t 2, eI cI 6 c_t_heapOf), (A_t 7, eJ cJ 6 c_t_force)] sz)) 0 0 (va_A [(h_t, oR A_t c_t_many c_t_below c_t_above1 c_t_below1), (A_t 0, eI cI 242 c_t_now), (A_t 2, eI cI 6 c_t_heapOf), (A_t 7, eJ cJ 6 c_t_force)] sz) := by
  refine yM (cc := cX5_changeOf) (maxL := 2) (ret := (some .long)) RX5 (by decide) rfl rfl (Nat.le_of_ble_eq_true rfl) ?_
  intro p e s m below meth c Γ hr
  show yG p l e (headSpec wsX5_changeOf rmX5_changeOf).room s m (List.toArray [.ref h_t, .int x1]) below meth c D (va_A [(h_t, oR A_t c_t_many c_t_below c_t_above1 c_t_below1), (A_t 0, eI cI 242 c_t_now), (A_t 2, eI cI 6 c_t_heapOf), (A_t 7, eJ cJ 6 c_t_force)] sz) 2 0 0 (MQ below (yQl D (yT cI cJ cZ cW cR) r [(h_t, oR A_t c_t_many c_t_below c_t_above1 c_t_below1), (A_t 0, eI cI 242 c_t_now), (A_t 2, eI cI 6 c_t_heapOf), (A_t 7, eJ cJ 6 c_t_force)] (va_A [(h_t, oR A_t c_t_many c_t_below c_t_above1 c_t_below1), (A_t 0, eI cI 242 c_t_now), (A_t 2, eI cI 6 c_t_heapOf), (A_t 7, eJ cJ 6 c_t_force)] sz)) (List.toArray [.ref h_t, .int x1]) s 0 0 (va_A [(h_t, oR A_t c_t_many c_t_below c_t_above1 c_t_below1), (A_t 0, eI cI 242 c_t_now), (A_t 2, eI cI 6 c_t_heapOf), (A_t 7, eJ cJ 6 c_t_force)] sz)) 0 [(0, .ref h_t), (1, .int x1)] [] [(h_t, oR A_t c_t_many c_t_below c_t_above1 c_t_below1), (A_t 0, eI cI 242 c_t_now), (A_t 2, eI cI 6 c_t_heapOf), (A_t 7, eJ cJ 6 c_t_force)]
  unfold fX5_changeOf at hf
  refine g_aload_n Γ 0 dX5_changeOf_0 rfl ?_
  refine g_iload_n Γ 1 dX5_changeOf_1 rfl ?_
  refine g_iconst (v := 4) Γ dX5_changeOf_2 (by decide) ?_
  obtain ⟨v1, e2, hf⟩ := ya_ob hf
  refine g_vi (q := (RX5, TX5, 19)) (wr := [(A_t 2, eI cI 6 c_t_heapOf), (A_t 7, eJ cJ 6 c_t_force)]) (ws' := [(A_t 2, eI cI 6 c_t_heapOf), (A_t 7, eJ cJ 6 c_t_force), (h_t, oR A_t c_t_many c_t_below c_t_above1 c_t_below1), (A_t 0, eI cI 242 c_t_now)]) Γ (fun sz => mX5_get (l := l) (D := D) (sz := sz) (cI := cI) (cJ := cJ) (cZ := cZ) (cW := cW) (cR := cR) (h_t := h_t) (A_t := A_t) (hf := e2)) eX5_get gX5_changeOf_X5_get rfl rfl 0 rfl rfl rfl (Nat.le_of_ble_eq_true rfl) ⟨Nat.le_of_ble_eq_true rfl, Nat.le_of_ble_eq_true rfl⟩ dX5_changeOf_3 [0, 1] [2, 3] rfl rfl rfl rfl (by decide) rfl ?_
  refine g_i2l Γ dX5_changeOf_6 ?_
  refine g_aload_n Γ 0 dX5_changeOf_7 rfl ?_
  refine g_get Γ fX5_changeOf_32 2 rfl rfl dX5_changeOf_8 ?_
  refine g_aload_n Γ 0 dX5_changeOf_11 rfl ?_
  refine g_get Γ fX5_changeOf_16 2 rfl rfl dX5_changeOf_12 ?_
  refine g_aload_n Γ 0 dX5_changeOf_15 rfl ?_
  refine g_iload_n Γ 1 dX5_changeOf_16 rfl ?_
  refine g_iconst (v := 1) Γ dX5_changeOf_17 (by decide) ?_
  obtain ⟨v3, e4, hf⟩ := ya_ob hf
  refine g_vi (q := (RX5, TX5, 19)) (wr := [(A_t 2, eI cI 6 c_t_heapOf), (A_t 7, eJ cJ 6 c_t_force)]) (ws' := [(A_t 2, eI cI 6 c_t_heapOf), (A_t 7, eJ cJ 6 c_t_force), (h_t, oR A_t c_t_many c_t_below c_t_above1 c_t_below1), (A_t 0, eI cI 242 c_t_now)]) Γ (fun sz => mX5_get (l := l) (D := D) (sz := sz) (cI := cI) (cJ := cJ) (cZ := cZ) (cW := cW) (cR := cR) (h_t := h_t) (A_t := A_t) (hf := e4)) eX5_get gX5_changeOf_X5_get rfl rfl 0 rfl rfl rfl (Nat.le_of_ble_eq_true rfl) ⟨Nat.le_of_ble_eq_true rfl, Nat.le_of_ble_eq_true rfl⟩ dX5_changeOf_18 [2, 3] [0, 1] rfl rfl rfl rfl (by decide) rfl ?_
  obtain ⟨v5, e6, hf⟩ := ya_ob hf
  refine g_iald Γ e6 0 0 rfl rfl dX5_changeOf_21 ?_
  obtain ⟨v7, e8, hf⟩ := ya_ob hf
  refine g_lald Γ e8 1 1 rfl rfl dX5_changeOf_22 ?_
  refine g_aload_n Γ 0 dX5_changeOf_23 rfl ?_
  refine g_get Γ fX5_changeOf_32 2 rfl rfl dX5_changeOf_24 ?_
  refine g_aload_n Γ 0 dX5_changeOf_27 rfl ?_
  refine g_get Γ fX5_changeOf_16 2 rfl rfl dX5_changeOf_28 ?_
  refine g_aload_n Γ 0 dX5_changeOf_31 rfl ?_
  refine g_iload_n Γ 1 dX5_changeOf_32 rfl ?_
  refine g_iconst (v := 0) Γ dX5_changeOf_33 (by decide) ?_
  obtain ⟨v9, e10, hf⟩ := ya_ob hf
  refine g_vi (q := (RX5, TX5, 19)) (wr := [(A_t 2, eI cI 6 c_t_heapOf), (A_t 7, eJ cJ 6 c_t_force)]) (ws' := [(A_t 2, eI cI 6 c_t_heapOf), (A_t 7, eJ cJ 6 c_t_force), (h_t, oR A_t c_t_many c_t_below c_t_above1 c_t_below1), (A_t 0, eI cI 242 c_t_now)]) Γ (fun sz => mX5_get (l := l) (D := D) (sz := sz) (cI := cI) (cJ := cJ) (cZ := cZ) (cW := cW) (cR := cR) (h_t := h_t) (A_t := A_t) (hf := e10)) eX5_get gX5_changeOf_X5_get rfl rfl 0 rfl rfl rfl (Nat.le_of_ble_eq_true rfl) ⟨Nat.le_of_ble_eq_true rfl, Nat.le_of_ble_eq_true rfl⟩ dX5_changeOf_34 [2, 3] [0, 1] rfl rfl rfl rfl (by decide) rfl ?_
  obtain ⟨v11, e12, hf⟩ := ya_ob hf
  refine g_iald Γ e12 0 0 rfl rfl dX5_changeOf_37 ?_
  obtain ⟨v13, e14, hf⟩ := ya_ob hf
  refine g_lald Γ e14 1 1 rfl rfl dX5_changeOf_38 ?_
  refine g_lsub Γ dX5_changeOf_39 ?_
  refine g_lmul Γ dX5_changeOf_40 ?_
  cases hf
  exact g_lret Γ hr dX5_changeOf_41 [2, 3, 0, 1] rfl rfl

set_option maxRecDepth 20000 in
theorem ggX5_change_X5_isFlow : GoodIn wsX5_change wsX5_isFlow := goodIn_r _ [7, 8, 9, 10, 6, 11, 12, 13, 14, 15, 64, 65, 66, 67, 68, 69, 70, 71, 72, 73, 74, 75, 76, 77, 78, 79, 80, 81, 82] rfl (by decide +kernel)
set_option maxRecDepth 20000 in
theorem gX5_change_X5_isFlow : GoodIn wsX5_change (wsV RX5 83 RX5 yX5_isFlow wsX5_isFlow) := goodIn_app (goodIn_of _ (by decide +kernel)) ggX5_change_X5_isFlow
set_option maxRecDepth 20000 in
theorem ggX5_change_X5_isRead : GoodIn wsX5_change wsX5_isRead := goodIn_r _ [19, 20, 21, 22, 6, 23, 12, 64, 65, 66, 67, 68, 69, 70, 71, 72, 73, 74, 75, 76, 77, 78, 79, 80, 81, 82] rfl (by decide +kernel)
set_option maxRecDepth 20000 in
theorem gX5_change_X5_isRead : GoodIn wsX5_change (wsV RX5 91 RX5 yX5_isRead wsX5_isRead) := goodIn_app (goodIn_of _ (by decide +kernel)) ggX5_change_X5_isRead
set_option maxRecDepth 20000 in
theorem ggX5_change_X5_isWhat : GoodIn wsX5_change wsX5_isWhat := goodIn_r _ [26] rfl (by decide +kernel)
set_option maxRecDepth 20000 in
theorem gX5_change_X5_isWhat : GoodIn wsX5_change (va_wsS RX5 114 yX5_isWhat wsX5_isWhat) := goodIn_app (goodIn_of _ (by decide +kernel)) ggX5_change_X5_isWhat
set_option maxRecDepth 20000 in
theorem ggX5_change_X5_solves : GoodIn wsX5_change wsX5_solves := goodIn_r _ [30, 31, 32, 33, 34, 35, 36, 2, 37, 38, 39, 40, 6, 41, 8, 9, 10, 11, 12, 16, 17, 18, 19, 20, 21, 22, 23, 42, 43, 44, 45, 46, 47, 48, 49, 50, 51, 52, 53, 64, 65, 66, 67, 68, 69, 70, 71, 72, 73, 74, 75, 76, 77, 78, 79, 80, 81, 82] rfl (by decide +kernel)
set_option maxRecDepth 20000 in
theorem gX5_change_X5_solves : GoodIn wsX5_change (wsV RX5 117 RX5 yX5_solves wsX5_solves) := goodIn_app (goodIn_of _ (by decide +kernel)) ggX5_change_X5_solves
set_option maxRecDepth 20000 in
theorem ggX5_change_X5_changeOf : GoodIn wsX5_change wsX5_changeOf := goodIn_r _ [57, 37, 32, 20, 21, 22, 6, 23, 12, 64, 65, 66, 67, 68, 69, 70, 71, 72, 73, 74, 75, 76, 77, 78, 79, 80, 81, 82] rfl (by decide +kernel)
set_option maxRecDepth 20000 in
theorem gX5_change_X5_changeOf : GoodIn wsX5_change (wsV RX5 120 RX5 yX5_changeOf wsX5_changeOf) := goodIn_app (goodIn_of _ (by decide +kernel)) ggX5_change_X5_changeOf
set_option maxRecDepth 20000 in
theorem ggX5_change_X5_told : GoodIn wsX5_change wsX5_told := goodIn_r _ [60, 1, 61, 62, 6, 63] rfl (by decide +kernel)
set_option maxRecDepth 20000 in
theorem gX5_change_X5_told : GoodIn wsX5_change (va_wsS RX5 124 yX5_told wsX5_told) := goodIn_app (goodIn_of _ (by decide +kernel)) ggX5_change_X5_told
theorem dX5_change_0 : decode cX5_change 0 = .ok (.aload_n 0, 1) := by decide +kernel
theorem dX5_change_1 : decode cX5_change 1 = .ok (.iload_n 1, 1) := by decide +kernel
theorem dX5_change_2 : decode cX5_change 2 = .ok (.invokevirtual 83, 3) := by decide +kernel
theorem dX5_change_5 : decode cX5_change 5 = .ok (.ifCond .eq 18, 3) := by decide +kernel
theorem dX5_change_8 : decode cX5_change 8 = .ok (.aload_n 0, 1) := by decide +kernel
theorem dX5_change_9 : decode cX5_change 9 = .ok (.iload_n 1, 1) := by decide +kernel
theorem dX5_change_10 : decode cX5_change 10 = .ok (.invokevirtual 91, 3) := by decide +kernel
theorem dX5_change_13 : decode cX5_change 13 = .ok (.ifCond .eq 10, 3) := by decide +kernel
theorem dX5_change_16 : decode cX5_change 16 = .ok (.iload_n 2, 1) := by decide +kernel
theorem dX5_change_17 : decode cX5_change 17 = .ok (.invokestatic 114, 3) := by decide +kernel
theorem dX5_change_20 : decode cX5_change 20 = .ok (.ifCond .ne 7, 3) := by decide +kernel
theorem dX5_change_23 : decode cX5_change 23 = .ok (.ldc2_w 112, 3) := by decide +kernel
theorem dX5_change_26 : decode cX5_change 26 = .ok (.lreturn, 1) := by decide +kernel
theorem dX5_change_27 : decode cX5_change 27 = .ok (.aload_n 0, 1) := by decide +kernel
theorem dX5_change_28 : decode cX5_change 28 = .ok (.invokevirtual 117, 3) := by decide +kernel
theorem dX5_change_31 : decode cX5_change 31 = .ok (.aload_n 0, 1) := by decide +kernel
theorem dX5_change_32 : decode cX5_change 32 = .ok (.iload_n 1, 1) := by decide +kernel
theorem dX5_change_33 : decode cX5_change 33 = .ok (.invokevirtual 120, 3) := by decide +kernel
theorem dX5_change_36 : decode cX5_change 36 = .ok (.aload_n 0, 1) := by decide +kernel
theorem dX5_change_37 : decode cX5_change 37 = .ok (.getfield 104, 3) := by decide +kernel
theorem dX5_change_40 : decode cX5_change 40 = .ok (.iload_n 2, 1) := by decide +kernel
theorem dX5_change_41 : decode cX5_change 41 = .ok (.invokestatic 124, 3) := by decide +kernel
theorem dX5_change_44 : decode cX5_change 44 = .ok (.lreturn, 1) := by decide +kernel
/-! ===== FlowMetersModel.change(II)J ===== -/
def fX5_change (N : Nat) (c_t_below : Int64) (c_t_now : Nat → Int32) (c_t_heapOf : Nat → Int32) (c_t_partOf : Nat → Int32) (c_t_place : Nat → Int32) (c_t_matrix : Nat → Int64) (c_t_right : Nat → Int64) (c_t_force : Nat → Int64) (c_t_work : Nat → Int64) (x1 : Int32) (x2 : Int32) : Option (Int64 × Int64 × (Nat → Int32) × (Nat → Int32) × (Nat → Int32) × (Nat → Int64) × (Nat → Int64) × (Nat → Int64) × (Nat → Int64)) :=
  (fX5_isFlow c_t_now x1).bind fun v1 =>
  (if v1 = 0 then
    some ((-1), c_t_below, c_t_heapOf, c_t_partOf, c_t_place, c_t_matrix, c_t_right, c_t_force, c_t_work)
  else
    (fX5_isRead c_t_now x1).bind fun v4 =>
    (if v4 = 0 then
      some ((-1), c_t_below, c_t_heapOf, c_t_partOf, c_t_place, c_t_matrix, c_t_right, c_t_force, c_t_work)
    else
      (fX5_isWhat x2).bind fun v7 =>
      (if v7 = 0 then
        some ((-1), c_t_below, c_t_heapOf, c_t_partOf, c_t_place, c_t_matrix, c_t_right, c_t_force, c_t_work)
      else
        (fX5_solves N c_t_below c_t_now c_t_heapOf c_t_partOf c_t_place c_t_matrix c_t_right c_t_force c_t_work).bind fun (v10, v11, v12, v13, v14, v15, v16, v17) =>
        (fX5_changeOf c_t_now v11 v16 x1).bind fun v19 =>
        (fX5_told N v19 v10 x2).bind fun v21 =>
        some (v21, v10, v11, v12, v13, v14, v15, v16, v17))))
theorem fX5_change_104 : yF wsX5_change RX5 104 5 10 RX5 TX5 19 := ⟨rfl, by decide, by decide +kernel, by decide +kernel⟩
abbrev rmX5_change : Room := { frames := 9, cells := 0, slots := 0, locals := 336 }
theorem eX5_change : yY yX5_change wsX5_change cX5_change 3 (some .long) rmX5_change 2 := ⟨⟨_, rfl⟩, rfl, rfl, by decide, by decide, by decide +kernel⟩
set_option maxHeartbeats 4000000 in
set_option maxRecDepth 100000 in
theorem mX5_change {l : Launch} {D : va_G} {sz : Nat} {cI cJ cZ cW cR : ClassId} {N : Nat} {h_t : Nat} {A_t : Nat → Nat} {c_t_many : Int32} {c_t_below : Int64} {c_t_above1 : Int64} {c_t_below1 : Int64} {c_t_now : Nat → Int32} {c_t_heapOf : Nat → Int32} {c_t_partOf : Nat → Int32} {c_t_place : Nat → Int32} {c_t_matrix : Nat → Int64} {c_t_right : Nat → Int64} {c_t_force : Nat → Int64} {c_t_work : Nat → Int64} {x1 : Int32} {x2 : Int32} {r : Int64} {zc_t_below : Int64} {zc_t_heapOf : Nat → Int32} {zc_t_partOf : Nat → Int32} {zc_t_place : Nat → Int32} {zc_t_matrix : Nat → Int64} {zc_t_right : Nat → Int64} {zc_t_force : Nat → Int64} {zc_t_work : Nat → Int64} (hf : fX5_change N c_t_below c_t_now c_t_heapOf c_t_partOf c_t_place c_t_matrix c_t_right c_t_force c_t_work x1 x2 = some (r, zc_t_below, zc_t_heapOf, zc_t_partOf, zc_t_place, zc_t_matrix, zc_t_right, zc_t_force, zc_t_work)) : Met l yX5_change wsX5_change rmX5_change (yP D (yT cI cJ cZ cW cR) [(h_t, oR A_t c_t_many c_t_below c_t_above1 c_t_below1), (A_t 0, eI cI 242 c_t_now), (A_t 2, eI cI 6 c_t_heapOf), (A_t 3, eI cI 6 c_t_partOf), (A_t 4, eI cI 6 c_t_place), (A_t 5, eJ cJ 36 c_t_matrix), (A_t 6, eJ cJ 6 c_t_right), (A_t 7, eJ cJ 6 c_t_force), (A_t 8, eJ cJ 216 c_t_work)] sz [.ref h_t, .int x1, .int x2]) (yQl D (yT cI cJ cZ cW cR) r [(h_t, oR A_t c_t_many zc_t_below c_t_above1 c_t_below1), (A_t 0, eI cI 242 c_t_now), (A_t 2, eI cI 6 zc_t_heapOf), (A_t 3, eI cI 6 zc_t_partOf), (A_t 4, eI cI 6 zc_t_place), (A_t 5, eJ cJ 36 zc_t_matrix), (A_t 6, eJ cJ 6 zc_t_right), (A_t 7, eJ cJ 6 zc_t_force), (A_t 8, eJ cJ 216 zc_t_work)] (va_A [(h_t, oR A_t c_t_many c_t_below c_t_above1 c_t_below1), (A_t 0, eI cI 242 c_t_now), (A_t 2, eI cI 6 c_t_heapOf), (A_t 3, eI cI 6 c_t_partOf), (A_t 4, eI cI 6 c_t_place), (A_t 5, eJ cJ 36 c_t_matrix), (A_t 6, eJ cJ 6 c_t_right), (A_t 7, eJ cJ 6 c_t_force), (A_t 8, eJ cJ 216 c_t_work)] sz)) 0 0 (va_A [(h_t, oR A_t c_t_many c_t_below c_t_above1 c_t_below1), (A_t 0, eI cI 242 c_t_now), (A_t 2, eI cI 6 c_t_heapOf), (A_t 3, eI cI 6 c_t_partOf), (A_t 4, eI cI 6 c_t_place), (A_t 5, eJ cJ 36 c_t_matrix), (A_t 6, eJ cJ 6 c_t_right), (A_t 7, eJ cJ 6 c_t_force), (A_t 8, eJ cJ 216 c_t_work)] sz) := by
  refine yM (cc := cX5_change) (maxL := 3) (ret := (some .long)) RX5 (by decide) rfl rfl (Nat.le_of_ble_eq_true rfl) ?_
  intro p e s m below meth c Γ hr
  show yG p l e (headSpec wsX5_change rmX5_change).room s m (List.toArray [.ref h_t, .int x1, .int x2]) below meth c D (va_A [(h_t, oR A_t c_t_many c_t_below c_t_above1 c_t_below1), (A_t 0, eI cI 242 c_t_now), (A_t 2, eI cI 6 c_t_heapOf), (A_t 3, eI cI 6 c_t_partOf), (A_t 4, eI cI 6 c_t_place), (A_t 5, eJ cJ 36 c_t_matrix), (A_t 6, eJ cJ 6 c_t_right), (A_t 7, eJ cJ 6 c_t_force), (A_t 8, eJ cJ 216 c_t_work)] sz) 3 0 0 (MQ below (yQl D (yT cI cJ cZ cW cR) r [(h_t, oR A_t c_t_many zc_t_below c_t_above1 c_t_below1), (A_t 0, eI cI 242 c_t_now), (A_t 2, eI cI 6 zc_t_heapOf), (A_t 3, eI cI 6 zc_t_partOf), (A_t 4, eI cI 6 zc_t_place), (A_t 5, eJ cJ 36 zc_t_matrix), (A_t 6, eJ cJ 6 zc_t_right), (A_t 7, eJ cJ 6 zc_t_force), (A_t 8, eJ cJ 216 zc_t_work)] (va_A [(h_t, oR A_t c_t_many c_t_below c_t_above1 c_t_below1), (A_t 0, eI cI 242 c_t_now), (A_t 2, eI cI 6 c_t_heapOf), (A_t 3, eI cI 6 c_t_partOf), (A_t 4, eI cI 6 c_t_place), (A_t 5, eJ cJ 36 c_t_matrix), (A_t 6, eJ cJ 6 c_t_right), (A_t 7, eJ cJ 6 c_t_force), (A_t 8, eJ cJ 216 c_t_work)] sz)) (List.toArray [.ref h_t, .int x1, .int x2]) s 0 0 (va_A [(h_t, oR A_t c_t_many c_t_below c_t_above1 c_t_below1), (A_t 0, eI cI 242 c_t_now), (A_t 2, eI cI 6 c_t_heapOf), (A_t 3, eI cI 6 c_t_partOf), (A_t 4, eI cI 6 c_t_place), (A_t 5, eJ cJ 36 c_t_matrix), (A_t 6, eJ cJ 6 c_t_right), (A_t 7, eJ cJ 6 c_t_force), (A_t 8, eJ cJ 216 c_t_work)] sz)) 0 [(0, .ref h_t), (1, .int x1), (2, .int x2)] [] [(h_t, oR A_t c_t_many c_t_below c_t_above1 c_t_below1), (A_t 0, eI cI 242 c_t_now), (A_t 2, eI cI 6 c_t_heapOf), (A_t 3, eI cI 6 c_t_partOf), (A_t 4, eI cI 6 c_t_place), (A_t 5, eJ cJ 36 c_t_matrix), (A_t 6, eJ cJ 6 c_t_right), (A_t 7, eJ cJ 6 c_t_force), (A_t 8, eJ cJ 216 c_t_work)]
  unfold fX5_change at hf
  refine g_aload_n Γ 0 dX5_change_0 rfl ?_
  refine g_iload_n Γ 1 dX5_change_1 rfl ?_
  obtain ⟨v1, e2, hf⟩ := ya_ob hf
  refine g_vi (q := (RX5, TX5, 19)) (wr := [(A_t 2, eI cI 6 c_t_heapOf), (A_t 3, eI cI 6 c_t_partOf), (A_t 4, eI cI 6 c_t_place), (A_t 5, eJ cJ 36 c_t_matrix), (A_t 6, eJ cJ 6 c_t_right), (A_t 7, eJ cJ 6 c_t_force), (A_t 8, eJ cJ 216 c_t_work)]) (ws' := [(A_t 2, eI cI 6 c_t_heapOf), (A_t 3, eI cI 6 c_t_partOf), (A_t 4, eI cI 6 c_t_place), (A_t 5, eJ cJ 36 c_t_matrix), (A_t 6, eJ cJ 6 c_t_right), (A_t 7, eJ cJ 6 c_t_force), (A_t 8, eJ cJ 216 c_t_work), (h_t, oR A_t c_t_many c_t_below c_t_above1 c_t_below1), (A_t 0, eI cI 242 c_t_now)]) Γ (fun sz => mX5_isFlow (l := l) (D := D) (sz := sz) (cI := cI) (cJ := cJ) (cZ := cZ) (cW := cW) (cR := cR) (h_t := h_t) (A_t := A_t) (hf := e2)) eX5_isFlow gX5_change_X5_isFlow rfl rfl 0 rfl rfl rfl (Nat.le_of_ble_eq_true rfl) ⟨Nat.le_of_ble_eq_true rfl, Nat.le_of_ble_eq_true rfl⟩ dX5_change_2 [0, 1] [2, 3, 4, 5, 6, 7, 8] rfl rfl rfl rfl (by decide) rfl ?_
  refine g_if_eq Γ 23 dX5_change_5 (by decide) (fun c3 => ?_) (fun c3 => ?_)
  · have hf := ya_if1 c3 hf
    refine g_ldc2 (v := (-1)) Γ dX5_change_23 (by decide +kernel) ?_
    cases hf
    exact g_lret Γ hr dX5_change_26 [7, 8, 0, 1, 2, 3, 4, 5, 6] rfl rfl
  · have hf := ya_if2 c3 hf
    refine g_aload_n Γ 0 dX5_change_8 rfl ?_
    refine g_iload_n Γ 1 dX5_change_9 rfl ?_
    obtain ⟨v4, e5, hf⟩ := ya_ob hf
    refine g_vi (q := (RX5, TX5, 19)) (wr := [(A_t 2, eI cI 6 c_t_heapOf), (A_t 3, eI cI 6 c_t_partOf), (A_t 4, eI cI 6 c_t_place), (A_t 5, eJ cJ 36 c_t_matrix), (A_t 6, eJ cJ 6 c_t_right), (A_t 7, eJ cJ 6 c_t_force), (A_t 8, eJ cJ 216 c_t_work)]) (ws' := [(A_t 2, eI cI 6 c_t_heapOf), (A_t 3, eI cI 6 c_t_partOf), (A_t 4, eI cI 6 c_t_place), (A_t 5, eJ cJ 36 c_t_matrix), (A_t 6, eJ cJ 6 c_t_right), (A_t 7, eJ cJ 6 c_t_force), (A_t 8, eJ cJ 216 c_t_work), (h_t, oR A_t c_t_many c_t_below c_t_above1 c_t_below1), (A_t 0, eI cI 242 c_t_now)]) Γ (fun sz => mX5_isRead (l := l) (D := D) (sz := sz) (cI := cI) (cJ := cJ) (cZ := cZ) (cW := cW) (cR := cR) (h_t := h_t) (A_t := A_t) (hf := e5)) eX5_isRead gX5_change_X5_isRead rfl rfl 0 rfl rfl rfl (Nat.le_of_ble_eq_true rfl) ⟨Nat.le_of_ble_eq_true rfl, Nat.le_of_ble_eq_true rfl⟩ dX5_change_10 [7, 8] [0, 1, 2, 3, 4, 5, 6] rfl rfl rfl rfl (by decide) rfl ?_
    refine g_if_eq Γ 23 dX5_change_13 (by decide) (fun c6 => ?_) (fun c6 => ?_)
    · have hf := ya_if1 c6 hf
      refine g_ldc2 (v := (-1)) Γ dX5_change_23 (by decide +kernel) ?_
      cases hf
      exact g_lret Γ hr dX5_change_26 [7, 8, 0, 1, 2, 3, 4, 5, 6] rfl rfl
    · have hf := ya_if2 c6 hf
      refine g_iload_n Γ 2 dX5_change_16 rfl ?_
      obtain ⟨v7, e8, hf⟩ := ya_ob hf
      refine g_si (wr := [(A_t 2, eI cI 6 c_t_heapOf), (A_t 3, eI cI 6 c_t_partOf), (A_t 4, eI cI 6 c_t_place), (A_t 5, eJ cJ 36 c_t_matrix), (A_t 6, eJ cJ 6 c_t_right), (A_t 7, eJ cJ 6 c_t_force), (A_t 8, eJ cJ 216 c_t_work), (h_t, oR A_t c_t_many c_t_below c_t_above1 c_t_below1), (A_t 0, eI cI 242 c_t_now)]) (ws' := [(A_t 2, eI cI 6 c_t_heapOf), (A_t 3, eI cI 6 c_t_partOf), (A_t 4, eI cI 6 c_t_place), (A_t 5, eJ cJ 36 c_t_matrix), (A_t 6, eJ cJ 6 c_t_right), (A_t 7, eJ cJ 6 c_t_force), (A_t 8, eJ cJ 216 c_t_work), (h_t, oR A_t c_t_many c_t_below c_t_above1 c_t_below1), (A_t 0, eI cI 242 c_t_now)]) Γ (fun sz => mX5_isWhat (l := l) (D := D) (sz := sz) (cI := cI) (cJ := cJ) (cZ := cZ) (cW := cW) (cR := cR)  (hf := e8)) eX5_isWhat ggX5_change_X5_isWhat (by decide +kernel) (by decide +kernel) (by decide +kernel) rfl rfl (Nat.le_of_ble_eq_true rfl) ⟨Nat.le_of_ble_eq_true rfl, Nat.le_of_ble_eq_true rfl⟩ dX5_change_17 [] [0, 1, 2, 3, 4, 5, 6, 7, 8] rfl rfl rfl rfl (by decide) rfl ?_
      refine g_if_ne Γ 27 dX5_change_20 (by decide) (fun c9 => ?_) (fun c9 => ?_)
      · have hf := ya_if2 c9 hf
        refine g_aload_n Γ 0 dX5_change_27 rfl ?_
        obtain ⟨⟨v10, v11, v12, v13, v14, v15, v16, v17⟩, e18, hf⟩ := ya_ob hf
        refine g_vv (q := (RX5, TX5, 19)) (wr := []) (ws' := [(h_t, oR A_t c_t_many v10 c_t_above1 c_t_below1), (A_t 0, eI cI 242 c_t_now), (A_t 2, eI cI 6 v11), (A_t 3, eI cI 6 v12), (A_t 4, eI cI 6 v13), (A_t 5, eJ cJ 36 v14), (A_t 6, eJ cJ 6 v15), (A_t 7, eJ cJ 6 v16), (A_t 8, eJ cJ 216 v17)]) Γ (fun sz => mX5_solves (l := l) (D := D) (sz := sz) (cI := cI) (cJ := cJ) (cZ := cZ) (cW := cW) (cR := cR) (h_t := h_t) (A_t := A_t) (hf := e18)) eX5_solves gX5_change_X5_solves rfl rfl 0 rfl rfl rfl (Nat.le_of_ble_eq_true rfl) ⟨Nat.le_of_ble_eq_true rfl, Nat.le_of_ble_eq_true rfl⟩ dX5_change_28 [7, 8, 0, 1, 2, 3, 4, 5, 6] [] rfl rfl rfl rfl (by decide) rfl ?_
        refine g_aload_n Γ 0 dX5_change_31 rfl ?_
        refine g_iload_n Γ 1 dX5_change_32 rfl ?_
        obtain ⟨v19, e20, hf⟩ := ya_ob hf
        refine g_vl (q := (RX5, TX5, 19)) (wr := [(A_t 3, eI cI 6 v12), (A_t 4, eI cI 6 v13), (A_t 5, eJ cJ 36 v14), (A_t 6, eJ cJ 6 v15), (A_t 8, eJ cJ 216 v17)]) (ws' := [(A_t 3, eI cI 6 v12), (A_t 4, eI cI 6 v13), (A_t 5, eJ cJ 36 v14), (A_t 6, eJ cJ 6 v15), (A_t 8, eJ cJ 216 v17), (h_t, oR A_t c_t_many v10 c_t_above1 c_t_below1), (A_t 0, eI cI 242 c_t_now), (A_t 2, eI cI 6 v11), (A_t 7, eJ cJ 6 v16)]) Γ (fun sz => mX5_changeOf (l := l) (D := D) (sz := sz) (cI := cI) (cJ := cJ) (cZ := cZ) (cW := cW) (cR := cR) (h_t := h_t) (A_t := A_t) (hf := e20)) eX5_changeOf gX5_change_X5_changeOf rfl rfl 0 rfl rfl rfl (Nat.le_of_ble_eq_true rfl) ⟨Nat.le_of_ble_eq_true rfl, Nat.le_of_ble_eq_true rfl⟩ dX5_change_33 [0, 1, 2, 7] [3, 4, 5, 6, 8] rfl rfl rfl rfl (by decide) rfl ?_
        refine g_aload_n Γ 0 dX5_change_36 rfl ?_
        refine g_get Γ fX5_change_104 5 rfl rfl dX5_change_37 ?_
        refine g_iload_n Γ 2 dX5_change_40 rfl ?_
        obtain ⟨v21, e22, hf⟩ := ya_ob hf
        refine g_sl (wr := [(A_t 3, eI cI 6 v12), (A_t 4, eI cI 6 v13), (A_t 5, eJ cJ 36 v14), (A_t 6, eJ cJ 6 v15), (A_t 8, eJ cJ 216 v17), (h_t, oR A_t c_t_many v10 c_t_above1 c_t_below1), (A_t 0, eI cI 242 c_t_now), (A_t 2, eI cI 6 v11), (A_t 7, eJ cJ 6 v16)]) (ws' := [(A_t 3, eI cI 6 v12), (A_t 4, eI cI 6 v13), (A_t 5, eJ cJ 36 v14), (A_t 6, eJ cJ 6 v15), (A_t 8, eJ cJ 216 v17), (h_t, oR A_t c_t_many v10 c_t_above1 c_t_below1), (A_t 0, eI cI 242 c_t_now), (A_t 2, eI cI 6 v11), (A_t 7, eJ cJ 6 v16)]) Γ (fun sz => mX5_told (l := l) (D := D) (sz := sz) (cI := cI) (cJ := cJ) (cZ := cZ) (cW := cW) (cR := cR)  (hf := e22)) eX5_told ggX5_change_X5_told (by decide +kernel) (by decide +kernel) (by decide +kernel) rfl rfl (Nat.le_of_ble_eq_true rfl) ⟨Nat.le_of_ble_eq_true rfl, Nat.le_of_ble_eq_true rfl⟩ dX5_change_41 [] [0, 1, 2, 3, 4, 5, 6, 7, 8] rfl rfl rfl rfl (by decide) rfl ?_
        cases hf
        exact g_lret Γ hr dX5_change_44 [5, 6, 7, 0, 1, 2, 3, 8, 4] rfl rfl
      · have hf := ya_if1 c9 hf
        refine g_ldc2 (v := (-1)) Γ dX5_change_23 (by decide +kernel) ?_
        cases hf
        exact g_lret Γ hr dX5_change_26 [7, 8, 0, 1, 2, 3, 4, 5, 6] rfl rfl

set_option maxRecDepth 20000 in
theorem ggX5_force_X5_isKnot : GoodIn wsX5_force wsX5_isKnot := goodIn_r _ [9, 10, 11, 12, 8, 13, 14, 15, 16, 17, 60, 61, 62, 63, 64, 65, 66, 67, 68, 69, 70, 71, 72, 73, 74, 75, 76, 77, 78] rfl (by decide +kernel)
set_option maxRecDepth 20000 in
theorem gX5_force_X5_isKnot : GoodIn wsX5_force (wsV RX5 75 RX5 yX5_isKnot wsX5_isKnot) := goodIn_app (goodIn_of _ (by decide +kernel)) ggX5_force_X5_isKnot
set_option maxRecDepth 20000 in
theorem ggX5_force_X5_isWhat : GoodIn wsX5_force wsX5_isWhat := goodIn_r _ [20] rfl (by decide +kernel)
set_option maxRecDepth 20000 in
theorem gX5_force_X5_isWhat : GoodIn wsX5_force (va_wsS RX5 114 yX5_isWhat wsX5_isWhat) := goodIn_app (goodIn_of _ (by decide +kernel)) ggX5_force_X5_isWhat
set_option maxRecDepth 20000 in
theorem ggX5_force_X5_solves : GoodIn wsX5_force wsX5_solves := goodIn_r _ [24, 25, 3, 26, 27, 28, 29, 4, 2, 30, 31, 32, 8, 33, 34, 35, 36, 37, 14, 38, 39, 40, 41, 42, 43, 44, 45, 10, 11, 12, 13, 46, 47, 48, 49, 50, 51, 52, 53, 60, 61, 62, 63, 64, 65, 66, 67, 68, 69, 70, 71, 72, 73, 74, 75, 76, 77, 78] rfl (by decide +kernel)
set_option maxRecDepth 20000 in
theorem gX5_force_X5_solves : GoodIn wsX5_force (wsV RX5 117 RX5 yX5_solves wsX5_solves) := goodIn_app (goodIn_of _ (by decide +kernel)) ggX5_force_X5_solves
set_option maxRecDepth 20000 in
theorem ggX5_force_X5_told : GoodIn wsX5_force wsX5_told := goodIn_r _ [56, 1, 57, 58, 8, 59] rfl (by decide +kernel)
set_option maxRecDepth 20000 in
theorem gX5_force_X5_told : GoodIn wsX5_force (va_wsS RX5 124 yX5_told wsX5_told) := goodIn_app (goodIn_of _ (by decide +kernel)) ggX5_force_X5_told
theorem dX5_force_0 : decode cX5_force 0 = .ok (.aload_n 0, 1) := by decide +kernel
theorem dX5_force_1 : decode cX5_force 1 = .ok (.iload_n 1, 1) := by decide +kernel
theorem dX5_force_2 : decode cX5_force 2 = .ok (.invokevirtual 75, 3) := by decide +kernel
theorem dX5_force_5 : decode cX5_force 5 = .ok (.ifCond .eq 10, 3) := by decide +kernel
theorem dX5_force_8 : decode cX5_force 8 = .ok (.iload_n 2, 1) := by decide +kernel
theorem dX5_force_9 : decode cX5_force 9 = .ok (.invokestatic 114, 3) := by decide +kernel
theorem dX5_force_12 : decode cX5_force 12 = .ok (.ifCond .ne 7, 3) := by decide +kernel
theorem dX5_force_15 : decode cX5_force 15 = .ok (.ldc2_w 112, 3) := by decide +kernel
theorem dX5_force_18 : decode cX5_force 18 = .ok (.lreturn, 1) := by decide +kernel
theorem dX5_force_19 : decode cX5_force 19 = .ok (.aload_n 0, 1) := by decide +kernel
theorem dX5_force_20 : decode cX5_force 20 = .ok (.invokevirtual 117, 3) := by decide +kernel
theorem dX5_force_23 : decode cX5_force 23 = .ok (.aload_n 0, 1) := by decide +kernel
theorem dX5_force_24 : decode cX5_force 24 = .ok (.getfield 32, 3) := by decide +kernel
theorem dX5_force_27 : decode cX5_force 27 = .ok (.aload_n 0, 1) := by decide +kernel
theorem dX5_force_28 : decode cX5_force 28 = .ok (.getfield 16, 3) := by decide +kernel
theorem dX5_force_31 : decode cX5_force 31 = .ok (.iload_n 1, 1) := by decide +kernel
theorem dX5_force_32 : decode cX5_force 32 = .ok (.iaload, 1) := by decide +kernel
theorem dX5_force_33 : decode cX5_force 33 = .ok (.laload, 1) := by decide +kernel
theorem dX5_force_34 : decode cX5_force 34 = .ok (.aload_n 0, 1) := by decide +kernel
theorem dX5_force_35 : decode cX5_force 35 = .ok (.getfield 104, 3) := by decide +kernel
theorem dX5_force_38 : decode cX5_force 38 = .ok (.iload_n 2, 1) := by decide +kernel
theorem dX5_force_39 : decode cX5_force 39 = .ok (.invokestatic 124, 3) := by decide +kernel
theorem dX5_force_42 : decode cX5_force 42 = .ok (.lreturn, 1) := by decide +kernel
/-! ===== FlowMetersModel.force(II)J ===== -/
def fX5_force (N : Nat) (c_t_below : Int64) (c_t_now : Nat → Int32) (c_t_heapOf : Nat → Int32) (c_t_partOf : Nat → Int32) (c_t_place : Nat → Int32) (c_t_matrix : Nat → Int64) (c_t_right : Nat → Int64) (c_t_force : Nat → Int64) (c_t_work : Nat → Int64) (x1 : Int32) (x2 : Int32) : Option (Int64 × Int64 × (Nat → Int32) × (Nat → Int32) × (Nat → Int32) × (Nat → Int64) × (Nat → Int64) × (Nat → Int64) × (Nat → Int64)) :=
  (fX5_isKnot c_t_now x1).bind fun v1 =>
  (if v1 = 0 then
    some ((-1), c_t_below, c_t_heapOf, c_t_partOf, c_t_place, c_t_matrix, c_t_right, c_t_force, c_t_work)
  else
    (fX5_isWhat x2).bind fun v4 =>
    (if v4 = 0 then
      some ((-1), c_t_below, c_t_heapOf, c_t_partOf, c_t_place, c_t_matrix, c_t_right, c_t_force, c_t_work)
    else
      (fX5_solves N c_t_below c_t_now c_t_heapOf c_t_partOf c_t_place c_t_matrix c_t_right c_t_force c_t_work).bind fun (v7, v8, v9, v10, v11, v12, v13, v14) =>
      (ya_rd v8 6 x1).bind fun v16 =>
      (ya_rd v13 6 v16).bind fun v18 =>
      (fX5_told N v18 v7 x2).bind fun v20 =>
      some (v20, v7, v8, v9, v10, v11, v12, v13, v14)))
theorem fX5_force_32 : yF wsX5_force RX5 32 5 8 RX5 TX5 19 := ⟨rfl, by decide, by decide +kernel, by decide +kernel⟩
theorem fX5_force_16 : yF wsX5_force RX5 16 5 3 RX5 TX5 19 := ⟨rfl, by decide, by decide +kernel, by decide +kernel⟩
theorem fX5_force_104 : yF wsX5_force RX5 104 5 10 RX5 TX5 19 := ⟨rfl, by decide, by decide +kernel, by decide +kernel⟩
abbrev rmX5_force : Room := { frames := 9, cells := 0, slots := 0, locals := 336 }
theorem eX5_force : yY yX5_force wsX5_force cX5_force 3 (some .long) rmX5_force 2 := ⟨⟨_, rfl⟩, rfl, rfl, by decide, by decide, by decide +kernel⟩
set_option maxHeartbeats 4000000 in
set_option maxRecDepth 100000 in
theorem mX5_force {l : Launch} {D : va_G} {sz : Nat} {cI cJ cZ cW cR : ClassId} {N : Nat} {h_t : Nat} {A_t : Nat → Nat} {c_t_many : Int32} {c_t_below : Int64} {c_t_above1 : Int64} {c_t_below1 : Int64} {c_t_now : Nat → Int32} {c_t_heapOf : Nat → Int32} {c_t_partOf : Nat → Int32} {c_t_place : Nat → Int32} {c_t_matrix : Nat → Int64} {c_t_right : Nat → Int64} {c_t_force : Nat → Int64} {c_t_work : Nat → Int64} {x1 : Int32} {x2 : Int32} {r : Int64} {zc_t_below : Int64} {zc_t_heapOf : Nat → Int32} {zc_t_partOf : Nat → Int32} {zc_t_place : Nat → Int32} {zc_t_matrix : Nat → Int64} {zc_t_right : Nat → Int64} {zc_t_force : Nat → Int64} {zc_t_work : Nat → Int64} (hf : fX5_force N c_t_below c_t_now c_t_heapOf c_t_partOf c_t_place c_t_matrix c_t_right c_t_force c_t_work x1 x2 = some (r, zc_t_below, zc_t_heapOf, zc_t_partOf, zc_t_place, zc_t_matrix, zc_t_right, zc_t_force, zc_t_work)) : Met l yX5_force wsX5_force rmX5_force (yP D (yT cI cJ cZ cW cR) [(h_t, oR A_t c_t_many c_t_below c_t_above1 c_t_below1), (A_t 0, eI cI 242 c_t_now), (A_t 2, eI cI 6 c_t_heapOf), (A_t 3, eI cI 6 c_t_partOf), (A_t 4, eI cI 6 c_t_place), (A_t 5, eJ cJ 36 c_t_matrix), (A_t 6, eJ cJ 6 c_t_right), (A_t 7, eJ cJ 6 c_t_force), (A_t 8, eJ cJ 216 c_t_work)] sz [.ref h_t, .int x1, .int x2]) (yQl D (yT cI cJ cZ cW cR) r [(h_t, oR A_t c_t_many zc_t_below c_t_above1 c_t_below1), (A_t 0, eI cI 242 c_t_now), (A_t 2, eI cI 6 zc_t_heapOf), (A_t 3, eI cI 6 zc_t_partOf), (A_t 4, eI cI 6 zc_t_place), (A_t 5, eJ cJ 36 zc_t_matrix), (A_t 6, eJ cJ 6 zc_t_right), (A_t 7, eJ cJ 6 zc_t_force), (A_t 8, eJ cJ 216 zc_t_work)] (va_A [(h_t, oR A_t c_t_many c_t_below c_t_above1 c_t_below1), (A_t 0, eI cI 242 c_t_now), (A_t 2, eI cI 6 c_t_heapOf), (A_t 3, eI cI 6 c_t_partOf), (A_t 4, eI cI 6 c_t_place), (A_t 5, eJ cJ 36 c_t_matrix), (A_t 6, eJ cJ 6 c_t_right), (A_t 7, eJ cJ 6 c_t_force), (A_t 8, eJ cJ 216 c_t_work)] sz)) 0 0 (va_A [(h_t, oR A_t c_t_many c_t_below c_t_above1 c_t_below1), (A_t 0, eI cI 242 c_t_now), (A_t 2, eI cI 6 c_t_heapOf), (A_t 3, eI cI 6 c_t_partOf), (A_t 4, eI cI 6 c_t_place), (A_t 5, eJ cJ 36 c_t_matrix), (A_t 6, eJ cJ 6 c_t_right), (A_t 7, eJ cJ 6 c_t_force), (A_t 8, eJ cJ 216 c_t_work)] sz) := by
  refine yM (cc := cX5_force) (maxL := 3) (ret := (some .long)) RX5 (by decide) rfl rfl (Nat.le_of_ble_eq_true rfl) ?_
  intro p e s m below meth c Γ hr
  show yG p l e (headSpec wsX5_force rmX5_force).room s m (List.toArray [.ref h_t, .int x1, .int x2]) below meth c D (va_A [(h_t, oR A_t c_t_many c_t_below c_t_above1 c_t_below1), (A_t 0, eI cI 242 c_t_now), (A_t 2, eI cI 6 c_t_heapOf), (A_t 3, eI cI 6 c_t_partOf), (A_t 4, eI cI 6 c_t_place), (A_t 5, eJ cJ 36 c_t_matrix), (A_t 6, eJ cJ 6 c_t_right), (A_t 7, eJ cJ 6 c_t_force), (A_t 8, eJ cJ 216 c_t_work)] sz) 3 0 0 (MQ below (yQl D (yT cI cJ cZ cW cR) r [(h_t, oR A_t c_t_many zc_t_below c_t_above1 c_t_below1), (A_t 0, eI cI 242 c_t_now), (A_t 2, eI cI 6 zc_t_heapOf), (A_t 3, eI cI 6 zc_t_partOf), (A_t 4, eI cI 6 zc_t_place), (A_t 5, eJ cJ 36 zc_t_matrix), (A_t 6, eJ cJ 6 zc_t_right), (A_t 7, eJ cJ 6 zc_t_force), (A_t 8, eJ cJ 216 zc_t_work)] (va_A [(h_t, oR A_t c_t_many c_t_below c_t_above1 c_t_below1), (A_t 0, eI cI 242 c_t_now), (A_t 2, eI cI 6 c_t_heapOf), (A_t 3, eI cI 6 c_t_partOf), (A_t 4, eI cI 6 c_t_place), (A_t 5, eJ cJ 36 c_t_matrix), (A_t 6, eJ cJ 6 c_t_right), (A_t 7, eJ cJ 6 c_t_force), (A_t 8, eJ cJ 216 c_t_work)] sz)) (List.toArray [.ref h_t, .int x1, .int x2]) s 0 0 (va_A [(h_t, oR A_t c_t_many c_t_below c_t_above1 c_t_below1), (A_t 0, eI cI 242 c_t_now), (A_t 2, eI cI 6 c_t_heapOf), (A_t 3, eI cI 6 c_t_partOf), (A_t 4, eI cI 6 c_t_place), (A_t 5, eJ cJ 36 c_t_matrix), (A_t 6, eJ cJ 6 c_t_right), (A_t 7, eJ cJ 6 c_t_force), (A_t 8, eJ cJ 216 c_t_work)] sz)) 0 [(0, .ref h_t), (1, .int x1), (2, .int x2)] [] [(h_t, oR A_t c_t_many c_t_below c_t_above1 c_t_below1), (A_t 0, eI cI 242 c_t_now), (A_t 2, eI cI 6 c_t_heapOf), (A_t 3, eI cI 6 c_t_partOf), (A_t 4, eI cI 6 c_t_place), (A_t 5, eJ cJ 36 c_t_matrix), (A_t 6, eJ cJ 6 c_t_right), (A_t 7, eJ cJ 6 c_t_force), (A_t 8, eJ cJ 216 c_t_work)]
  unfold fX5_force at hf
  refine g_aload_n Γ 0 dX5_force_0 rfl ?_
  refine g_iload_n Γ 1 dX5_force_1 rfl ?_
  obtain ⟨v1, e2, hf⟩ := ya_ob hf
  refine g_vi (q := (RX5, TX5, 19)) (wr := [(A_t 2, eI cI 6 c_t_heapOf), (A_t 3, eI cI 6 c_t_partOf), (A_t 4, eI cI 6 c_t_place), (A_t 5, eJ cJ 36 c_t_matrix), (A_t 6, eJ cJ 6 c_t_right), (A_t 7, eJ cJ 6 c_t_force), (A_t 8, eJ cJ 216 c_t_work)]) (ws' := [(A_t 2, eI cI 6 c_t_heapOf), (A_t 3, eI cI 6 c_t_partOf), (A_t 4, eI cI 6 c_t_place), (A_t 5, eJ cJ 36 c_t_matrix), (A_t 6, eJ cJ 6 c_t_right), (A_t 7, eJ cJ 6 c_t_force), (A_t 8, eJ cJ 216 c_t_work), (h_t, oR A_t c_t_many c_t_below c_t_above1 c_t_below1), (A_t 0, eI cI 242 c_t_now)]) Γ (fun sz => mX5_isKnot (l := l) (D := D) (sz := sz) (cI := cI) (cJ := cJ) (cZ := cZ) (cW := cW) (cR := cR) (h_t := h_t) (A_t := A_t) (hf := e2)) eX5_isKnot gX5_force_X5_isKnot rfl rfl 0 rfl rfl rfl (Nat.le_of_ble_eq_true rfl) ⟨Nat.le_of_ble_eq_true rfl, Nat.le_of_ble_eq_true rfl⟩ dX5_force_2 [0, 1] [2, 3, 4, 5, 6, 7, 8] rfl rfl rfl rfl (by decide) rfl ?_
  refine g_if_eq Γ 15 dX5_force_5 (by decide) (fun c3 => ?_) (fun c3 => ?_)
  · have hf := ya_if1 c3 hf
    refine g_ldc2 (v := (-1)) Γ dX5_force_15 (by decide +kernel) ?_
    cases hf
    exact g_lret Γ hr dX5_force_18 [7, 8, 0, 1, 2, 3, 4, 5, 6] rfl rfl
  · have hf := ya_if2 c3 hf
    refine g_iload_n Γ 2 dX5_force_8 rfl ?_
    obtain ⟨v4, e5, hf⟩ := ya_ob hf
    refine g_si (wr := [(A_t 2, eI cI 6 c_t_heapOf), (A_t 3, eI cI 6 c_t_partOf), (A_t 4, eI cI 6 c_t_place), (A_t 5, eJ cJ 36 c_t_matrix), (A_t 6, eJ cJ 6 c_t_right), (A_t 7, eJ cJ 6 c_t_force), (A_t 8, eJ cJ 216 c_t_work), (h_t, oR A_t c_t_many c_t_below c_t_above1 c_t_below1), (A_t 0, eI cI 242 c_t_now)]) (ws' := [(A_t 2, eI cI 6 c_t_heapOf), (A_t 3, eI cI 6 c_t_partOf), (A_t 4, eI cI 6 c_t_place), (A_t 5, eJ cJ 36 c_t_matrix), (A_t 6, eJ cJ 6 c_t_right), (A_t 7, eJ cJ 6 c_t_force), (A_t 8, eJ cJ 216 c_t_work), (h_t, oR A_t c_t_many c_t_below c_t_above1 c_t_below1), (A_t 0, eI cI 242 c_t_now)]) Γ (fun sz => mX5_isWhat (l := l) (D := D) (sz := sz) (cI := cI) (cJ := cJ) (cZ := cZ) (cW := cW) (cR := cR)  (hf := e5)) eX5_isWhat ggX5_force_X5_isWhat (by decide +kernel) (by decide +kernel) (by decide +kernel) rfl rfl (Nat.le_of_ble_eq_true rfl) ⟨Nat.le_of_ble_eq_true rfl, Nat.le_of_ble_eq_true rfl⟩ dX5_force_9 [] [0, 1, 2, 3, 4, 5, 6, 7, 8] rfl rfl rfl rfl (by decide) rfl ?_
    refine g_if_ne Γ 19 dX5_force_12 (by decide) (fun c6 => ?_) (fun c6 => ?_)
    · have hf := ya_if2 c6 hf
      refine g_aload_n Γ 0 dX5_force_19 rfl ?_
      obtain ⟨⟨v7, v8, v9, v10, v11, v12, v13, v14⟩, e15, hf⟩ := ya_ob hf
      refine g_vv (q := (RX5, TX5, 19)) (wr := []) (ws' := [(h_t, oR A_t c_t_many v7 c_t_above1 c_t_below1), (A_t 0, eI cI 242 c_t_now), (A_t 2, eI cI 6 v8), (A_t 3, eI cI 6 v9), (A_t 4, eI cI 6 v10), (A_t 5, eJ cJ 36 v11), (A_t 6, eJ cJ 6 v12), (A_t 7, eJ cJ 6 v13), (A_t 8, eJ cJ 216 v14)]) Γ (fun sz => mX5_solves (l := l) (D := D) (sz := sz) (cI := cI) (cJ := cJ) (cZ := cZ) (cW := cW) (cR := cR) (h_t := h_t) (A_t := A_t) (hf := e15)) eX5_solves gX5_force_X5_solves rfl rfl 0 rfl rfl rfl (Nat.le_of_ble_eq_true rfl) ⟨Nat.le_of_ble_eq_true rfl, Nat.le_of_ble_eq_true rfl⟩ dX5_force_20 [7, 8, 0, 1, 2, 3, 4, 5, 6] [] rfl rfl rfl rfl (by decide) rfl ?_
      refine g_aload_n Γ 0 dX5_force_23 rfl ?_
      refine g_get Γ fX5_force_32 0 rfl rfl dX5_force_24 ?_
      refine g_aload_n Γ 0 dX5_force_27 rfl ?_
      refine g_get Γ fX5_force_16 0 rfl rfl dX5_force_28 ?_
      refine g_iload_n Γ 1 dX5_force_31 rfl ?_
      obtain ⟨v16, e17, hf⟩ := ya_ob hf
      refine g_iald Γ e17 2 0 rfl rfl dX5_force_32 ?_
      obtain ⟨v18, e19, hf⟩ := ya_ob hf
      refine g_lald Γ e19 7 1 rfl rfl dX5_force_33 ?_
      refine g_aload_n Γ 0 dX5_force_34 rfl ?_
      refine g_get Γ fX5_force_104 0 rfl rfl dX5_force_35 ?_
      refine g_iload_n Γ 2 dX5_force_38 rfl ?_
      obtain ⟨v20, e21, hf⟩ := ya_ob hf
      refine g_sl (wr := [(h_t, oR A_t c_t_many v7 c_t_above1 c_t_below1), (A_t 0, eI cI 242 c_t_now), (A_t 2, eI cI 6 v8), (A_t 3, eI cI 6 v9), (A_t 4, eI cI 6 v10), (A_t 5, eJ cJ 36 v11), (A_t 6, eJ cJ 6 v12), (A_t 7, eJ cJ 6 v13), (A_t 8, eJ cJ 216 v14)]) (ws' := [(h_t, oR A_t c_t_many v7 c_t_above1 c_t_below1), (A_t 0, eI cI 242 c_t_now), (A_t 2, eI cI 6 v8), (A_t 3, eI cI 6 v9), (A_t 4, eI cI 6 v10), (A_t 5, eJ cJ 36 v11), (A_t 6, eJ cJ 6 v12), (A_t 7, eJ cJ 6 v13), (A_t 8, eJ cJ 216 v14)]) Γ (fun sz => mX5_told (l := l) (D := D) (sz := sz) (cI := cI) (cJ := cJ) (cZ := cZ) (cW := cW) (cR := cR)  (hf := e21)) eX5_told ggX5_force_X5_told (by decide +kernel) (by decide +kernel) (by decide +kernel) rfl rfl (Nat.le_of_ble_eq_true rfl) ⟨Nat.le_of_ble_eq_true rfl, Nat.le_of_ble_eq_true rfl⟩ dX5_force_39 [] [0, 1, 2, 3, 4, 5, 6, 7, 8] rfl rfl rfl rfl (by decide) rfl ?_
      cases hf
      exact g_lret Γ hr dX5_force_42 [0, 1, 2, 3, 4, 5, 6, 7, 8] rfl rfl
    · have hf := ya_if1 c6 hf
      refine g_ldc2 (v := (-1)) Γ dX5_force_15 (by decide +kernel) ?_
      cases hf
      exact g_lret Γ hr dX5_force_18 [7, 8, 0, 1, 2, 3, 4, 5, 6] rfl rfl

set_option maxRecDepth 20000 in
theorem ggX5_testOf_X5_flows : GoodIn wsX5_testOf wsX5_flows := goodIn_r _ [7, 8, 17, 18, 19, 20, 21, 22, 23, 24, 25, 26, 27, 28, 29, 30, 31, 32, 33, 34, 35] rfl (by decide +kernel)
set_option maxRecDepth 20000 in
theorem gX5_testOf_X5_flows : GoodIn wsX5_testOf (wsV RX5 57 RX5 yX5_flows wsX5_flows) := goodIn_app (goodIn_of _ (by decide +kernel)) ggX5_testOf_X5_flows
set_option maxRecDepth 20000 in
theorem ggX5_testOf_X5_isRead : GoodIn wsX5_testOf wsX5_isRead := goodIn_r _ [12, 13, 14, 15, 6, 16, 8, 17, 18, 19, 20, 21, 22, 23, 24, 25, 26, 27, 28, 29, 30, 31, 32, 33, 34, 35] rfl (by decide +kernel)
set_option maxRecDepth 20000 in
theorem gX5_testOf_X5_isRead : GoodIn wsX5_testOf (wsV RX5 91 RX5 yX5_isRead wsX5_isRead) := goodIn_app (goodIn_of _ (by decide +kernel)) ggX5_testOf_X5_isRead
set_option maxRecDepth 20000 in
theorem ggX5_testOf_X5_get : GoodIn wsX5_testOf wsX5_get := goodIn_r _ [16, 8, 17, 18, 19, 20, 21, 22, 23, 24, 25, 26, 27, 28, 29, 30, 31, 32, 33, 34, 35] rfl (by decide +kernel)
set_option maxRecDepth 20000 in
theorem gX5_testOf_X5_get : GoodIn wsX5_testOf (wsV RX5 86 RX5 yX5_get wsX5_get) := goodIn_app (goodIn_of _ (by decide +kernel)) ggX5_testOf_X5_get
theorem dX5_testOf_0 : decode cX5_testOf 0 = .ok (.lconst 0, 1) := by decide +kernel
theorem dX5_testOf_1 : decode cX5_testOf 1 = .ok (.lstore_n 1, 1) := by decide +kernel
theorem dX5_testOf_2 : decode cX5_testOf 2 = .ok (.iconst 0, 1) := by decide +kernel
theorem dX5_testOf_3 : decode cX5_testOf 3 = .ok (.istore_n 3, 1) := by decide +kernel
theorem dX5_testOf_4 : decode cX5_testOf 4 = .ok (.iload_n 3, 1) := by decide +kernel
theorem dX5_testOf_5 : decode cX5_testOf 5 = .ok (.aload_n 0, 1) := by decide +kernel
theorem dX5_testOf_6 : decode cX5_testOf 6 = .ok (.invokevirtual 57, 3) := by decide +kernel
theorem dX5_testOf_9 : decode cX5_testOf 9 = .ok (.if_icmp .ge 61, 3) := by decide +kernel
theorem dX5_testOf_12 : decode cX5_testOf 12 = .ok (.aload_n 0, 1) := by decide +kernel
theorem dX5_testOf_13 : decode cX5_testOf 13 = .ok (.iload_n 3, 1) := by decide +kernel
theorem dX5_testOf_14 : decode cX5_testOf 14 = .ok (.invokevirtual 91, 3) := by decide +kernel
theorem dX5_testOf_17 : decode cX5_testOf 17 = .ok (.ifCond .eq 47, 3) := by decide +kernel
theorem dX5_testOf_20 : decode cX5_testOf 20 = .ok (.lload_n 1, 1) := by decide +kernel
theorem dX5_testOf_21 : decode cX5_testOf 21 = .ok (.aload_n 0, 1) := by decide +kernel
theorem dX5_testOf_22 : decode cX5_testOf 22 = .ok (.iload_n 3, 1) := by decide +kernel
theorem dX5_testOf_23 : decode cX5_testOf 23 = .ok (.iconst 3, 1) := by decide +kernel
theorem dX5_testOf_24 : decode cX5_testOf 24 = .ok (.invokevirtual 86, 3) := by decide +kernel
theorem dX5_testOf_27 : decode cX5_testOf 27 = .ok (.i2l, 1) := by decide +kernel
theorem dX5_testOf_28 : decode cX5_testOf 28 = .ok (.aload_n 0, 1) := by decide +kernel
theorem dX5_testOf_29 : decode cX5_testOf 29 = .ok (.getfield 32, 3) := by decide +kernel
theorem dX5_testOf_32 : decode cX5_testOf 32 = .ok (.aload_n 0, 1) := by decide +kernel
theorem dX5_testOf_33 : decode cX5_testOf 33 = .ok (.getfield 16, 3) := by decide +kernel
theorem dX5_testOf_36 : decode cX5_testOf 36 = .ok (.aload_n 0, 1) := by decide +kernel
theorem dX5_testOf_37 : decode cX5_testOf 37 = .ok (.iload_n 3, 1) := by decide +kernel
theorem dX5_testOf_38 : decode cX5_testOf 38 = .ok (.iconst 1, 1) := by decide +kernel
theorem dX5_testOf_39 : decode cX5_testOf 39 = .ok (.invokevirtual 86, 3) := by decide +kernel
theorem dX5_testOf_42 : decode cX5_testOf 42 = .ok (.iaload, 1) := by decide +kernel
theorem dX5_testOf_43 : decode cX5_testOf 43 = .ok (.laload, 1) := by decide +kernel
theorem dX5_testOf_44 : decode cX5_testOf 44 = .ok (.aload_n 0, 1) := by decide +kernel
theorem dX5_testOf_45 : decode cX5_testOf 45 = .ok (.getfield 32, 3) := by decide +kernel
theorem dX5_testOf_48 : decode cX5_testOf 48 = .ok (.aload_n 0, 1) := by decide +kernel
theorem dX5_testOf_49 : decode cX5_testOf 49 = .ok (.getfield 16, 3) := by decide +kernel
theorem dX5_testOf_52 : decode cX5_testOf 52 = .ok (.aload_n 0, 1) := by decide +kernel
theorem dX5_testOf_53 : decode cX5_testOf 53 = .ok (.iload_n 3, 1) := by decide +kernel
theorem dX5_testOf_54 : decode cX5_testOf 54 = .ok (.iconst 0, 1) := by decide +kernel
theorem dX5_testOf_55 : decode cX5_testOf 55 = .ok (.invokevirtual 86, 3) := by decide +kernel
theorem dX5_testOf_58 : decode cX5_testOf 58 = .ok (.iaload, 1) := by decide +kernel
theorem dX5_testOf_59 : decode cX5_testOf 59 = .ok (.laload, 1) := by decide +kernel
theorem dX5_testOf_60 : decode cX5_testOf 60 = .ok (.lsub, 1) := by decide +kernel
theorem dX5_testOf_61 : decode cX5_testOf 61 = .ok (.lmul, 1) := by decide +kernel
theorem dX5_testOf_62 : decode cX5_testOf 62 = .ok (.lsub, 1) := by decide +kernel
theorem dX5_testOf_63 : decode cX5_testOf 63 = .ok (.lstore_n 1, 1) := by decide +kernel
theorem dX5_testOf_64 : decode cX5_testOf 64 = .ok (.iinc 3 1, 3) := by decide +kernel
theorem dX5_testOf_67 : decode cX5_testOf 67 = .ok (.goto (-63), 3) := by decide +kernel
theorem dX5_testOf_70 : decode cX5_testOf 70 = .ok (.lload_n 1, 1) := by decide +kernel
theorem dX5_testOf_71 : decode cX5_testOf 71 = .ok (.lreturn, 1) := by decide +kernel
/-! ===== FlowMetersModel.testOf()J ===== -/
def fX5_testOf_L4 (N : Nat) (n : Nat) (y1 : Int64) (y3 : Int32) (d_t_now : Nat → Int32) (d_t_heapOf : Nat → Int32) (d_t_force : Nat → Int64) : Option (Int64) := match n with
  | 0 => none
  | n + 1 =>
    (fX5_flows d_t_now).bind fun v1 =>
      (if v1 ≤ y3 then
        some y1
      else
        (fX5_isRead d_t_now y3).bind fun v4 =>
        (if v4 = 0 then
          ya_lt (y3 + 1) fun v7 =>
          fX5_testOf_L4 N n y1 v7 d_t_now d_t_heapOf d_t_force
        else
          (fX5_get d_t_now y3 3).bind fun v9 =>
          (fX5_get d_t_now y3 1).bind fun v11 =>
          (ya_rd d_t_heapOf 6 v11).bind fun v13 =>
          (ya_rd d_t_force 6 v13).bind fun v15 =>
          (fX5_get d_t_now y3 0).bind fun v17 =>
          (ya_rd d_t_heapOf 6 v17).bind fun v19 =>
          (ya_rd d_t_force 6 v19).bind fun v21 =>
          ya_lt (y1 - ((Int32.toInt64 v9) * (v15 - v21))) fun v23 =>
          ya_lt (y3 + 1) fun v25 =>
          fX5_testOf_L4 N n v23 v25 d_t_now d_t_heapOf d_t_force))
def fX5_testOf (N : Nat) (c_t_now : Nat → Int32) (c_t_heapOf : Nat → Int32) (c_t_force : Nat → Int64)  : Option (Int64) :=
  (fX5_testOf_L4 N N 0 0 c_t_now c_t_heapOf c_t_force).bind fun v27 =>
  some v27
theorem fX5_testOf_32 : yF wsX5_testOf RX5 32 5 8 RX5 TX5 19 := ⟨rfl, by decide, by decide +kernel, by decide +kernel⟩
theorem fX5_testOf_16 : yF wsX5_testOf RX5 16 5 3 RX5 TX5 19 := ⟨rfl, by decide, by decide +kernel, by decide +kernel⟩
abbrev rmX5_testOf : Room := { frames := 2, cells := 0, slots := 0, locals := 43 }
theorem eX5_testOf : yY yX5_testOf wsX5_testOf cX5_testOf 4 (some .long) rmX5_testOf 0 := ⟨⟨_, rfl⟩, rfl, rfl, by decide, by decide, by decide +kernel⟩
set_option maxHeartbeats 4000000 in
set_option maxRecDepth 100000 in
theorem mX5_testOf {l : Launch} {D : va_G} {sz : Nat} {cI cJ cZ cW cR : ClassId} {N : Nat} {h_t : Nat} {A_t : Nat → Nat} {c_t_many : Int32} {c_t_below : Int64} {c_t_above1 : Int64} {c_t_below1 : Int64} {c_t_now : Nat → Int32} {c_t_heapOf : Nat → Int32} {c_t_force : Nat → Int64} {r : Int64} (hf : fX5_testOf N c_t_now c_t_heapOf c_t_force = some r) : Met l yX5_testOf wsX5_testOf rmX5_testOf (yP D (yT cI cJ cZ cW cR) [(h_t, oR A_t c_t_many c_t_below c_t_above1 c_t_below1), (A_t 0, eI cI 242 c_t_now), (A_t 2, eI cI 6 c_t_heapOf), (A_t 7, eJ cJ 6 c_t_force)] sz [.ref h_t]) (yQl D (yT cI cJ cZ cW cR) r [(h_t, oR A_t c_t_many c_t_below c_t_above1 c_t_below1), (A_t 0, eI cI 242 c_t_now), (A_t 2, eI cI 6 c_t_heapOf), (A_t 7, eJ cJ 6 c_t_force)] (va_A [(h_t, oR A_t c_t_many c_t_below c_t_above1 c_t_below1), (A_t 0, eI cI 242 c_t_now), (A_t 2, eI cI 6 c_t_heapOf), (A_t 7, eJ cJ 6 c_t_force)] sz)) 0 0 (va_A [(h_t, oR A_t c_t_many c_t_below c_t_above1 c_t_below1), (A_t 0, eI cI 242 c_t_now), (A_t 2, eI cI 6 c_t_heapOf), (A_t 7, eJ cJ 6 c_t_force)] sz) := by
  refine yM (cc := cX5_testOf) (maxL := 4) (ret := (some .long)) RX5 (by decide) rfl rfl (Nat.le_of_ble_eq_true rfl) ?_
  intro p e s m below meth c Γ hr
  have loop4 : ∀ (n : Nat) (y1 : Int64) (y3 : Int32) (d_t_many : Int32) (d_t_below : Int64) (d_t_above1 : Int64) (d_t_below1 : Int64) (d_t_now : Nat → Int32) (d_t_heapOf : Nat → Int32) (d_t_force : Nat → Int64) (w0 : Int64), fX5_testOf_L4 N n y1 y3 d_t_now d_t_heapOf d_t_force = some w0 → yG p l e (headSpec wsX5_testOf rmX5_testOf).room s m (List.toArray [.ref h_t]) below meth c D (va_A [(h_t, oR A_t c_t_many c_t_below c_t_above1 c_t_below1), (A_t 0, eI cI 242 c_t_now), (A_t 2, eI cI 6 c_t_heapOf), (A_t 7, eJ cJ 6 c_t_force)] sz) 4 0 0 (MQ below (yQl D (yT cI cJ cZ cW cR) r [(h_t, oR A_t c_t_many c_t_below c_t_above1 c_t_below1), (A_t 0, eI cI 242 c_t_now), (A_t 2, eI cI 6 c_t_heapOf), (A_t 7, eJ cJ 6 c_t_force)] (va_A [(h_t, oR A_t c_t_many c_t_below c_t_above1 c_t_below1), (A_t 0, eI cI 242 c_t_now), (A_t 2, eI cI 6 c_t_heapOf), (A_t 7, eJ cJ 6 c_t_force)] sz)) (List.toArray [.ref h_t]) s 0 0 (va_A [(h_t, oR A_t c_t_many c_t_below c_t_above1 c_t_below1), (A_t 0, eI cI 242 c_t_now), (A_t 2, eI cI 6 c_t_heapOf), (A_t 7, eJ cJ 6 c_t_force)] sz)) 70 [(1, .long w0)] [] [(h_t, oR A_t d_t_many d_t_below d_t_above1 d_t_below1), (A_t 0, eI cI 242 d_t_now), (A_t 2, eI cI 6 d_t_heapOf), (A_t 7, eJ cJ 6 d_t_force)] → yG p l e (headSpec wsX5_testOf rmX5_testOf).room s m (List.toArray [.ref h_t]) below meth c D (va_A [(h_t, oR A_t c_t_many c_t_below c_t_above1 c_t_below1), (A_t 0, eI cI 242 c_t_now), (A_t 2, eI cI 6 c_t_heapOf), (A_t 7, eJ cJ 6 c_t_force)] sz) 4 0 0 (MQ below (yQl D (yT cI cJ cZ cW cR) r [(h_t, oR A_t c_t_many c_t_below c_t_above1 c_t_below1), (A_t 0, eI cI 242 c_t_now), (A_t 2, eI cI 6 c_t_heapOf), (A_t 7, eJ cJ 6 c_t_force)] (va_A [(h_t, oR A_t c_t_many c_t_below c_t_above1 c_t_below1), (A_t 0, eI cI 242 c_t_now), (A_t 2, eI cI 6 c_t_heapOf), (A_t 7, eJ cJ 6 c_t_force)] sz)) (List.toArray [.ref h_t]) s 0 0 (va_A [(h_t, oR A_t c_t_many c_t_below c_t_above1 c_t_below1), (A_t 0, eI cI 242 c_t_now), (A_t 2, eI cI 6 c_t_heapOf), (A_t 7, eJ cJ 6 c_t_force)] sz)) 4 [(0, .ref h_t), (1, .long y1), (3, .int y3)] [] [(h_t, oR A_t d_t_many d_t_below d_t_above1 d_t_below1), (A_t 0, eI cI 242 d_t_now), (A_t 2, eI cI 6 d_t_heapOf), (A_t 7, eJ cJ 6 d_t_force)] := by
    intro n
    induction n with
    | zero =>
      intro y1 y3 d_t_many d_t_below d_t_above1 d_t_below1 d_t_now d_t_heapOf d_t_force w0 hf
      cases hf
    | succ n ih =>
      intro y1 y3 d_t_many d_t_below d_t_above1 d_t_below1 d_t_now d_t_heapOf d_t_force w0 hf hk
      unfold fX5_testOf_L4 at hf
      refine g_iload_n Γ 2 dX5_testOf_4 rfl ?_
      refine g_aload_n Γ 0 dX5_testOf_5 rfl ?_
      obtain ⟨v1, e2, hf⟩ := ya_ob hf
      refine g_vi (q := (RX5, TX5, 19)) (wr := [(A_t 2, eI cI 6 d_t_heapOf), (A_t 7, eJ cJ 6 d_t_force)]) (ws' := [(A_t 2, eI cI 6 d_t_heapOf), (A_t 7, eJ cJ 6 d_t_force), (h_t, oR A_t d_t_many d_t_below d_t_above1 d_t_below1), (A_t 0, eI cI 242 d_t_now)]) Γ (fun sz => mX5_flows (l := l) (D := D) (sz := sz) (cI := cI) (cJ := cJ) (cZ := cZ) (cW := cW) (cR := cR) (h_t := h_t) (A_t := A_t) (hf := e2)) eX5_flows gX5_testOf_X5_flows rfl rfl 0 rfl rfl rfl (Nat.le_of_ble_eq_true rfl) ⟨Nat.le_of_ble_eq_true rfl, Nat.le_of_ble_eq_true rfl⟩ dX5_testOf_6 [0, 1] [2, 3] rfl rfl rfl rfl (by decide) rfl ?_
      refine g_icmp_ge Γ 70 dX5_testOf_9 (by decide) (fun c3 => ?_) (fun c3 => ?_)
      · have hf := ya_if1 c3 hf
        cases hf
        refine g_lv [1] rfl ?_
        refine g_ws (ws' := [(h_t, oR A_t d_t_many d_t_below d_t_above1 d_t_below1), (A_t 0, eI cI 242 d_t_now), (A_t 2, eI cI 6 d_t_heapOf), (A_t 7, eJ cJ 6 d_t_force)]) [2, 3, 0, 1] rfl rfl ?_
        exact hk
      · have hf := ya_if2 c3 hf
        refine g_aload_n Γ 0 dX5_testOf_12 rfl ?_
        refine g_iload_n Γ 2 dX5_testOf_13 rfl ?_
        obtain ⟨v4, e5, hf⟩ := ya_ob hf
        refine g_vi (q := (RX5, TX5, 19)) (wr := [(A_t 2, eI cI 6 d_t_heapOf), (A_t 7, eJ cJ 6 d_t_force)]) (ws' := [(A_t 2, eI cI 6 d_t_heapOf), (A_t 7, eJ cJ 6 d_t_force), (h_t, oR A_t d_t_many d_t_below d_t_above1 d_t_below1), (A_t 0, eI cI 242 d_t_now)]) Γ (fun sz => mX5_isRead (l := l) (D := D) (sz := sz) (cI := cI) (cJ := cJ) (cZ := cZ) (cW := cW) (cR := cR) (h_t := h_t) (A_t := A_t) (hf := e5)) eX5_isRead gX5_testOf_X5_isRead rfl rfl 0 rfl rfl rfl (Nat.le_of_ble_eq_true rfl) ⟨Nat.le_of_ble_eq_true rfl, Nat.le_of_ble_eq_true rfl⟩ dX5_testOf_14 [2, 3] [0, 1] rfl rfl rfl rfl (by decide) rfl ?_
        refine g_if_eq Γ 64 dX5_testOf_17 (by decide) (fun c6 => ?_) (fun c6 => ?_)
        · have hf := ya_if1 c6 hf
          obtain ⟨v7, e8, hf⟩ := ya_lt_inv hf
          refine g_iinc (lv' := [(3, .int v7), (0, .ref h_t), (1, .long y1)]) Γ 2 dX5_testOf_64 rfl (by rw [e8]; rfl) (by decide) rfl ?_
          refine g_goto Γ 4 dX5_testOf_67 (by decide) ?_
          refine g_lv [1, 2, 0] rfl ?_
          refine g_ws (ws' := [(h_t, oR A_t d_t_many d_t_below d_t_above1 d_t_below1), (A_t 0, eI cI 242 d_t_now), (A_t 2, eI cI 6 d_t_heapOf), (A_t 7, eJ cJ 6 d_t_force)]) [2, 3, 0, 1] rfl rfl ?_
          exact ih _ _ _ _ _ _ _ _ _ _ hf hk
        · have hf := ya_if2 c6 hf
          refine g_lload_n Γ 1 dX5_testOf_20 rfl ?_
          refine g_aload_n Γ 0 dX5_testOf_21 rfl ?_
          refine g_iload_n Γ 2 dX5_testOf_22 rfl ?_
          refine g_iconst (v := 3) Γ dX5_testOf_23 (by decide) ?_
          obtain ⟨v9, e10, hf⟩ := ya_ob hf
          refine g_vi (q := (RX5, TX5, 19)) (wr := [(A_t 2, eI cI 6 d_t_heapOf), (A_t 7, eJ cJ 6 d_t_force)]) (ws' := [(A_t 2, eI cI 6 d_t_heapOf), (A_t 7, eJ cJ 6 d_t_force), (h_t, oR A_t d_t_many d_t_below d_t_above1 d_t_below1), (A_t 0, eI cI 242 d_t_now)]) Γ (fun sz => mX5_get (l := l) (D := D) (sz := sz) (cI := cI) (cJ := cJ) (cZ := cZ) (cW := cW) (cR := cR) (h_t := h_t) (A_t := A_t) (hf := e10)) eX5_get gX5_testOf_X5_get rfl rfl 0 rfl rfl rfl (Nat.le_of_ble_eq_true rfl) ⟨Nat.le_of_ble_eq_true rfl, Nat.le_of_ble_eq_true rfl⟩ dX5_testOf_24 [2, 3] [0, 1] rfl rfl rfl rfl (by decide) rfl ?_
          refine g_i2l Γ dX5_testOf_27 ?_
          refine g_aload_n Γ 0 dX5_testOf_28 rfl ?_
          refine g_get Γ fX5_testOf_32 2 rfl rfl dX5_testOf_29 ?_
          refine g_aload_n Γ 0 dX5_testOf_32 rfl ?_
          refine g_get Γ fX5_testOf_16 2 rfl rfl dX5_testOf_33 ?_
          refine g_aload_n Γ 0 dX5_testOf_36 rfl ?_
          refine g_iload_n Γ 2 dX5_testOf_37 rfl ?_
          refine g_iconst (v := 1) Γ dX5_testOf_38 (by decide) ?_
          obtain ⟨v11, e12, hf⟩ := ya_ob hf
          refine g_vi (q := (RX5, TX5, 19)) (wr := [(A_t 2, eI cI 6 d_t_heapOf), (A_t 7, eJ cJ 6 d_t_force)]) (ws' := [(A_t 2, eI cI 6 d_t_heapOf), (A_t 7, eJ cJ 6 d_t_force), (h_t, oR A_t d_t_many d_t_below d_t_above1 d_t_below1), (A_t 0, eI cI 242 d_t_now)]) Γ (fun sz => mX5_get (l := l) (D := D) (sz := sz) (cI := cI) (cJ := cJ) (cZ := cZ) (cW := cW) (cR := cR) (h_t := h_t) (A_t := A_t) (hf := e12)) eX5_get gX5_testOf_X5_get rfl rfl 0 rfl rfl rfl (Nat.le_of_ble_eq_true rfl) ⟨Nat.le_of_ble_eq_true rfl, Nat.le_of_ble_eq_true rfl⟩ dX5_testOf_39 [2, 3] [0, 1] rfl rfl rfl rfl (by decide) rfl ?_
          obtain ⟨v13, e14, hf⟩ := ya_ob hf
          refine g_iald Γ e14 0 0 rfl rfl dX5_testOf_42 ?_
          obtain ⟨v15, e16, hf⟩ := ya_ob hf
          refine g_lald Γ e16 1 1 rfl rfl dX5_testOf_43 ?_
          refine g_aload_n Γ 0 dX5_testOf_44 rfl ?_
          refine g_get Γ fX5_testOf_32 2 rfl rfl dX5_testOf_45 ?_
          refine g_aload_n Γ 0 dX5_testOf_48 rfl ?_
          refine g_get Γ fX5_testOf_16 2 rfl rfl dX5_testOf_49 ?_
          refine g_aload_n Γ 0 dX5_testOf_52 rfl ?_
          refine g_iload_n Γ 2 dX5_testOf_53 rfl ?_
          refine g_iconst (v := 0) Γ dX5_testOf_54 (by decide) ?_
          obtain ⟨v17, e18, hf⟩ := ya_ob hf
          refine g_vi (q := (RX5, TX5, 19)) (wr := [(A_t 2, eI cI 6 d_t_heapOf), (A_t 7, eJ cJ 6 d_t_force)]) (ws' := [(A_t 2, eI cI 6 d_t_heapOf), (A_t 7, eJ cJ 6 d_t_force), (h_t, oR A_t d_t_many d_t_below d_t_above1 d_t_below1), (A_t 0, eI cI 242 d_t_now)]) Γ (fun sz => mX5_get (l := l) (D := D) (sz := sz) (cI := cI) (cJ := cJ) (cZ := cZ) (cW := cW) (cR := cR) (h_t := h_t) (A_t := A_t) (hf := e18)) eX5_get gX5_testOf_X5_get rfl rfl 0 rfl rfl rfl (Nat.le_of_ble_eq_true rfl) ⟨Nat.le_of_ble_eq_true rfl, Nat.le_of_ble_eq_true rfl⟩ dX5_testOf_55 [2, 3] [0, 1] rfl rfl rfl rfl (by decide) rfl ?_
          obtain ⟨v19, e20, hf⟩ := ya_ob hf
          refine g_iald Γ e20 0 0 rfl rfl dX5_testOf_58 ?_
          obtain ⟨v21, e22, hf⟩ := ya_ob hf
          refine g_lald Γ e22 1 1 rfl rfl dX5_testOf_59 ?_
          refine g_lsub Γ dX5_testOf_60 ?_
          refine g_lmul Γ dX5_testOf_61 ?_
          refine g_lsub Γ dX5_testOf_62 ?_
          obtain ⟨v23, e24, hf⟩ := ya_lt_inv hf
          refine g_nml e24 ?_
          refine g_lstore_n (lv' := [(1, .long v23), (0, .ref h_t), (3, .int y3)]) Γ dX5_testOf_63 (by decide) rfl ?_
          obtain ⟨v25, e26, hf⟩ := ya_lt_inv hf
          refine g_iinc (lv' := [(3, .int v25), (1, .long v23), (0, .ref h_t)]) Γ 2 dX5_testOf_64 rfl (by rw [e26]; rfl) (by decide) rfl ?_
          refine g_goto Γ 4 dX5_testOf_67 (by decide) ?_
          refine g_lv [2, 1, 0] rfl ?_
          refine g_ws (ws' := [(h_t, oR A_t d_t_many d_t_below d_t_above1 d_t_below1), (A_t 0, eI cI 242 d_t_now), (A_t 2, eI cI 6 d_t_heapOf), (A_t 7, eJ cJ 6 d_t_force)]) [2, 3, 0, 1] rfl rfl ?_
          exact ih _ _ _ _ _ _ _ _ _ _ hf hk
  show yG p l e (headSpec wsX5_testOf rmX5_testOf).room s m (List.toArray [.ref h_t]) below meth c D (va_A [(h_t, oR A_t c_t_many c_t_below c_t_above1 c_t_below1), (A_t 0, eI cI 242 c_t_now), (A_t 2, eI cI 6 c_t_heapOf), (A_t 7, eJ cJ 6 c_t_force)] sz) 4 0 0 (MQ below (yQl D (yT cI cJ cZ cW cR) r [(h_t, oR A_t c_t_many c_t_below c_t_above1 c_t_below1), (A_t 0, eI cI 242 c_t_now), (A_t 2, eI cI 6 c_t_heapOf), (A_t 7, eJ cJ 6 c_t_force)] (va_A [(h_t, oR A_t c_t_many c_t_below c_t_above1 c_t_below1), (A_t 0, eI cI 242 c_t_now), (A_t 2, eI cI 6 c_t_heapOf), (A_t 7, eJ cJ 6 c_t_force)] sz)) (List.toArray [.ref h_t]) s 0 0 (va_A [(h_t, oR A_t c_t_many c_t_below c_t_above1 c_t_below1), (A_t 0, eI cI 242 c_t_now), (A_t 2, eI cI 6 c_t_heapOf), (A_t 7, eJ cJ 6 c_t_force)] sz)) 0 [(0, .ref h_t)] [] [(h_t, oR A_t c_t_many c_t_below c_t_above1 c_t_below1), (A_t 0, eI cI 242 c_t_now), (A_t 2, eI cI 6 c_t_heapOf), (A_t 7, eJ cJ 6 c_t_force)]
  unfold fX5_testOf at hf
  refine g_lconst (v := 0) Γ dX5_testOf_0 (by decide) ?_
  refine g_lstore_n (lv' := [(1, .long 0), (0, .ref h_t)]) Γ dX5_testOf_1 (by decide) rfl ?_
  refine g_iconst (v := 0) Γ dX5_testOf_2 (by decide) ?_
  refine g_istore_n (lv' := [(3, .int 0), (1, .long 0), (0, .ref h_t)]) Γ dX5_testOf_3 (by decide) rfl ?_
  obtain ⟨v27, e28, hf⟩ := ya_ob hf
  refine g_lv [2, 1, 0] rfl ?_
  refine loop4 N _ _ _ _ _ _ _ _ _ _ e28  ?_
  refine g_lload_n Γ 0 dX5_testOf_70 rfl ?_
  cases hf
  exact g_lret Γ hr dX5_testOf_71 [0, 1, 2, 3] rfl rfl

set_option maxRecDepth 20000 in
theorem ggX5_test_X5_isWhat : GoodIn wsX5_test wsX5_isWhat := goodIn_r _ [6] rfl (by decide +kernel)
set_option maxRecDepth 20000 in
theorem gX5_test_X5_isWhat : GoodIn wsX5_test (va_wsS RX5 114 yX5_isWhat wsX5_isWhat) := goodIn_app (goodIn_of _ (by decide +kernel)) ggX5_test_X5_isWhat
set_option maxRecDepth 20000 in
theorem ggX5_test_X5_solves : GoodIn wsX5_test wsX5_solves := goodIn_r _ [10, 11, 12, 13, 14, 15, 16, 2, 17, 18, 19, 20, 5, 21, 22, 23, 24, 25, 26, 27, 28, 29, 30, 31, 32, 33, 34, 35, 36, 37, 38, 39, 40, 41, 42, 43, 44, 45, 46, 57, 58, 59, 60, 61, 62, 63, 64, 65, 66, 67, 68, 69, 70, 71, 72, 73, 74, 75] rfl (by decide +kernel)
set_option maxRecDepth 20000 in
theorem gX5_test_X5_solves : GoodIn wsX5_test (wsV RX5 117 RX5 yX5_solves wsX5_solves) := goodIn_app (goodIn_of _ (by decide +kernel)) ggX5_test_X5_solves
set_option maxRecDepth 20000 in
theorem ggX5_test_X5_testOf : GoodIn wsX5_test wsX5_testOf := goodIn_r _ [50, 17, 12, 22, 23, 24, 5, 25, 26, 27, 28, 29, 30, 31, 32, 33, 34, 57, 58, 59, 60, 61, 62, 63, 64, 65, 66, 67, 68, 69, 70, 71, 72, 73, 74, 75] rfl (by decide +kernel)
set_option maxRecDepth 20000 in
theorem gX5_test_X5_testOf : GoodIn wsX5_test (wsV RX5 128 RX5 yX5_testOf wsX5_testOf) := goodIn_app (goodIn_of _ (by decide +kernel)) ggX5_test_X5_testOf
set_option maxRecDepth 20000 in
theorem ggX5_test_X5_told : GoodIn wsX5_test wsX5_told := goodIn_r _ [53, 1, 54, 55, 5, 56] rfl (by decide +kernel)
set_option maxRecDepth 20000 in
theorem gX5_test_X5_told : GoodIn wsX5_test (va_wsS RX5 124 yX5_told wsX5_told) := goodIn_app (goodIn_of _ (by decide +kernel)) ggX5_test_X5_told
theorem dX5_test_0 : decode cX5_test 0 = .ok (.iload_n 1, 1) := by decide +kernel
theorem dX5_test_1 : decode cX5_test 1 = .ok (.invokestatic 114, 3) := by decide +kernel
theorem dX5_test_4 : decode cX5_test 4 = .ok (.ifCond .ne 7, 3) := by decide +kernel
theorem dX5_test_7 : decode cX5_test 7 = .ok (.ldc2_w 112, 3) := by decide +kernel
theorem dX5_test_10 : decode cX5_test 10 = .ok (.lreturn, 1) := by decide +kernel
theorem dX5_test_11 : decode cX5_test 11 = .ok (.aload_n 0, 1) := by decide +kernel
theorem dX5_test_12 : decode cX5_test 12 = .ok (.invokevirtual 117, 3) := by decide +kernel
theorem dX5_test_15 : decode cX5_test 15 = .ok (.aload_n 0, 1) := by decide +kernel
theorem dX5_test_16 : decode cX5_test 16 = .ok (.invokevirtual 128, 3) := by decide +kernel
theorem dX5_test_19 : decode cX5_test 19 = .ok (.aload_n 0, 1) := by decide +kernel
theorem dX5_test_20 : decode cX5_test 20 = .ok (.getfield 104, 3) := by decide +kernel
theorem dX5_test_23 : decode cX5_test 23 = .ok (.iload_n 1, 1) := by decide +kernel
theorem dX5_test_24 : decode cX5_test 24 = .ok (.invokestatic 124, 3) := by decide +kernel
theorem dX5_test_27 : decode cX5_test 27 = .ok (.lreturn, 1) := by decide +kernel
/-! ===== FlowMetersModel.test(I)J ===== -/
def fX5_test (N : Nat) (c_t_below : Int64) (c_t_now : Nat → Int32) (c_t_heapOf : Nat → Int32) (c_t_partOf : Nat → Int32) (c_t_place : Nat → Int32) (c_t_matrix : Nat → Int64) (c_t_right : Nat → Int64) (c_t_force : Nat → Int64) (c_t_work : Nat → Int64) (x1 : Int32) : Option (Int64 × Int64 × (Nat → Int32) × (Nat → Int32) × (Nat → Int32) × (Nat → Int64) × (Nat → Int64) × (Nat → Int64) × (Nat → Int64)) :=
  (fX5_isWhat x1).bind fun v1 =>
  (if v1 = 0 then
    some ((-1), c_t_below, c_t_heapOf, c_t_partOf, c_t_place, c_t_matrix, c_t_right, c_t_force, c_t_work)
  else
    (fX5_solves N c_t_below c_t_now c_t_heapOf c_t_partOf c_t_place c_t_matrix c_t_right c_t_force c_t_work).bind fun (v4, v5, v6, v7, v8, v9, v10, v11) =>
    (fX5_testOf N c_t_now v5 v10).bind fun v13 =>
    (fX5_told N v13 v4 x1).bind fun v15 =>
    some (v15, v4, v5, v6, v7, v8, v9, v10, v11))
theorem fX5_test_104 : yF wsX5_test RX5 104 5 10 RX5 TX5 19 := ⟨rfl, by decide, by decide +kernel, by decide +kernel⟩
abbrev rmX5_test : Room := { frames := 9, cells := 0, slots := 0, locals := 336 }
theorem eX5_test : yY yX5_test wsX5_test cX5_test 2 (some .long) rmX5_test 1 := ⟨⟨_, rfl⟩, rfl, rfl, by decide, by decide, by decide +kernel⟩
set_option maxHeartbeats 4000000 in
set_option maxRecDepth 100000 in
theorem mX5_test {l : Launch} {D : va_G} {sz : Nat} {cI cJ cZ cW cR : ClassId} {N : Nat} {h_t : Nat} {A_t : Nat → Nat} {c_t_many : Int32} {c_t_below : Int64} {c_t_above1 : Int64} {c_t_below1 : Int64} {c_t_now : Nat → Int32} {c_t_heapOf : Nat → Int32} {c_t_partOf : Nat → Int32} {c_t_place : Nat → Int32} {c_t_matrix : Nat → Int64} {c_t_right : Nat → Int64} {c_t_force : Nat → Int64} {c_t_work : Nat → Int64} {x1 : Int32} {r : Int64} {zc_t_below : Int64} {zc_t_heapOf : Nat → Int32} {zc_t_partOf : Nat → Int32} {zc_t_place : Nat → Int32} {zc_t_matrix : Nat → Int64} {zc_t_right : Nat → Int64} {zc_t_force : Nat → Int64} {zc_t_work : Nat → Int64} (hf : fX5_test N c_t_below c_t_now c_t_heapOf c_t_partOf c_t_place c_t_matrix c_t_right c_t_force c_t_work x1 = some (r, zc_t_below, zc_t_heapOf, zc_t_partOf, zc_t_place, zc_t_matrix, zc_t_right, zc_t_force, zc_t_work)) : Met l yX5_test wsX5_test rmX5_test (yP D (yT cI cJ cZ cW cR) [(h_t, oR A_t c_t_many c_t_below c_t_above1 c_t_below1), (A_t 0, eI cI 242 c_t_now), (A_t 2, eI cI 6 c_t_heapOf), (A_t 3, eI cI 6 c_t_partOf), (A_t 4, eI cI 6 c_t_place), (A_t 5, eJ cJ 36 c_t_matrix), (A_t 6, eJ cJ 6 c_t_right), (A_t 7, eJ cJ 6 c_t_force), (A_t 8, eJ cJ 216 c_t_work)] sz [.ref h_t, .int x1]) (yQl D (yT cI cJ cZ cW cR) r [(h_t, oR A_t c_t_many zc_t_below c_t_above1 c_t_below1), (A_t 0, eI cI 242 c_t_now), (A_t 2, eI cI 6 zc_t_heapOf), (A_t 3, eI cI 6 zc_t_partOf), (A_t 4, eI cI 6 zc_t_place), (A_t 5, eJ cJ 36 zc_t_matrix), (A_t 6, eJ cJ 6 zc_t_right), (A_t 7, eJ cJ 6 zc_t_force), (A_t 8, eJ cJ 216 zc_t_work)] (va_A [(h_t, oR A_t c_t_many c_t_below c_t_above1 c_t_below1), (A_t 0, eI cI 242 c_t_now), (A_t 2, eI cI 6 c_t_heapOf), (A_t 3, eI cI 6 c_t_partOf), (A_t 4, eI cI 6 c_t_place), (A_t 5, eJ cJ 36 c_t_matrix), (A_t 6, eJ cJ 6 c_t_right), (A_t 7, eJ cJ 6 c_t_force), (A_t 8, eJ cJ 216 c_t_work)] sz)) 0 0 (va_A [(h_t, oR A_t c_t_many c_t_below c_t_above1 c_t_below1), (A_t 0, eI cI 242 c_t_now), (A_t 2, eI cI 6 c_t_heapOf), (A_t 3, eI cI 6 c_t_partOf), (A_t 4, eI cI 6 c_t_place), (A_t 5, eJ cJ 36 c_t_matrix), (A_t 6, eJ cJ 6 c_t_right), (A_t 7, eJ cJ 6 c_t_force), (A_t 8, eJ cJ 216 c_t_work)] sz) := by
  refine yM (cc := cX5_test) (maxL := 2) (ret := (some .long)) RX5 (by decide) rfl rfl (Nat.le_of_ble_eq_true rfl) ?_
  intro p e s m below meth c Γ hr
  show yG p l e (headSpec wsX5_test rmX5_test).room s m (List.toArray [.ref h_t, .int x1]) below meth c D (va_A [(h_t, oR A_t c_t_many c_t_below c_t_above1 c_t_below1), (A_t 0, eI cI 242 c_t_now), (A_t 2, eI cI 6 c_t_heapOf), (A_t 3, eI cI 6 c_t_partOf), (A_t 4, eI cI 6 c_t_place), (A_t 5, eJ cJ 36 c_t_matrix), (A_t 6, eJ cJ 6 c_t_right), (A_t 7, eJ cJ 6 c_t_force), (A_t 8, eJ cJ 216 c_t_work)] sz) 2 0 0 (MQ below (yQl D (yT cI cJ cZ cW cR) r [(h_t, oR A_t c_t_many zc_t_below c_t_above1 c_t_below1), (A_t 0, eI cI 242 c_t_now), (A_t 2, eI cI 6 zc_t_heapOf), (A_t 3, eI cI 6 zc_t_partOf), (A_t 4, eI cI 6 zc_t_place), (A_t 5, eJ cJ 36 zc_t_matrix), (A_t 6, eJ cJ 6 zc_t_right), (A_t 7, eJ cJ 6 zc_t_force), (A_t 8, eJ cJ 216 zc_t_work)] (va_A [(h_t, oR A_t c_t_many c_t_below c_t_above1 c_t_below1), (A_t 0, eI cI 242 c_t_now), (A_t 2, eI cI 6 c_t_heapOf), (A_t 3, eI cI 6 c_t_partOf), (A_t 4, eI cI 6 c_t_place), (A_t 5, eJ cJ 36 c_t_matrix), (A_t 6, eJ cJ 6 c_t_right), (A_t 7, eJ cJ 6 c_t_force), (A_t 8, eJ cJ 216 c_t_work)] sz)) (List.toArray [.ref h_t, .int x1]) s 0 0 (va_A [(h_t, oR A_t c_t_many c_t_below c_t_above1 c_t_below1), (A_t 0, eI cI 242 c_t_now), (A_t 2, eI cI 6 c_t_heapOf), (A_t 3, eI cI 6 c_t_partOf), (A_t 4, eI cI 6 c_t_place), (A_t 5, eJ cJ 36 c_t_matrix), (A_t 6, eJ cJ 6 c_t_right), (A_t 7, eJ cJ 6 c_t_force), (A_t 8, eJ cJ 216 c_t_work)] sz)) 0 [(0, .ref h_t), (1, .int x1)] [] [(h_t, oR A_t c_t_many c_t_below c_t_above1 c_t_below1), (A_t 0, eI cI 242 c_t_now), (A_t 2, eI cI 6 c_t_heapOf), (A_t 3, eI cI 6 c_t_partOf), (A_t 4, eI cI 6 c_t_place), (A_t 5, eJ cJ 36 c_t_matrix), (A_t 6, eJ cJ 6 c_t_right), (A_t 7, eJ cJ 6 c_t_force), (A_t 8, eJ cJ 216 c_t_work)]
  unfold fX5_test at hf
  refine g_iload_n Γ 1 dX5_test_0 rfl ?_
  obtain ⟨v1, e2, hf⟩ := ya_ob hf
  refine g_si (wr := [(h_t, oR A_t c_t_many c_t_below c_t_above1 c_t_below1), (A_t 0, eI cI 242 c_t_now), (A_t 2, eI cI 6 c_t_heapOf), (A_t 3, eI cI 6 c_t_partOf), (A_t 4, eI cI 6 c_t_place), (A_t 5, eJ cJ 36 c_t_matrix), (A_t 6, eJ cJ 6 c_t_right), (A_t 7, eJ cJ 6 c_t_force), (A_t 8, eJ cJ 216 c_t_work)]) (ws' := [(h_t, oR A_t c_t_many c_t_below c_t_above1 c_t_below1), (A_t 0, eI cI 242 c_t_now), (A_t 2, eI cI 6 c_t_heapOf), (A_t 3, eI cI 6 c_t_partOf), (A_t 4, eI cI 6 c_t_place), (A_t 5, eJ cJ 36 c_t_matrix), (A_t 6, eJ cJ 6 c_t_right), (A_t 7, eJ cJ 6 c_t_force), (A_t 8, eJ cJ 216 c_t_work)]) Γ (fun sz => mX5_isWhat (l := l) (D := D) (sz := sz) (cI := cI) (cJ := cJ) (cZ := cZ) (cW := cW) (cR := cR)  (hf := e2)) eX5_isWhat ggX5_test_X5_isWhat (by decide +kernel) (by decide +kernel) (by decide +kernel) rfl rfl (Nat.le_of_ble_eq_true rfl) ⟨Nat.le_of_ble_eq_true rfl, Nat.le_of_ble_eq_true rfl⟩ dX5_test_1 [] [0, 1, 2, 3, 4, 5, 6, 7, 8] rfl rfl rfl rfl (by decide) rfl ?_
  refine g_if_ne Γ 11 dX5_test_4 (by decide) (fun c3 => ?_) (fun c3 => ?_)
  · have hf := ya_if2 c3 hf
    refine g_aload_n Γ 0 dX5_test_11 rfl ?_
    obtain ⟨⟨v4, v5, v6, v7, v8, v9, v10, v11⟩, e12, hf⟩ := ya_ob hf
    refine g_vv (q := (RX5, TX5, 19)) (wr := []) (ws' := [(h_t, oR A_t c_t_many v4 c_t_above1 c_t_below1), (A_t 0, eI cI 242 c_t_now), (A_t 2, eI cI 6 v5), (A_t 3, eI cI 6 v6), (A_t 4, eI cI 6 v7), (A_t 5, eJ cJ 36 v8), (A_t 6, eJ cJ 6 v9), (A_t 7, eJ cJ 6 v10), (A_t 8, eJ cJ 216 v11)]) Γ (fun sz => mX5_solves (l := l) (D := D) (sz := sz) (cI := cI) (cJ := cJ) (cZ := cZ) (cW := cW) (cR := cR) (h_t := h_t) (A_t := A_t) (hf := e12)) eX5_solves gX5_test_X5_solves rfl rfl 0 rfl rfl rfl (Nat.le_of_ble_eq_true rfl) ⟨Nat.le_of_ble_eq_true rfl, Nat.le_of_ble_eq_true rfl⟩ dX5_test_12 [0, 1, 2, 3, 4, 5, 6, 7, 8] [] rfl rfl rfl rfl (by decide) rfl ?_
    refine g_aload_n Γ 0 dX5_test_15 rfl ?_
    obtain ⟨v13, e14, hf⟩ := ya_ob hf
    refine g_vl (q := (RX5, TX5, 19)) (wr := [(A_t 3, eI cI 6 v6), (A_t 4, eI cI 6 v7), (A_t 5, eJ cJ 36 v8), (A_t 6, eJ cJ 6 v9), (A_t 8, eJ cJ 216 v11)]) (ws' := [(A_t 3, eI cI 6 v6), (A_t 4, eI cI 6 v7), (A_t 5, eJ cJ 36 v8), (A_t 6, eJ cJ 6 v9), (A_t 8, eJ cJ 216 v11), (h_t, oR A_t c_t_many v4 c_t_above1 c_t_below1), (A_t 0, eI cI 242 c_t_now), (A_t 2, eI cI 6 v5), (A_t 7, eJ cJ 6 v10)]) Γ (fun sz => mX5_testOf (l := l) (D := D) (sz := sz) (cI := cI) (cJ := cJ) (cZ := cZ) (cW := cW) (cR := cR) (h_t := h_t) (A_t := A_t) (hf := e14)) eX5_testOf gX5_test_X5_testOf rfl rfl 0 rfl rfl rfl (Nat.le_of_ble_eq_true rfl) ⟨Nat.le_of_ble_eq_true rfl, Nat.le_of_ble_eq_true rfl⟩ dX5_test_16 [0, 1, 2, 7] [3, 4, 5, 6, 8] rfl rfl rfl rfl (by decide) rfl ?_
    refine g_aload_n Γ 0 dX5_test_19 rfl ?_
    refine g_get Γ fX5_test_104 5 rfl rfl dX5_test_20 ?_
    refine g_iload_n Γ 1 dX5_test_23 rfl ?_
    obtain ⟨v15, e16, hf⟩ := ya_ob hf
    refine g_sl (wr := [(A_t 3, eI cI 6 v6), (A_t 4, eI cI 6 v7), (A_t 5, eJ cJ 36 v8), (A_t 6, eJ cJ 6 v9), (A_t 8, eJ cJ 216 v11), (h_t, oR A_t c_t_many v4 c_t_above1 c_t_below1), (A_t 0, eI cI 242 c_t_now), (A_t 2, eI cI 6 v5), (A_t 7, eJ cJ 6 v10)]) (ws' := [(A_t 3, eI cI 6 v6), (A_t 4, eI cI 6 v7), (A_t 5, eJ cJ 36 v8), (A_t 6, eJ cJ 6 v9), (A_t 8, eJ cJ 216 v11), (h_t, oR A_t c_t_many v4 c_t_above1 c_t_below1), (A_t 0, eI cI 242 c_t_now), (A_t 2, eI cI 6 v5), (A_t 7, eJ cJ 6 v10)]) Γ (fun sz => mX5_told (l := l) (D := D) (sz := sz) (cI := cI) (cJ := cJ) (cZ := cZ) (cW := cW) (cR := cR)  (hf := e16)) eX5_told ggX5_test_X5_told (by decide +kernel) (by decide +kernel) (by decide +kernel) rfl rfl (Nat.le_of_ble_eq_true rfl) ⟨Nat.le_of_ble_eq_true rfl, Nat.le_of_ble_eq_true rfl⟩ dX5_test_24 [] [0, 1, 2, 3, 4, 5, 6, 7, 8] rfl rfl rfl rfl (by decide) rfl ?_
    cases hf
    exact g_lret Γ hr dX5_test_27 [5, 6, 7, 0, 1, 2, 3, 8, 4] rfl rfl
  · have hf := ya_if1 c3 hf
    refine g_ldc2 (v := (-1)) Γ dX5_test_7 (by decide +kernel) ?_
    cases hf
    exact g_lret Γ hr dX5_test_10 [0, 1, 2, 3, 4, 5, 6, 7, 8] rfl rfl

set_option maxRecDepth 20000 in
theorem ggX5_sides_X5_flows : GoodIn wsX5_sides wsX5_flows := goodIn_r _ [6, 7, 16, 17, 18, 19, 20, 21, 22, 23, 24, 25, 26, 27, 28, 29, 30, 31, 32, 33, 34] rfl (by decide +kernel)
set_option maxRecDepth 20000 in
theorem gX5_sides_X5_flows : GoodIn wsX5_sides (wsV RX5 57 RX5 yX5_flows wsX5_flows) := goodIn_app (goodIn_of _ (by decide +kernel)) ggX5_sides_X5_flows
set_option maxRecDepth 20000 in
theorem ggX5_sides_X5_isRead : GoodIn wsX5_sides wsX5_isRead := goodIn_r _ [11, 12, 13, 14, 5, 15, 7, 16, 17, 18, 19, 20, 21, 22, 23, 24, 25, 26, 27, 28, 29, 30, 31, 32, 33, 34] rfl (by decide +kernel)
set_option maxRecDepth 20000 in
theorem gX5_sides_X5_isRead : GoodIn wsX5_sides (wsV RX5 91 RX5 yX5_isRead wsX5_isRead) := goodIn_app (goodIn_of _ (by decide +kernel)) ggX5_sides_X5_isRead
set_option maxRecDepth 20000 in
theorem ggX5_sides_X5_get : GoodIn wsX5_sides wsX5_get := goodIn_r _ [15, 7, 16, 17, 18, 19, 20, 21, 22, 23, 24, 25, 26, 27, 28, 29, 30, 31, 32, 33, 34] rfl (by decide +kernel)
set_option maxRecDepth 20000 in
theorem gX5_sides_X5_get : GoodIn wsX5_sides (wsV RX5 86 RX5 yX5_get wsX5_get) := goodIn_app (goodIn_of _ (by decide +kernel)) ggX5_sides_X5_get
theorem dX5_sides_0 : decode cX5_sides 0 = .ok (.iconst 0, 1) := by decide +kernel
theorem dX5_sides_1 : decode cX5_sides 1 = .ok (.istore_n 3, 1) := by decide +kernel
theorem dX5_sides_2 : decode cX5_sides 2 = .ok (.iload_n 3, 1) := by decide +kernel
theorem dX5_sides_3 : decode cX5_sides 3 = .ok (.bipush 6, 2) := by decide +kernel
theorem dX5_sides_5 : decode cX5_sides 5 = .ok (.if_icmp .ge 25, 3) := by decide +kernel
theorem dX5_sides_8 : decode cX5_sides 8 = .ok (.aload_n 0, 1) := by decide +kernel
theorem dX5_sides_9 : decode cX5_sides 9 = .ok (.getfield 38, 3) := by decide +kernel
theorem dX5_sides_12 : decode cX5_sides 12 = .ok (.iload_n 3, 1) := by decide +kernel
theorem dX5_sides_13 : decode cX5_sides 13 = .ok (.iload_n 3, 1) := by decide +kernel
theorem dX5_sides_14 : decode cX5_sides 14 = .ok (.iload_n 1, 1) := by decide +kernel
theorem dX5_sides_15 : decode cX5_sides 15 = .ok (.if_icmp .ne 7, 3) := by decide +kernel
theorem dX5_sides_18 : decode cX5_sides 18 = .ok (.iconst 1, 1) := by decide +kernel
theorem dX5_sides_19 : decode cX5_sides 19 = .ok (.goto 4, 3) := by decide +kernel
theorem dX5_sides_22 : decode cX5_sides 22 = .ok (.iconst 0, 1) := by decide +kernel
theorem dX5_sides_23 : decode cX5_sides 23 = .ok (.bastore, 1) := by decide +kernel
theorem dX5_sides_24 : decode cX5_sides 24 = .ok (.iinc 3 1, 3) := by decide +kernel
theorem dX5_sides_27 : decode cX5_sides 27 = .ok (.goto (-25), 3) := by decide +kernel
theorem dX5_sides_30 : decode cX5_sides 30 = .ok (.iconst 0, 1) := by decide +kernel
theorem dX5_sides_31 : decode cX5_sides 31 = .ok (.istore_n 3, 1) := by decide +kernel
theorem dX5_sides_32 : decode cX5_sides 32 = .ok (.iload_n 3, 1) := by decide +kernel
theorem dX5_sides_33 : decode cX5_sides 33 = .ok (.bipush 6, 2) := by decide +kernel
theorem dX5_sides_35 : decode cX5_sides 35 = .ok (.if_icmp .ge 110, 3) := by decide +kernel
theorem dX5_sides_38 : decode cX5_sides 38 = .ok (.iconst 0, 1) := by decide +kernel
theorem dX5_sides_39 : decode cX5_sides 39 = .ok (.istore 4, 2) := by decide +kernel
theorem dX5_sides_41 : decode cX5_sides 41 = .ok (.iload 4, 2) := by decide +kernel
theorem dX5_sides_43 : decode cX5_sides 43 = .ok (.aload_n 0, 1) := by decide +kernel
theorem dX5_sides_44 : decode cX5_sides 44 = .ok (.invokevirtual 57, 3) := by decide +kernel
theorem dX5_sides_47 : decode cX5_sides 47 = .ok (.if_icmp .ge 92, 3) := by decide +kernel
theorem dX5_sides_50 : decode cX5_sides 50 = .ok (.aload_n 0, 1) := by decide +kernel
theorem dX5_sides_51 : decode cX5_sides 51 = .ok (.iload 4, 2) := by decide +kernel
theorem dX5_sides_53 : decode cX5_sides 53 = .ok (.invokevirtual 91, 3) := by decide +kernel
theorem dX5_sides_56 : decode cX5_sides 56 = .ok (.ifCond .ne 77, 3) := by decide +kernel
theorem dX5_sides_59 : decode cX5_sides 59 = .ok (.iload 4, 2) := by decide +kernel
theorem dX5_sides_61 : decode cX5_sides 61 = .ok (.iload_n 2, 1) := by decide +kernel
theorem dX5_sides_62 : decode cX5_sides 62 = .ok (.if_icmp .ne 6, 3) := by decide +kernel
theorem dX5_sides_65 : decode cX5_sides 65 = .ok (.goto 68, 3) := by decide +kernel
theorem dX5_sides_68 : decode cX5_sides 68 = .ok (.aload_n 0, 1) := by decide +kernel
theorem dX5_sides_69 : decode cX5_sides 69 = .ok (.getfield 38, 3) := by decide +kernel
theorem dX5_sides_72 : decode cX5_sides 72 = .ok (.aload_n 0, 1) := by decide +kernel
theorem dX5_sides_73 : decode cX5_sides 73 = .ok (.iload 4, 2) := by decide +kernel
theorem dX5_sides_75 : decode cX5_sides 75 = .ok (.iconst 0, 1) := by decide +kernel
theorem dX5_sides_76 : decode cX5_sides 76 = .ok (.invokevirtual 86, 3) := by decide +kernel
theorem dX5_sides_79 : decode cX5_sides 79 = .ok (.baload, 1) := by decide +kernel
theorem dX5_sides_80 : decode cX5_sides 80 = .ok (.ifCond .ne 18, 3) := by decide +kernel
theorem dX5_sides_83 : decode cX5_sides 83 = .ok (.aload_n 0, 1) := by decide +kernel
theorem dX5_sides_84 : decode cX5_sides 84 = .ok (.getfield 38, 3) := by decide +kernel
theorem dX5_sides_87 : decode cX5_sides 87 = .ok (.aload_n 0, 1) := by decide +kernel
theorem dX5_sides_88 : decode cX5_sides 88 = .ok (.iload 4, 2) := by decide +kernel
theorem dX5_sides_90 : decode cX5_sides 90 = .ok (.iconst 1, 1) := by decide +kernel
theorem dX5_sides_91 : decode cX5_sides 91 = .ok (.invokevirtual 86, 3) := by decide +kernel
theorem dX5_sides_94 : decode cX5_sides 94 = .ok (.baload, 1) := by decide +kernel
theorem dX5_sides_95 : decode cX5_sides 95 = .ok (.ifCond .eq 7, 3) := by decide +kernel
theorem dX5_sides_98 : decode cX5_sides 98 = .ok (.iconst 1, 1) := by decide +kernel
theorem dX5_sides_99 : decode cX5_sides 99 = .ok (.goto 4, 3) := by decide +kernel
theorem dX5_sides_102 : decode cX5_sides 102 = .ok (.iconst 0, 1) := by decide +kernel
theorem dX5_sides_103 : decode cX5_sides 103 = .ok (.istore 5, 2) := by decide +kernel
theorem dX5_sides_105 : decode cX5_sides 105 = .ok (.aload_n 0, 1) := by decide +kernel
theorem dX5_sides_106 : decode cX5_sides 106 = .ok (.getfield 38, 3) := by decide +kernel
theorem dX5_sides_109 : decode cX5_sides 109 = .ok (.aload_n 0, 1) := by decide +kernel
theorem dX5_sides_110 : decode cX5_sides 110 = .ok (.iload 4, 2) := by decide +kernel
theorem dX5_sides_112 : decode cX5_sides 112 = .ok (.iconst 0, 1) := by decide +kernel
theorem dX5_sides_113 : decode cX5_sides 113 = .ok (.invokevirtual 86, 3) := by decide +kernel
theorem dX5_sides_116 : decode cX5_sides 116 = .ok (.iload 5, 2) := by decide +kernel
theorem dX5_sides_118 : decode cX5_sides 118 = .ok (.bastore, 1) := by decide +kernel
theorem dX5_sides_119 : decode cX5_sides 119 = .ok (.aload_n 0, 1) := by decide +kernel
theorem dX5_sides_120 : decode cX5_sides 120 = .ok (.getfield 38, 3) := by decide +kernel
theorem dX5_sides_123 : decode cX5_sides 123 = .ok (.aload_n 0, 1) := by decide +kernel
theorem dX5_sides_124 : decode cX5_sides 124 = .ok (.iload 4, 2) := by decide +kernel
theorem dX5_sides_126 : decode cX5_sides 126 = .ok (.iconst 1, 1) := by decide +kernel
theorem dX5_sides_127 : decode cX5_sides 127 = .ok (.invokevirtual 86, 3) := by decide +kernel
theorem dX5_sides_130 : decode cX5_sides 130 = .ok (.iload 5, 2) := by decide +kernel
theorem dX5_sides_132 : decode cX5_sides 132 = .ok (.bastore, 1) := by decide +kernel
theorem dX5_sides_133 : decode cX5_sides 133 = .ok (.iinc 4 1, 3) := by decide +kernel
theorem dX5_sides_136 : decode cX5_sides 136 = .ok (.goto (-95), 3) := by decide +kernel
theorem dX5_sides_139 : decode cX5_sides 139 = .ok (.iinc 3 1, 3) := by decide +kernel
theorem dX5_sides_142 : decode cX5_sides 142 = .ok (.goto (-110), 3) := by decide +kernel
theorem dX5_sides_145 : decode cX5_sides 145 = .ok (.return_, 1) := by decide +kernel
/-! ===== FlowMetersModel.sides(II)V ===== -/
def fX5_sides_L2 (N : Nat) (n : Nat) (y1 : Int32) (y2 : Int32) (y3 : Int32) (d_t_side : Nat → Int32) : Option (Nat → Int32) := match n with
  | 0 => none
  | n + 1 =>
    (if 6 ≤ y3 then
        some d_t_side
      else
        (if y3 = y1 then
          (ya_wr d_t_side 6 y3 (vp_nar .boolean 1)).bind fun v7 =>
          ya_lt (y3 + 1) fun v9 =>
          fX5_sides_L2 N n y1 y2 v9 v7
        else
          (ya_wr d_t_side 6 y3 (vp_nar .boolean 0)).bind fun v3 =>
          ya_lt (y3 + 1) fun v5 =>
          fX5_sides_L2 N n y1 y2 v5 v3))
def fX5_sides_L41 (N : Nat) (n : Nat) (y2 : Int32) (y3 : Int32) (y4 : Int32) (d_t_now : Nat → Int32) (d_t_side : Nat → Int32) : Option (Nat → Int32) := match n with
  | 0 => none
  | n + 1 =>
    (fX5_flows d_t_now).bind fun v14 =>
      (if v14 ≤ y4 then
        some d_t_side
      else
        (fX5_isRead d_t_now y4).bind fun v17 =>
        (if v17 = 0 then
          (if y4 = y2 then
            ya_lt (y4 + 1) fun v63 =>
            fX5_sides_L41 N n y2 y3 v63 d_t_now d_t_side
          else
            (fX5_get d_t_now y4 0).bind fun v23 =>
            (ya_rd d_t_side 6 v23).bind fun v25 =>
            (if v25 = 0 then
              (fX5_get d_t_now y4 1).bind fun v38 =>
              (ya_rd d_t_side 6 v38).bind fun v40 =>
              (if v40 = 0 then
                (fX5_get d_t_now y4 0).bind fun v43 =>
                (ya_wr d_t_side 6 v43 (vp_nar .boolean 0)).bind fun v45 =>
                (fX5_get d_t_now y4 1).bind fun v47 =>
                (ya_wr v45 6 v47 (vp_nar .boolean 0)).bind fun v49 =>
                ya_lt (y4 + 1) fun v51 =>
                fX5_sides_L41 N n y2 y3 v51 d_t_now v49
              else
                (fX5_get d_t_now y4 0).bind fun v53 =>
                (ya_wr d_t_side 6 v53 (vp_nar .boolean 1)).bind fun v55 =>
                (fX5_get d_t_now y4 1).bind fun v57 =>
                (ya_wr v55 6 v57 (vp_nar .boolean 1)).bind fun v59 =>
                ya_lt (y4 + 1) fun v61 =>
                fX5_sides_L41 N n y2 y3 v61 d_t_now v59)
            else
              (fX5_get d_t_now y4 0).bind fun v28 =>
              (ya_wr d_t_side 6 v28 (vp_nar .boolean 1)).bind fun v30 =>
              (fX5_get d_t_now y4 1).bind fun v32 =>
              (ya_wr v30 6 v32 (vp_nar .boolean 1)).bind fun v34 =>
              ya_lt (y4 + 1) fun v36 =>
              fX5_sides_L41 N n y2 y3 v36 d_t_now v34))
        else
          ya_lt (y4 + 1) fun v20 =>
          fX5_sides_L41 N n y2 y3 v20 d_t_now d_t_side))
def fX5_sides_L32 (N : Nat) (n : Nat) (y2 : Int32) (y3 : Int32) (d_t_now : Nat → Int32) (d_t_side : Nat → Int32) : Option (Nat → Int32) := match n with
  | 0 => none
  | n + 1 =>
    (if 6 ≤ y3 then
        some d_t_side
      else
        (fX5_sides_L41 N N y2 y3 0 d_t_now d_t_side).bind fun v65 =>
        ya_lt (y3 + 1) fun v67 =>
        fX5_sides_L32 N n y2 v67 d_t_now v65)
def fX5_sides (N : Nat) (c_t_now : Nat → Int32) (c_t_side : Nat → Int32) (x1 : Int32) (x2 : Int32) : Option (Nat → Int32) :=
  (fX5_sides_L2 N N x1 x2 0 c_t_side).bind fun v11 =>
  (fX5_sides_L32 N N x2 0 c_t_now v11).bind fun v69 =>
  some v69
theorem fX5_sides_38 : yF wsX5_sides RX5 38 5 11 RX5 TX5 19 := ⟨rfl, by decide, by decide +kernel, by decide +kernel⟩
abbrev rmX5_sides : Room := { frames := 2, cells := 0, slots := 0, locals := 43 }
theorem eX5_sides : yY yX5_sides wsX5_sides cX5_sides 6 none rmX5_sides 2 := ⟨⟨_, rfl⟩, rfl, rfl, by decide, by decide, by decide +kernel⟩
set_option maxHeartbeats 4000000 in
set_option maxRecDepth 100000 in
theorem mX5_sides {l : Launch} {D : va_G} {sz : Nat} {cI cJ cZ cW cR : ClassId} {N : Nat} {h_t : Nat} {A_t : Nat → Nat} {c_t_many : Int32} {c_t_below : Int64} {c_t_above1 : Int64} {c_t_below1 : Int64} {c_t_now : Nat → Int32} {c_t_side : Nat → Int32} {x1 : Int32} {x2 : Int32} {zc_t_side : Nat → Int32} (hf : fX5_sides N c_t_now c_t_side x1 x2 = some zc_t_side) : Met l yX5_sides wsX5_sides rmX5_sides (yP D (yT cI cJ cZ cW cR) [(h_t, oR A_t c_t_many c_t_below c_t_above1 c_t_below1), (A_t 0, eI cI 242 c_t_now), (A_t 9, eI cZ 6 c_t_side)] sz [.ref h_t, .int x1, .int x2]) (yQv D (yT cI cJ cZ cW cR) [(h_t, oR A_t c_t_many c_t_below c_t_above1 c_t_below1), (A_t 0, eI cI 242 c_t_now), (A_t 9, eI cZ 6 zc_t_side)] (va_A [(h_t, oR A_t c_t_many c_t_below c_t_above1 c_t_below1), (A_t 0, eI cI 242 c_t_now), (A_t 9, eI cZ 6 c_t_side)] sz)) 0 0 (va_A [(h_t, oR A_t c_t_many c_t_below c_t_above1 c_t_below1), (A_t 0, eI cI 242 c_t_now), (A_t 9, eI cZ 6 c_t_side)] sz) := by
  refine yM (cc := cX5_sides) (maxL := 6) (ret := none) RX5 (by decide) rfl rfl (Nat.le_of_ble_eq_true rfl) ?_
  intro p e s m below meth c Γ hr
  have loop2 : ∀ (n : Nat) (y1 : Int32) (y2 : Int32) (y3 : Int32) (d_t_many : Int32) (d_t_below : Int64) (d_t_above1 : Int64) (d_t_below1 : Int64) (d_t_now : Nat → Int32) (d_t_side : Nat → Int32) (w0 : Nat → Int32), fX5_sides_L2 N n y1 y2 y3 d_t_side = some w0 → yG p l e (headSpec wsX5_sides rmX5_sides).room s m (List.toArray [.ref h_t, .int x1, .int x2]) below meth c D (va_A [(h_t, oR A_t c_t_many c_t_below c_t_above1 c_t_below1), (A_t 0, eI cI 242 c_t_now), (A_t 9, eI cZ 6 c_t_side)] sz) 6 0 0 (MQ below (yQv D (yT cI cJ cZ cW cR) [(h_t, oR A_t c_t_many c_t_below c_t_above1 c_t_below1), (A_t 0, eI cI 242 c_t_now), (A_t 9, eI cZ 6 zc_t_side)] (va_A [(h_t, oR A_t c_t_many c_t_below c_t_above1 c_t_below1), (A_t 0, eI cI 242 c_t_now), (A_t 9, eI cZ 6 c_t_side)] sz)) (List.toArray [.ref h_t, .int x1, .int x2]) s 0 0 (va_A [(h_t, oR A_t c_t_many c_t_below c_t_above1 c_t_below1), (A_t 0, eI cI 242 c_t_now), (A_t 9, eI cZ 6 c_t_side)] sz)) 30 [(0, .ref h_t), (2, .int y2)] [] [(h_t, oR A_t d_t_many d_t_below d_t_above1 d_t_below1), (A_t 0, eI cI 242 d_t_now), (A_t 9, eI cZ 6 w0)] → yG p l e (headSpec wsX5_sides rmX5_sides).room s m (List.toArray [.ref h_t, .int x1, .int x2]) below meth c D (va_A [(h_t, oR A_t c_t_many c_t_below c_t_above1 c_t_below1), (A_t 0, eI cI 242 c_t_now), (A_t 9, eI cZ 6 c_t_side)] sz) 6 0 0 (MQ below (yQv D (yT cI cJ cZ cW cR) [(h_t, oR A_t c_t_many c_t_below c_t_above1 c_t_below1), (A_t 0, eI cI 242 c_t_now), (A_t 9, eI cZ 6 zc_t_side)] (va_A [(h_t, oR A_t c_t_many c_t_below c_t_above1 c_t_below1), (A_t 0, eI cI 242 c_t_now), (A_t 9, eI cZ 6 c_t_side)] sz)) (List.toArray [.ref h_t, .int x1, .int x2]) s 0 0 (va_A [(h_t, oR A_t c_t_many c_t_below c_t_above1 c_t_below1), (A_t 0, eI cI 242 c_t_now), (A_t 9, eI cZ 6 c_t_side)] sz)) 2 [(0, .ref h_t), (1, .int y1), (2, .int y2), (3, .int y3)] [] [(h_t, oR A_t d_t_many d_t_below d_t_above1 d_t_below1), (A_t 0, eI cI 242 d_t_now), (A_t 9, eI cZ 6 d_t_side)] := by
    intro n
    induction n with
    | zero =>
      intro y1 y2 y3 d_t_many d_t_below d_t_above1 d_t_below1 d_t_now d_t_side w0 hf
      cases hf
    | succ n ih =>
      intro y1 y2 y3 d_t_many d_t_below d_t_above1 d_t_below1 d_t_now d_t_side w0 hf hk
      unfold fX5_sides_L2 at hf
      refine g_iload_n Γ 3 dX5_sides_2 rfl ?_
      refine g_bipush (v := 6) Γ dX5_sides_3 (by decide) ?_
      refine g_icmp_ge Γ 30 dX5_sides_5 (by decide) (fun c1 => ?_) (fun c1 => ?_)
      · have hf := ya_if1 c1 hf
        cases hf
        refine g_lv [0, 2] rfl ?_
        exact hk
      · have hf := ya_if2 c1 hf
        refine g_aload_n Γ 0 dX5_sides_8 rfl ?_
        refine g_get Γ fX5_sides_38 0 rfl rfl dX5_sides_9 ?_
        refine g_iload_n Γ 3 dX5_sides_12 rfl ?_
        refine g_iload_n Γ 3 dX5_sides_13 rfl ?_
        refine g_iload_n Γ 1 dX5_sides_14 rfl ?_
        refine g_icmp_ne Γ 22 dX5_sides_15 (by decide) (fun c2 => ?_) (fun c2 => ?_)
        · have hf := ya_if2 c2 hf
          refine g_iconst (v := 0) Γ dX5_sides_22 (by decide) ?_
          obtain ⟨v3, e4, hf⟩ := ya_ob hf
          refine g_zast (ws' := [(h_t, oR A_t d_t_many d_t_below d_t_above1 d_t_below1), (A_t 0, eI cI 242 d_t_now), (A_t 9, eI cZ 6 v3)]) Γ e4 2 2 rfl rfl dX5_sides_23 rfl ?_
          obtain ⟨v5, e6, hf⟩ := ya_lt_inv hf
          refine g_iinc (lv' := [(3, .int v5), (0, .ref h_t), (1, .int y1), (2, .int y2)]) Γ 3 dX5_sides_24 rfl (by rw [e6]; rfl) (by decide) rfl ?_
          refine g_goto Γ 2 dX5_sides_27 (by decide) ?_
          refine g_lv [1, 2, 3, 0] rfl ?_
          exact ih _ _ _ _ _ _ _ _ _ _ hf hk
        · have hf := ya_if1 c2 hf
          refine g_iconst (v := 1) Γ dX5_sides_18 (by decide) ?_
          refine g_goto Γ 23 dX5_sides_19 (by decide) ?_
          obtain ⟨v7, e8, hf⟩ := ya_ob hf
          refine g_zast (ws' := [(h_t, oR A_t d_t_many d_t_below d_t_above1 d_t_below1), (A_t 0, eI cI 242 d_t_now), (A_t 9, eI cZ 6 v7)]) Γ e8 2 2 rfl rfl dX5_sides_23 rfl ?_
          obtain ⟨v9, e10, hf⟩ := ya_lt_inv hf
          refine g_iinc (lv' := [(3, .int v9), (0, .ref h_t), (1, .int y1), (2, .int y2)]) Γ 3 dX5_sides_24 rfl (by rw [e10]; rfl) (by decide) rfl ?_
          refine g_goto Γ 2 dX5_sides_27 (by decide) ?_
          refine g_lv [1, 2, 3, 0] rfl ?_
          exact ih _ _ _ _ _ _ _ _ _ _ hf hk
  have loop41 : ∀ (n : Nat) (y2 : Int32) (y3 : Int32) (y4 : Int32) (d_t_many : Int32) (d_t_below : Int64) (d_t_above1 : Int64) (d_t_below1 : Int64) (d_t_now : Nat → Int32) (d_t_side : Nat → Int32) (w0 : Nat → Int32), fX5_sides_L41 N n y2 y3 y4 d_t_now d_t_side = some w0 → yG p l e (headSpec wsX5_sides rmX5_sides).room s m (List.toArray [.ref h_t, .int x1, .int x2]) below meth c D (va_A [(h_t, oR A_t c_t_many c_t_below c_t_above1 c_t_below1), (A_t 0, eI cI 242 c_t_now), (A_t 9, eI cZ 6 c_t_side)] sz) 6 0 0 (MQ below (yQv D (yT cI cJ cZ cW cR) [(h_t, oR A_t c_t_many c_t_below c_t_above1 c_t_below1), (A_t 0, eI cI 242 c_t_now), (A_t 9, eI cZ 6 zc_t_side)] (va_A [(h_t, oR A_t c_t_many c_t_below c_t_above1 c_t_below1), (A_t 0, eI cI 242 c_t_now), (A_t 9, eI cZ 6 c_t_side)] sz)) (List.toArray [.ref h_t, .int x1, .int x2]) s 0 0 (va_A [(h_t, oR A_t c_t_many c_t_below c_t_above1 c_t_below1), (A_t 0, eI cI 242 c_t_now), (A_t 9, eI cZ 6 c_t_side)] sz)) 139 [(0, .ref h_t), (2, .int y2), (3, .int y3)] [] [(h_t, oR A_t d_t_many d_t_below d_t_above1 d_t_below1), (A_t 0, eI cI 242 d_t_now), (A_t 9, eI cZ 6 w0)] → yG p l e (headSpec wsX5_sides rmX5_sides).room s m (List.toArray [.ref h_t, .int x1, .int x2]) below meth c D (va_A [(h_t, oR A_t c_t_many c_t_below c_t_above1 c_t_below1), (A_t 0, eI cI 242 c_t_now), (A_t 9, eI cZ 6 c_t_side)] sz) 6 0 0 (MQ below (yQv D (yT cI cJ cZ cW cR) [(h_t, oR A_t c_t_many c_t_below c_t_above1 c_t_below1), (A_t 0, eI cI 242 c_t_now), (A_t 9, eI cZ 6 zc_t_side)] (va_A [(h_t, oR A_t c_t_many c_t_below c_t_above1 c_t_below1), (A_t 0, eI cI 242 c_t_now), (A_t 9, eI cZ 6 c_t_side)] sz)) (List.toArray [.ref h_t, .int x1, .int x2]) s 0 0 (va_A [(h_t, oR A_t c_t_many c_t_below c_t_above1 c_t_below1), (A_t 0, eI cI 242 c_t_now), (A_t 9, eI cZ 6 c_t_side)] sz)) 41 [(0, .ref h_t), (2, .int y2), (3, .int y3), (4, .int y4)] [] [(h_t, oR A_t d_t_many d_t_below d_t_above1 d_t_below1), (A_t 0, eI cI 242 d_t_now), (A_t 9, eI cZ 6 d_t_side)] := by
    intro n
    induction n with
    | zero =>
      intro y2 y3 y4 d_t_many d_t_below d_t_above1 d_t_below1 d_t_now d_t_side w0 hf
      cases hf
    | succ n ih =>
      intro y2 y3 y4 d_t_many d_t_below d_t_above1 d_t_below1 d_t_now d_t_side w0 hf hk
      unfold fX5_sides_L41 at hf
      refine g_iload Γ 3 dX5_sides_41 rfl ?_
      refine g_aload_n Γ 0 dX5_sides_43 rfl ?_
      obtain ⟨v14, e15, hf⟩ := ya_ob hf
      refine g_vi (q := (RX5, TX5, 19)) (wr := [(A_t 9, eI cZ 6 d_t_side)]) (ws' := [(A_t 9, eI cZ 6 d_t_side), (h_t, oR A_t d_t_many d_t_below d_t_above1 d_t_below1), (A_t 0, eI cI 242 d_t_now)]) Γ (fun sz => mX5_flows (l := l) (D := D) (sz := sz) (cI := cI) (cJ := cJ) (cZ := cZ) (cW := cW) (cR := cR) (h_t := h_t) (A_t := A_t) (hf := e15)) eX5_flows gX5_sides_X5_flows rfl rfl 0 rfl rfl rfl (Nat.le_of_ble_eq_true rfl) ⟨Nat.le_of_ble_eq_true rfl, Nat.le_of_ble_eq_true rfl⟩ dX5_sides_44 [0, 1] [2] rfl rfl rfl rfl (by decide) rfl ?_
      refine g_icmp_ge Γ 139 dX5_sides_47 (by decide) (fun c16 => ?_) (fun c16 => ?_)
      · have hf := ya_if1 c16 hf
        cases hf
        refine g_lv [0, 1, 2] rfl ?_
        refine g_ws (ws' := [(h_t, oR A_t d_t_many d_t_below d_t_above1 d_t_below1), (A_t 0, eI cI 242 d_t_now), (A_t 9, eI cZ 6 d_t_side)]) [1, 2, 0] rfl rfl ?_
        exact hk
      · have hf := ya_if2 c16 hf
        refine g_aload_n Γ 0 dX5_sides_50 rfl ?_
        refine g_iload Γ 3 dX5_sides_51 rfl ?_
        obtain ⟨v17, e18, hf⟩ := ya_ob hf
        refine g_vi (q := (RX5, TX5, 19)) (wr := [(A_t 9, eI cZ 6 d_t_side)]) (ws' := [(A_t 9, eI cZ 6 d_t_side), (h_t, oR A_t d_t_many d_t_below d_t_above1 d_t_below1), (A_t 0, eI cI 242 d_t_now)]) Γ (fun sz => mX5_isRead (l := l) (D := D) (sz := sz) (cI := cI) (cJ := cJ) (cZ := cZ) (cW := cW) (cR := cR) (h_t := h_t) (A_t := A_t) (hf := e18)) eX5_isRead gX5_sides_X5_isRead rfl rfl 0 rfl rfl rfl (Nat.le_of_ble_eq_true rfl) ⟨Nat.le_of_ble_eq_true rfl, Nat.le_of_ble_eq_true rfl⟩ dX5_sides_53 [1, 2] [0] rfl rfl rfl rfl (by decide) rfl ?_
        refine g_if_ne Γ 133 dX5_sides_56 (by decide) (fun c19 => ?_) (fun c19 => ?_)
        · have hf := ya_if2 c19 hf
          obtain ⟨v20, e21, hf⟩ := ya_lt_inv hf
          refine g_iinc (lv' := [(4, .int v20), (0, .ref h_t), (2, .int y2), (3, .int y3)]) Γ 3 dX5_sides_133 rfl (by rw [e21]; rfl) (by decide) rfl ?_
          refine g_goto Γ 41 dX5_sides_136 (by decide) ?_
          refine g_lv [1, 2, 3, 0] rfl ?_
          refine g_ws (ws' := [(h_t, oR A_t d_t_many d_t_below d_t_above1 d_t_below1), (A_t 0, eI cI 242 d_t_now), (A_t 9, eI cZ 6 d_t_side)]) [1, 2, 0] rfl rfl ?_
          exact ih _ _ _ _ _ _ _ _ _ _ hf hk
        · have hf := ya_if1 c19 hf
          refine g_iload Γ 3 dX5_sides_59 rfl ?_
          refine g_iload_n Γ 1 dX5_sides_61 rfl ?_
          refine g_icmp_ne Γ 68 dX5_sides_62 (by decide) (fun c22 => ?_) (fun c22 => ?_)
          · have hf := ya_if2 c22 hf
            refine g_aload_n Γ 0 dX5_sides_68 rfl ?_
            refine g_get Γ fX5_sides_38 1 rfl rfl dX5_sides_69 ?_
            refine g_aload_n Γ 0 dX5_sides_72 rfl ?_
            refine g_iload Γ 3 dX5_sides_73 rfl ?_
            refine g_iconst (v := 0) Γ dX5_sides_75 (by decide) ?_
            obtain ⟨v23, e24, hf⟩ := ya_ob hf
            refine g_vi (q := (RX5, TX5, 19)) (wr := [(A_t 9, eI cZ 6 d_t_side)]) (ws' := [(A_t 9, eI cZ 6 d_t_side), (h_t, oR A_t d_t_many d_t_below d_t_above1 d_t_below1), (A_t 0, eI cI 242 d_t_now)]) Γ (fun sz => mX5_get (l := l) (D := D) (sz := sz) (cI := cI) (cJ := cJ) (cZ := cZ) (cW := cW) (cR := cR) (h_t := h_t) (A_t := A_t) (hf := e24)) eX5_get gX5_sides_X5_get rfl rfl 0 rfl rfl rfl (Nat.le_of_ble_eq_true rfl) ⟨Nat.le_of_ble_eq_true rfl, Nat.le_of_ble_eq_true rfl⟩ dX5_sides_76 [1, 2] [0] rfl rfl rfl rfl (by decide) rfl ?_
            obtain ⟨v25, e26, hf⟩ := ya_ob hf
            refine g_zald Γ e26 0 2 rfl rfl dX5_sides_79 ?_
            refine g_if_ne Γ 98 dX5_sides_80 (by decide) (fun c27 => ?_) (fun c27 => ?_)
            · have hf := ya_if2 c27 hf
              refine g_iconst (v := 1) Γ dX5_sides_98 (by decide) ?_
              refine g_goto Γ 103 dX5_sides_99 (by decide) ?_
              refine g_istore (lv' := [(5, .int 1), (0, .ref h_t), (2, .int y2), (3, .int y3), (4, .int y4)]) Γ dX5_sides_103 (by decide) rfl ?_
              refine g_aload_n Γ 1 dX5_sides_105 rfl ?_
              refine g_get Γ fX5_sides_38 1 rfl rfl dX5_sides_106 ?_
              refine g_aload_n Γ 1 dX5_sides_109 rfl ?_
              refine g_iload Γ 4 dX5_sides_110 rfl ?_
              refine g_iconst (v := 0) Γ dX5_sides_112 (by decide) ?_
              obtain ⟨v28, e29, hf⟩ := ya_ob hf
              refine g_vi (q := (RX5, TX5, 19)) (wr := [(A_t 9, eI cZ 6 d_t_side)]) (ws' := [(A_t 9, eI cZ 6 d_t_side), (h_t, oR A_t d_t_many d_t_below d_t_above1 d_t_below1), (A_t 0, eI cI 242 d_t_now)]) Γ (fun sz => mX5_get (l := l) (D := D) (sz := sz) (cI := cI) (cJ := cJ) (cZ := cZ) (cW := cW) (cR := cR) (h_t := h_t) (A_t := A_t) (hf := e29)) eX5_get gX5_sides_X5_get rfl rfl 0 rfl rfl rfl (Nat.le_of_ble_eq_true rfl) ⟨Nat.le_of_ble_eq_true rfl, Nat.le_of_ble_eq_true rfl⟩ dX5_sides_113 [1, 2] [0] rfl rfl rfl rfl (by decide) rfl ?_
              refine g_iload Γ 0 dX5_sides_116 rfl ?_
              obtain ⟨v30, e31, hf⟩ := ya_ob hf
              refine g_zast (ws' := [(A_t 9, eI cZ 6 v30), (h_t, oR A_t d_t_many d_t_below d_t_above1 d_t_below1), (A_t 0, eI cI 242 d_t_now)]) Γ e31 0 2 rfl rfl dX5_sides_118 rfl ?_
              refine g_aload_n Γ 1 dX5_sides_119 rfl ?_
              refine g_get Γ fX5_sides_38 1 rfl rfl dX5_sides_120 ?_
              refine g_aload_n Γ 1 dX5_sides_123 rfl ?_
              refine g_iload Γ 4 dX5_sides_124 rfl ?_
              refine g_iconst (v := 1) Γ dX5_sides_126 (by decide) ?_
              obtain ⟨v32, e33, hf⟩ := ya_ob hf
              refine g_vi (q := (RX5, TX5, 19)) (wr := [(A_t 9, eI cZ 6 v30)]) (ws' := [(A_t 9, eI cZ 6 v30), (h_t, oR A_t d_t_many d_t_below d_t_above1 d_t_below1), (A_t 0, eI cI 242 d_t_now)]) Γ (fun sz => mX5_get (l := l) (D := D) (sz := sz) (cI := cI) (cJ := cJ) (cZ := cZ) (cW := cW) (cR := cR) (h_t := h_t) (A_t := A_t) (hf := e33)) eX5_get gX5_sides_X5_get rfl rfl 0 rfl rfl rfl (Nat.le_of_ble_eq_true rfl) ⟨Nat.le_of_ble_eq_true rfl, Nat.le_of_ble_eq_true rfl⟩ dX5_sides_127 [1, 2] [0] rfl rfl rfl rfl (by decide) rfl ?_
              refine g_iload Γ 0 dX5_sides_130 rfl ?_
              obtain ⟨v34, e35, hf⟩ := ya_ob hf
              refine g_zast (ws' := [(A_t 9, eI cZ 6 v34), (h_t, oR A_t d_t_many d_t_below d_t_above1 d_t_below1), (A_t 0, eI cI 242 d_t_now)]) Γ e35 0 2 rfl rfl dX5_sides_132 rfl ?_
              obtain ⟨v36, e37, hf⟩ := ya_lt_inv hf
              refine g_iinc (lv' := [(4, .int v36), (5, .int 1), (0, .ref h_t), (2, .int y2), (3, .int y3)]) Γ 4 dX5_sides_133 rfl (by rw [e37]; rfl) (by decide) rfl ?_
              refine g_goto Γ 41 dX5_sides_136 (by decide) ?_
              refine g_lv [2, 3, 4, 0] rfl ?_
              refine g_ws (ws' := [(h_t, oR A_t d_t_many d_t_below d_t_above1 d_t_below1), (A_t 0, eI cI 242 d_t_now), (A_t 9, eI cZ 6 v34)]) [1, 2, 0] rfl rfl ?_
              exact ih _ _ _ _ _ _ _ _ _ _ hf hk
            · have hf := ya_if1 c27 hf
              refine g_aload_n Γ 0 dX5_sides_83 rfl ?_
              refine g_get Γ fX5_sides_38 1 rfl rfl dX5_sides_84 ?_
              refine g_aload_n Γ 0 dX5_sides_87 rfl ?_
              refine g_iload Γ 3 dX5_sides_88 rfl ?_
              refine g_iconst (v := 1) Γ dX5_sides_90 (by decide) ?_
              obtain ⟨v38, e39, hf⟩ := ya_ob hf
              refine g_vi (q := (RX5, TX5, 19)) (wr := [(A_t 9, eI cZ 6 d_t_side)]) (ws' := [(A_t 9, eI cZ 6 d_t_side), (h_t, oR A_t d_t_many d_t_below d_t_above1 d_t_below1), (A_t 0, eI cI 242 d_t_now)]) Γ (fun sz => mX5_get (l := l) (D := D) (sz := sz) (cI := cI) (cJ := cJ) (cZ := cZ) (cW := cW) (cR := cR) (h_t := h_t) (A_t := A_t) (hf := e39)) eX5_get gX5_sides_X5_get rfl rfl 0 rfl rfl rfl (Nat.le_of_ble_eq_true rfl) ⟨Nat.le_of_ble_eq_true rfl, Nat.le_of_ble_eq_true rfl⟩ dX5_sides_91 [1, 2] [0] rfl rfl rfl rfl (by decide) rfl ?_
              obtain ⟨v40, e41, hf⟩ := ya_ob hf
              refine g_zald Γ e41 0 2 rfl rfl dX5_sides_94 ?_
              refine g_if_eq Γ 102 dX5_sides_95 (by decide) (fun c42 => ?_) (fun c42 => ?_)
              · have hf := ya_if1 c42 hf
                refine g_iconst (v := 0) Γ dX5_sides_102 (by decide) ?_
                refine g_istore (lv' := [(5, .int 0), (0, .ref h_t), (2, .int y2), (3, .int y3), (4, .int y4)]) Γ dX5_sides_103 (by decide) rfl ?_
                refine g_aload_n Γ 1 dX5_sides_105 rfl ?_
                refine g_get Γ fX5_sides_38 1 rfl rfl dX5_sides_106 ?_
                refine g_aload_n Γ 1 dX5_sides_109 rfl ?_
                refine g_iload Γ 4 dX5_sides_110 rfl ?_
                refine g_iconst (v := 0) Γ dX5_sides_112 (by decide) ?_
                obtain ⟨v43, e44, hf⟩ := ya_ob hf
                refine g_vi (q := (RX5, TX5, 19)) (wr := [(A_t 9, eI cZ 6 d_t_side)]) (ws' := [(A_t 9, eI cZ 6 d_t_side), (h_t, oR A_t d_t_many d_t_below d_t_above1 d_t_below1), (A_t 0, eI cI 242 d_t_now)]) Γ (fun sz => mX5_get (l := l) (D := D) (sz := sz) (cI := cI) (cJ := cJ) (cZ := cZ) (cW := cW) (cR := cR) (h_t := h_t) (A_t := A_t) (hf := e44)) eX5_get gX5_sides_X5_get rfl rfl 0 rfl rfl rfl (Nat.le_of_ble_eq_true rfl) ⟨Nat.le_of_ble_eq_true rfl, Nat.le_of_ble_eq_true rfl⟩ dX5_sides_113 [1, 2] [0] rfl rfl rfl rfl (by decide) rfl ?_
                refine g_iload Γ 0 dX5_sides_116 rfl ?_
                obtain ⟨v45, e46, hf⟩ := ya_ob hf
                refine g_zast (ws' := [(A_t 9, eI cZ 6 v45), (h_t, oR A_t d_t_many d_t_below d_t_above1 d_t_below1), (A_t 0, eI cI 242 d_t_now)]) Γ e46 0 2 rfl rfl dX5_sides_118 rfl ?_
                refine g_aload_n Γ 1 dX5_sides_119 rfl ?_
                refine g_get Γ fX5_sides_38 1 rfl rfl dX5_sides_120 ?_
                refine g_aload_n Γ 1 dX5_sides_123 rfl ?_
                refine g_iload Γ 4 dX5_sides_124 rfl ?_
                refine g_iconst (v := 1) Γ dX5_sides_126 (by decide) ?_
                obtain ⟨v47, e48, hf⟩ := ya_ob hf
                refine g_vi (q := (RX5, TX5, 19)) (wr := [(A_t 9, eI cZ 6 v45)]) (ws' := [(A_t 9, eI cZ 6 v45), (h_t, oR A_t d_t_many d_t_below d_t_above1 d_t_below1), (A_t 0, eI cI 242 d_t_now)]) Γ (fun sz => mX5_get (l := l) (D := D) (sz := sz) (cI := cI) (cJ := cJ) (cZ := cZ) (cW := cW) (cR := cR) (h_t := h_t) (A_t := A_t) (hf := e48)) eX5_get gX5_sides_X5_get rfl rfl 0 rfl rfl rfl (Nat.le_of_ble_eq_true rfl) ⟨Nat.le_of_ble_eq_true rfl, Nat.le_of_ble_eq_true rfl⟩ dX5_sides_127 [1, 2] [0] rfl rfl rfl rfl (by decide) rfl ?_
                refine g_iload Γ 0 dX5_sides_130 rfl ?_
                obtain ⟨v49, e50, hf⟩ := ya_ob hf
                refine g_zast (ws' := [(A_t 9, eI cZ 6 v49), (h_t, oR A_t d_t_many d_t_below d_t_above1 d_t_below1), (A_t 0, eI cI 242 d_t_now)]) Γ e50 0 2 rfl rfl dX5_sides_132 rfl ?_
                obtain ⟨v51, e52, hf⟩ := ya_lt_inv hf
                refine g_iinc (lv' := [(4, .int v51), (5, .int 0), (0, .ref h_t), (2, .int y2), (3, .int y3)]) Γ 4 dX5_sides_133 rfl (by rw [e52]; rfl) (by decide) rfl ?_
                refine g_goto Γ 41 dX5_sides_136 (by decide) ?_
                refine g_lv [2, 3, 4, 0] rfl ?_
                refine g_ws (ws' := [(h_t, oR A_t d_t_many d_t_below d_t_above1 d_t_below1), (A_t 0, eI cI 242 d_t_now), (A_t 9, eI cZ 6 v49)]) [1, 2, 0] rfl rfl ?_
                exact ih _ _ _ _ _ _ _ _ _ _ hf hk
              · have hf := ya_if2 c42 hf
                refine g_iconst (v := 1) Γ dX5_sides_98 (by decide) ?_
                refine g_goto Γ 103 dX5_sides_99 (by decide) ?_
                refine g_istore (lv' := [(5, .int 1), (0, .ref h_t), (2, .int y2), (3, .int y3), (4, .int y4)]) Γ dX5_sides_103 (by decide) rfl ?_
                refine g_aload_n Γ 1 dX5_sides_105 rfl ?_
                refine g_get Γ fX5_sides_38 1 rfl rfl dX5_sides_106 ?_
                refine g_aload_n Γ 1 dX5_sides_109 rfl ?_
                refine g_iload Γ 4 dX5_sides_110 rfl ?_
                refine g_iconst (v := 0) Γ dX5_sides_112 (by decide) ?_
                obtain ⟨v53, e54, hf⟩ := ya_ob hf
                refine g_vi (q := (RX5, TX5, 19)) (wr := [(A_t 9, eI cZ 6 d_t_side)]) (ws' := [(A_t 9, eI cZ 6 d_t_side), (h_t, oR A_t d_t_many d_t_below d_t_above1 d_t_below1), (A_t 0, eI cI 242 d_t_now)]) Γ (fun sz => mX5_get (l := l) (D := D) (sz := sz) (cI := cI) (cJ := cJ) (cZ := cZ) (cW := cW) (cR := cR) (h_t := h_t) (A_t := A_t) (hf := e54)) eX5_get gX5_sides_X5_get rfl rfl 0 rfl rfl rfl (Nat.le_of_ble_eq_true rfl) ⟨Nat.le_of_ble_eq_true rfl, Nat.le_of_ble_eq_true rfl⟩ dX5_sides_113 [1, 2] [0] rfl rfl rfl rfl (by decide) rfl ?_
                refine g_iload Γ 0 dX5_sides_116 rfl ?_
                obtain ⟨v55, e56, hf⟩ := ya_ob hf
                refine g_zast (ws' := [(A_t 9, eI cZ 6 v55), (h_t, oR A_t d_t_many d_t_below d_t_above1 d_t_below1), (A_t 0, eI cI 242 d_t_now)]) Γ e56 0 2 rfl rfl dX5_sides_118 rfl ?_
                refine g_aload_n Γ 1 dX5_sides_119 rfl ?_
                refine g_get Γ fX5_sides_38 1 rfl rfl dX5_sides_120 ?_
                refine g_aload_n Γ 1 dX5_sides_123 rfl ?_
                refine g_iload Γ 4 dX5_sides_124 rfl ?_
                refine g_iconst (v := 1) Γ dX5_sides_126 (by decide) ?_
                obtain ⟨v57, e58, hf⟩ := ya_ob hf
                refine g_vi (q := (RX5, TX5, 19)) (wr := [(A_t 9, eI cZ 6 v55)]) (ws' := [(A_t 9, eI cZ 6 v55), (h_t, oR A_t d_t_many d_t_below d_t_above1 d_t_below1), (A_t 0, eI cI 242 d_t_now)]) Γ (fun sz => mX5_get (l := l) (D := D) (sz := sz) (cI := cI) (cJ := cJ) (cZ := cZ) (cW := cW) (cR := cR) (h_t := h_t) (A_t := A_t) (hf := e58)) eX5_get gX5_sides_X5_get rfl rfl 0 rfl rfl rfl (Nat.le_of_ble_eq_true rfl) ⟨Nat.le_of_ble_eq_true rfl, Nat.le_of_ble_eq_true rfl⟩ dX5_sides_127 [1, 2] [0] rfl rfl rfl rfl (by decide) rfl ?_
                refine g_iload Γ 0 dX5_sides_130 rfl ?_
                obtain ⟨v59, e60, hf⟩ := ya_ob hf
                refine g_zast (ws' := [(A_t 9, eI cZ 6 v59), (h_t, oR A_t d_t_many d_t_below d_t_above1 d_t_below1), (A_t 0, eI cI 242 d_t_now)]) Γ e60 0 2 rfl rfl dX5_sides_132 rfl ?_
                obtain ⟨v61, e62, hf⟩ := ya_lt_inv hf
                refine g_iinc (lv' := [(4, .int v61), (5, .int 1), (0, .ref h_t), (2, .int y2), (3, .int y3)]) Γ 4 dX5_sides_133 rfl (by rw [e62]; rfl) (by decide) rfl ?_
                refine g_goto Γ 41 dX5_sides_136 (by decide) ?_
                refine g_lv [2, 3, 4, 0] rfl ?_
                refine g_ws (ws' := [(h_t, oR A_t d_t_many d_t_below d_t_above1 d_t_below1), (A_t 0, eI cI 242 d_t_now), (A_t 9, eI cZ 6 v59)]) [1, 2, 0] rfl rfl ?_
                exact ih _ _ _ _ _ _ _ _ _ _ hf hk
          · have hf := ya_if1 c22 hf
            refine g_goto Γ 133 dX5_sides_65 (by decide) ?_
            obtain ⟨v63, e64, hf⟩ := ya_lt_inv hf
            refine g_iinc (lv' := [(4, .int v63), (0, .ref h_t), (2, .int y2), (3, .int y3)]) Γ 3 dX5_sides_133 rfl (by rw [e64]; rfl) (by decide) rfl ?_
            refine g_goto Γ 41 dX5_sides_136 (by decide) ?_
            refine g_lv [1, 2, 3, 0] rfl ?_
            refine g_ws (ws' := [(h_t, oR A_t d_t_many d_t_below d_t_above1 d_t_below1), (A_t 0, eI cI 242 d_t_now), (A_t 9, eI cZ 6 d_t_side)]) [1, 2, 0] rfl rfl ?_
            exact ih _ _ _ _ _ _ _ _ _ _ hf hk
  have loop32 : ∀ (n : Nat) (y2 : Int32) (y3 : Int32) (d_t_many : Int32) (d_t_below : Int64) (d_t_above1 : Int64) (d_t_below1 : Int64) (d_t_now : Nat → Int32) (d_t_side : Nat → Int32) (w0 : Nat → Int32), fX5_sides_L32 N n y2 y3 d_t_now d_t_side = some w0 → yG p l e (headSpec wsX5_sides rmX5_sides).room s m (List.toArray [.ref h_t, .int x1, .int x2]) below meth c D (va_A [(h_t, oR A_t c_t_many c_t_below c_t_above1 c_t_below1), (A_t 0, eI cI 242 c_t_now), (A_t 9, eI cZ 6 c_t_side)] sz) 6 0 0 (MQ below (yQv D (yT cI cJ cZ cW cR) [(h_t, oR A_t c_t_many c_t_below c_t_above1 c_t_below1), (A_t 0, eI cI 242 c_t_now), (A_t 9, eI cZ 6 zc_t_side)] (va_A [(h_t, oR A_t c_t_many c_t_below c_t_above1 c_t_below1), (A_t 0, eI cI 242 c_t_now), (A_t 9, eI cZ 6 c_t_side)] sz)) (List.toArray [.ref h_t, .int x1, .int x2]) s 0 0 (va_A [(h_t, oR A_t c_t_many c_t_below c_t_above1 c_t_below1), (A_t 0, eI cI 242 c_t_now), (A_t 9, eI cZ 6 c_t_side)] sz)) 145 [] [] [(h_t, oR A_t d_t_many d_t_below d_t_above1 d_t_below1), (A_t 0, eI cI 242 d_t_now), (A_t 9, eI cZ 6 w0)] → yG p l e (headSpec wsX5_sides rmX5_sides).room s m (List.toArray [.ref h_t, .int x1, .int x2]) below meth c D (va_A [(h_t, oR A_t c_t_many c_t_below c_t_above1 c_t_below1), (A_t 0, eI cI 242 c_t_now), (A_t 9, eI cZ 6 c_t_side)] sz) 6 0 0 (MQ below (yQv D (yT cI cJ cZ cW cR) [(h_t, oR A_t c_t_many c_t_below c_t_above1 c_t_below1), (A_t 0, eI cI 242 c_t_now), (A_t 9, eI cZ 6 zc_t_side)] (va_A [(h_t, oR A_t c_t_many c_t_below c_t_above1 c_t_below1), (A_t 0, eI cI 242 c_t_now), (A_t 9, eI cZ 6 c_t_side)] sz)) (List.toArray [.ref h_t, .int x1, .int x2]) s 0 0 (va_A [(h_t, oR A_t c_t_many c_t_below c_t_above1 c_t_below1), (A_t 0, eI cI 242 c_t_now), (A_t 9, eI cZ 6 c_t_side)] sz)) 32 [(0, .ref h_t), (2, .int y2), (3, .int y3)] [] [(h_t, oR A_t d_t_many d_t_below d_t_above1 d_t_below1), (A_t 0, eI cI 242 d_t_now), (A_t 9, eI cZ 6 d_t_side)] := by
    intro n
    induction n with
    | zero =>
      intro y2 y3 d_t_many d_t_below d_t_above1 d_t_below1 d_t_now d_t_side w0 hf
      cases hf
    | succ n ih =>
      intro y2 y3 d_t_many d_t_below d_t_above1 d_t_below1 d_t_now d_t_side w0 hf hk
      unfold fX5_sides_L32 at hf
      refine g_iload_n Γ 2 dX5_sides_32 rfl ?_
      refine g_bipush (v := 6) Γ dX5_sides_33 (by decide) ?_
      refine g_icmp_ge Γ 145 dX5_sides_35 (by decide) (fun c13 => ?_) (fun c13 => ?_)
      · have hf := ya_if1 c13 hf
        cases hf
        refine g_lv [] rfl ?_
        exact hk
      · have hf := ya_if2 c13 hf
        refine g_iconst (v := 0) Γ dX5_sides_38 (by decide) ?_
        refine g_istore (lv' := [(4, .int 0), (0, .ref h_t), (2, .int y2), (3, .int y3)]) Γ dX5_sides_39 (by decide) rfl ?_
        obtain ⟨v65, e66, hf⟩ := ya_ob hf
        refine g_lv [1, 2, 3, 0] rfl ?_
        refine loop41 N _ _ _ _ _ _ _ _ _ _ e66  ?_
        obtain ⟨v67, e68, hf⟩ := ya_lt_inv hf
        refine g_iinc (lv' := [(3, .int v67), (0, .ref h_t), (2, .int y2)]) Γ 2 dX5_sides_139 rfl (by rw [e68]; rfl) (by decide) rfl ?_
        refine g_goto Γ 32 dX5_sides_142 (by decide) ?_
        refine g_lv [1, 2, 0] rfl ?_
        exact ih _ _ _ _ _ _ _ _ _ hf hk
  show yG p l e (headSpec wsX5_sides rmX5_sides).room s m (List.toArray [.ref h_t, .int x1, .int x2]) below meth c D (va_A [(h_t, oR A_t c_t_many c_t_below c_t_above1 c_t_below1), (A_t 0, eI cI 242 c_t_now), (A_t 9, eI cZ 6 c_t_side)] sz) 6 0 0 (MQ below (yQv D (yT cI cJ cZ cW cR) [(h_t, oR A_t c_t_many c_t_below c_t_above1 c_t_below1), (A_t 0, eI cI 242 c_t_now), (A_t 9, eI cZ 6 zc_t_side)] (va_A [(h_t, oR A_t c_t_many c_t_below c_t_above1 c_t_below1), (A_t 0, eI cI 242 c_t_now), (A_t 9, eI cZ 6 c_t_side)] sz)) (List.toArray [.ref h_t, .int x1, .int x2]) s 0 0 (va_A [(h_t, oR A_t c_t_many c_t_below c_t_above1 c_t_below1), (A_t 0, eI cI 242 c_t_now), (A_t 9, eI cZ 6 c_t_side)] sz)) 0 [(0, .ref h_t), (1, .int x1), (2, .int x2)] [] [(h_t, oR A_t c_t_many c_t_below c_t_above1 c_t_below1), (A_t 0, eI cI 242 c_t_now), (A_t 9, eI cZ 6 c_t_side)]
  unfold fX5_sides at hf
  refine g_iconst (v := 0) Γ dX5_sides_0 (by decide) ?_
  refine g_istore_n (lv' := [(3, .int 0), (0, .ref h_t), (1, .int x1), (2, .int x2)]) Γ dX5_sides_1 (by decide) rfl ?_
  obtain ⟨v11, e12, hf⟩ := ya_ob hf
  refine g_lv [1, 2, 3, 0] rfl ?_
  refine loop2 N _ _ _ _ _ _ _ _ _ _ e12  ?_
  refine g_iconst (v := 0) Γ dX5_sides_30 (by decide) ?_
  refine g_istore_n (lv' := [(3, .int 0), (0, .ref h_t), (2, .int x2)]) Γ dX5_sides_31 (by decide) rfl ?_
  obtain ⟨v69, e70, hf⟩ := ya_ob hf
  refine g_lv [1, 2, 0] rfl ?_
  refine loop32 N _ _ _ _ _ _ _ _ _ e70  ?_
  cases hf
  exact g_vret Γ hr dX5_sides_145 [0, 1, 2] rfl rfl

set_option maxRecDepth 20000 in
theorem ggX5_isSeen_X5_isRead : GoodIn wsX5_isSeen wsX5_isRead := goodIn_r _ [6, 7, 8, 9, 5, 10, 11, 20, 21, 22, 23, 24, 25, 26, 27, 28, 29, 30, 31, 32, 33, 34, 35, 36, 37, 38] rfl (by decide +kernel)
set_option maxRecDepth 20000 in
theorem gX5_isSeen_X5_isRead : GoodIn wsX5_isSeen (wsV RX5 91 RX5 yX5_isRead wsX5_isRead) := goodIn_app (goodIn_of _ (by decide +kernel)) ggX5_isSeen_X5_isRead
set_option maxRecDepth 20000 in
theorem ggX5_isSeen_X5_get : GoodIn wsX5_isSeen wsX5_get := goodIn_r _ [10, 11, 20, 21, 22, 23, 24, 25, 26, 27, 28, 29, 30, 31, 32, 33, 34, 35, 36, 37, 38] rfl (by decide +kernel)
set_option maxRecDepth 20000 in
theorem gX5_isSeen_X5_get : GoodIn wsX5_isSeen (wsV RX5 86 RX5 yX5_get wsX5_get) := goodIn_app (goodIn_of _ (by decide +kernel)) ggX5_isSeen_X5_get
set_option maxRecDepth 20000 in
theorem ggX5_isSeen_X5_sides : GoodIn wsX5_isSeen wsX5_sides := goodIn_r _ [15, 1, 16, 17, 18, 5, 19, 11, 2, 3, 4, 6, 7, 8, 9, 10, 20, 21, 22, 23, 24, 25, 26, 27, 28, 29, 30, 31, 32, 33, 34, 35, 36, 37, 38] rfl (by decide +kernel)
set_option maxRecDepth 20000 in
theorem gX5_isSeen_X5_sides : GoodIn wsX5_isSeen (wsV RX5 132 RX5 yX5_sides wsX5_sides) := goodIn_app (goodIn_of _ (by decide +kernel)) ggX5_isSeen_X5_sides
theorem dX5_isSeen_0 : decode cX5_isSeen 0 = .ok (.aload_n 0, 1) := by decide +kernel
theorem dX5_isSeen_1 : decode cX5_isSeen 1 = .ok (.iload_n 1, 1) := by decide +kernel
theorem dX5_isSeen_2 : decode cX5_isSeen 2 = .ok (.invokevirtual 91, 3) := by decide +kernel
theorem dX5_isSeen_5 : decode cX5_isSeen 5 = .ok (.ifCond .eq 5, 3) := by decide +kernel
theorem dX5_isSeen_8 : decode cX5_isSeen 8 = .ok (.iconst 1, 1) := by decide +kernel
theorem dX5_isSeen_9 : decode cX5_isSeen 9 = .ok (.ireturn, 1) := by decide +kernel
theorem dX5_isSeen_10 : decode cX5_isSeen 10 = .ok (.aload_n 0, 1) := by decide +kernel
theorem dX5_isSeen_11 : decode cX5_isSeen 11 = .ok (.aload_n 0, 1) := by decide +kernel
theorem dX5_isSeen_12 : decode cX5_isSeen 12 = .ok (.iload_n 1, 1) := by decide +kernel
theorem dX5_isSeen_13 : decode cX5_isSeen 13 = .ok (.iconst 1, 1) := by decide +kernel
theorem dX5_isSeen_14 : decode cX5_isSeen 14 = .ok (.invokevirtual 86, 3) := by decide +kernel
theorem dX5_isSeen_17 : decode cX5_isSeen 17 = .ok (.iload_n 1, 1) := by decide +kernel
theorem dX5_isSeen_18 : decode cX5_isSeen 18 = .ok (.invokevirtual 132, 3) := by decide +kernel
theorem dX5_isSeen_21 : decode cX5_isSeen 21 = .ok (.aload_n 0, 1) := by decide +kernel
theorem dX5_isSeen_22 : decode cX5_isSeen 22 = .ok (.getfield 38, 3) := by decide +kernel
theorem dX5_isSeen_25 : decode cX5_isSeen 25 = .ok (.aload_n 0, 1) := by decide +kernel
theorem dX5_isSeen_26 : decode cX5_isSeen 26 = .ok (.iload_n 1, 1) := by decide +kernel
theorem dX5_isSeen_27 : decode cX5_isSeen 27 = .ok (.iconst 0, 1) := by decide +kernel
theorem dX5_isSeen_28 : decode cX5_isSeen 28 = .ok (.invokevirtual 86, 3) := by decide +kernel
theorem dX5_isSeen_31 : decode cX5_isSeen 31 = .ok (.baload, 1) := by decide +kernel
theorem dX5_isSeen_32 : decode cX5_isSeen 32 = .ok (.ifCond .ne 7, 3) := by decide +kernel
theorem dX5_isSeen_35 : decode cX5_isSeen 35 = .ok (.iconst 1, 1) := by decide +kernel
theorem dX5_isSeen_36 : decode cX5_isSeen 36 = .ok (.goto 4, 3) := by decide +kernel
theorem dX5_isSeen_39 : decode cX5_isSeen 39 = .ok (.iconst 0, 1) := by decide +kernel
theorem dX5_isSeen_40 : decode cX5_isSeen 40 = .ok (.ireturn, 1) := by decide +kernel
/-! ===== FlowMetersModel.isSeen(I)Z ===== -/
def fX5_isSeen (N : Nat) (c_t_now : Nat → Int32) (c_t_side : Nat → Int32) (x1 : Int32) : Option (Int32 × (Nat → Int32)) :=
  (fX5_isRead c_t_now x1).bind fun v1 =>
  (if v1 = 0 then
    (fX5_get c_t_now x1 1).bind fun v4 =>
    (fX5_sides N c_t_now c_t_side v4 x1).bind fun v6 =>
    (fX5_get c_t_now x1 0).bind fun v8 =>
    (ya_rd v6 6 v8).bind fun v10 =>
    (if v10 = 0 then
      some (1, v6)
    else
      some (0, v6))
  else
    some (1, c_t_side))
theorem fX5_isSeen_38 : yF wsX5_isSeen RX5 38 5 11 RX5 TX5 19 := ⟨rfl, by decide, by decide +kernel, by decide +kernel⟩
abbrev rmX5_isSeen : Room := { frames := 3, cells := 0, slots := 0, locals := 68 }
theorem eX5_isSeen : yY yX5_isSeen wsX5_isSeen cX5_isSeen 2 (some .boolean) rmX5_isSeen 1 := ⟨⟨_, rfl⟩, rfl, rfl, by decide, by decide, by decide +kernel⟩
set_option maxHeartbeats 4000000 in
set_option maxRecDepth 100000 in
theorem mX5_isSeen {l : Launch} {D : va_G} {sz : Nat} {cI cJ cZ cW cR : ClassId} {N : Nat} {h_t : Nat} {A_t : Nat → Nat} {c_t_many : Int32} {c_t_below : Int64} {c_t_above1 : Int64} {c_t_below1 : Int64} {c_t_now : Nat → Int32} {c_t_side : Nat → Int32} {x1 : Int32} {r : Int32} {zc_t_side : Nat → Int32} (hf : fX5_isSeen N c_t_now c_t_side x1 = some (r, zc_t_side)) : Met l yX5_isSeen wsX5_isSeen rmX5_isSeen (yP D (yT cI cJ cZ cW cR) [(h_t, oR A_t c_t_many c_t_below c_t_above1 c_t_below1), (A_t 0, eI cI 242 c_t_now), (A_t 9, eI cZ 6 c_t_side)] sz [.ref h_t, .int x1]) (yQi D (yT cI cJ cZ cW cR) r [(h_t, oR A_t c_t_many c_t_below c_t_above1 c_t_below1), (A_t 0, eI cI 242 c_t_now), (A_t 9, eI cZ 6 zc_t_side)] (va_A [(h_t, oR A_t c_t_many c_t_below c_t_above1 c_t_below1), (A_t 0, eI cI 242 c_t_now), (A_t 9, eI cZ 6 c_t_side)] sz)) 0 0 (va_A [(h_t, oR A_t c_t_many c_t_below c_t_above1 c_t_below1), (A_t 0, eI cI 242 c_t_now), (A_t 9, eI cZ 6 c_t_side)] sz) := by
  refine yM (cc := cX5_isSeen) (maxL := 2) (ret := (some .boolean)) RX5 (by decide) rfl rfl (Nat.le_of_ble_eq_true rfl) ?_
  intro p e s m below meth c Γ hr
  show yG p l e (headSpec wsX5_isSeen rmX5_isSeen).room s m (List.toArray [.ref h_t, .int x1]) below meth c D (va_A [(h_t, oR A_t c_t_many c_t_below c_t_above1 c_t_below1), (A_t 0, eI cI 242 c_t_now), (A_t 9, eI cZ 6 c_t_side)] sz) 2 0 0 (MQ below (yQi D (yT cI cJ cZ cW cR) r [(h_t, oR A_t c_t_many c_t_below c_t_above1 c_t_below1), (A_t 0, eI cI 242 c_t_now), (A_t 9, eI cZ 6 zc_t_side)] (va_A [(h_t, oR A_t c_t_many c_t_below c_t_above1 c_t_below1), (A_t 0, eI cI 242 c_t_now), (A_t 9, eI cZ 6 c_t_side)] sz)) (List.toArray [.ref h_t, .int x1]) s 0 0 (va_A [(h_t, oR A_t c_t_many c_t_below c_t_above1 c_t_below1), (A_t 0, eI cI 242 c_t_now), (A_t 9, eI cZ 6 c_t_side)] sz)) 0 [(0, .ref h_t), (1, .int x1)] [] [(h_t, oR A_t c_t_many c_t_below c_t_above1 c_t_below1), (A_t 0, eI cI 242 c_t_now), (A_t 9, eI cZ 6 c_t_side)]
  unfold fX5_isSeen at hf
  refine g_aload_n Γ 0 dX5_isSeen_0 rfl ?_
  refine g_iload_n Γ 1 dX5_isSeen_1 rfl ?_
  obtain ⟨v1, e2, hf⟩ := ya_ob hf
  refine g_vi (q := (RX5, TX5, 19)) (wr := [(A_t 9, eI cZ 6 c_t_side)]) (ws' := [(A_t 9, eI cZ 6 c_t_side), (h_t, oR A_t c_t_many c_t_below c_t_above1 c_t_below1), (A_t 0, eI cI 242 c_t_now)]) Γ (fun sz => mX5_isRead (l := l) (D := D) (sz := sz) (cI := cI) (cJ := cJ) (cZ := cZ) (cW := cW) (cR := cR) (h_t := h_t) (A_t := A_t) (hf := e2)) eX5_isRead gX5_isSeen_X5_isRead rfl rfl 0 rfl rfl rfl (Nat.le_of_ble_eq_true rfl) ⟨Nat.le_of_ble_eq_true rfl, Nat.le_of_ble_eq_true rfl⟩ dX5_isSeen_2 [0, 1] [2] rfl rfl rfl rfl (by decide) rfl ?_
  refine g_if_eq Γ 10 dX5_isSeen_5 (by decide) (fun c3 => ?_) (fun c3 => ?_)
  · have hf := ya_if1 c3 hf
    refine g_aload_n Γ 0 dX5_isSeen_10 rfl ?_
    refine g_aload_n Γ 0 dX5_isSeen_11 rfl ?_
    refine g_iload_n Γ 1 dX5_isSeen_12 rfl ?_
    refine g_iconst (v := 1) Γ dX5_isSeen_13 (by decide) ?_
    obtain ⟨v4, e5, hf⟩ := ya_ob hf
    refine g_vi (q := (RX5, TX5, 19)) (wr := [(A_t 9, eI cZ 6 c_t_side)]) (ws' := [(A_t 9, eI cZ 6 c_t_side), (h_t, oR A_t c_t_many c_t_below c_t_above1 c_t_below1), (A_t 0, eI cI 242 c_t_now)]) Γ (fun sz => mX5_get (l := l) (D := D) (sz := sz) (cI := cI) (cJ := cJ) (cZ := cZ) (cW := cW) (cR := cR) (h_t := h_t) (A_t := A_t) (hf := e5)) eX5_get gX5_isSeen_X5_get rfl rfl 0 rfl rfl rfl (Nat.le_of_ble_eq_true rfl) ⟨Nat.le_of_ble_eq_true rfl, Nat.le_of_ble_eq_true rfl⟩ dX5_isSeen_14 [1, 2] [0] rfl rfl rfl rfl (by decide) rfl ?_
    refine g_iload_n Γ 1 dX5_isSeen_17 rfl ?_
    obtain ⟨v6, e7, hf⟩ := ya_ob hf
    refine g_vv (q := (RX5, TX5, 19)) (wr := []) (ws' := [(h_t, oR A_t c_t_many c_t_below c_t_above1 c_t_below1), (A_t 0, eI cI 242 c_t_now), (A_t 9, eI cZ 6 v6)]) Γ (fun sz => mX5_sides (l := l) (D := D) (sz := sz) (cI := cI) (cJ := cJ) (cZ := cZ) (cW := cW) (cR := cR) (h_t := h_t) (A_t := A_t) (hf := e7)) eX5_sides gX5_isSeen_X5_sides rfl rfl 0 rfl rfl rfl (Nat.le_of_ble_eq_true rfl) ⟨Nat.le_of_ble_eq_true rfl, Nat.le_of_ble_eq_true rfl⟩ dX5_isSeen_18 [1, 2, 0] [] rfl rfl rfl rfl (by decide) rfl ?_
    refine g_aload_n Γ 0 dX5_isSeen_21 rfl ?_
    refine g_get Γ fX5_isSeen_38 0 rfl rfl dX5_isSeen_22 ?_
    refine g_aload_n Γ 0 dX5_isSeen_25 rfl ?_
    refine g_iload_n Γ 1 dX5_isSeen_26 rfl ?_
    refine g_iconst (v := 0) Γ dX5_isSeen_27 (by decide) ?_
    obtain ⟨v8, e9, hf⟩ := ya_ob hf
    refine g_vi (q := (RX5, TX5, 19)) (wr := [(A_t 9, eI cZ 6 v6)]) (ws' := [(A_t 9, eI cZ 6 v6), (h_t, oR A_t c_t_many c_t_below c_t_above1 c_t_below1), (A_t 0, eI cI 242 c_t_now)]) Γ (fun sz => mX5_get (l := l) (D := D) (sz := sz) (cI := cI) (cJ := cJ) (cZ := cZ) (cW := cW) (cR := cR) (h_t := h_t) (A_t := A_t) (hf := e9)) eX5_get gX5_isSeen_X5_get rfl rfl 0 rfl rfl rfl (Nat.le_of_ble_eq_true rfl) ⟨Nat.le_of_ble_eq_true rfl, Nat.le_of_ble_eq_true rfl⟩ dX5_isSeen_28 [0, 1] [2] rfl rfl rfl rfl (by decide) rfl ?_
    obtain ⟨v10, e11, hf⟩ := ya_ob hf
    refine g_zald Γ e11 0 2 rfl rfl dX5_isSeen_31 ?_
    refine g_if_ne Γ 39 dX5_isSeen_32 (by decide) (fun c12 => ?_) (fun c12 => ?_)
    · have hf := ya_if2 c12 hf
      refine g_iconst (v := 0) Γ dX5_isSeen_39 (by decide) ?_
      cases hf
      exact g_zret Γ hr (show ya_bo 0 = some 0 from rfl) dX5_isSeen_40 [1, 2, 0] rfl rfl
    · have hf := ya_if1 c12 hf
      refine g_iconst (v := 1) Γ dX5_isSeen_35 (by decide) ?_
      refine g_goto Γ 40 dX5_isSeen_36 (by decide) ?_
      cases hf
      exact g_zret Γ hr (show ya_bo 1 = some 1 from rfl) dX5_isSeen_40 [1, 2, 0] rfl rfl
  · have hf := ya_if2 c3 hf
    refine g_iconst (v := 1) Γ dX5_isSeen_8 (by decide) ?_
    cases hf
    exact g_zret Γ hr (show ya_bo 1 = some 1 from rfl) dX5_isSeen_9 [1, 2, 0] rfl rfl

set_option maxRecDepth 20000 in
theorem ggX5_seen_X5_isFlow : GoodIn wsX5_seen wsX5_isFlow := goodIn_r _ [5, 6, 7, 8, 4, 9, 10, 11, 12, 13, 31, 32, 33, 34, 35, 36, 37, 38, 39, 40, 41, 42, 43, 44, 45, 46, 47, 48, 49] rfl (by decide +kernel)
set_option maxRecDepth 20000 in
theorem gX5_seen_X5_isFlow : GoodIn wsX5_seen (wsV RX5 83 RX5 yX5_isFlow wsX5_isFlow) := goodIn_app (goodIn_of _ (by decide +kernel)) ggX5_seen_X5_isFlow
set_option maxRecDepth 20000 in
theorem ggX5_seen_X5_isSeen : GoodIn wsX5_seen wsX5_isSeen := goodIn_r _ [17, 18, 19, 20, 21, 4, 22, 23, 24, 25, 26, 10, 27, 28, 29, 30, 6, 7, 8, 9, 31, 32, 33, 34, 35, 36, 37, 38, 39, 40, 41, 42, 43, 44, 45, 46, 47, 48, 49] rfl (by decide +kernel)
set_option maxRecDepth 20000 in
theorem gX5_seen_X5_isSeen : GoodIn wsX5_seen (wsV RX5 136 RX5 yX5_isSeen wsX5_isSeen) := goodIn_app (goodIn_of _ (by decide +kernel)) ggX5_seen_X5_isSeen
theorem dX5_seen_0 : decode cX5_seen 0 = .ok (.aload_n 0, 1) := by decide +kernel
theorem dX5_seen_1 : decode cX5_seen 1 = .ok (.iload_n 1, 1) := by decide +kernel
theorem dX5_seen_2 : decode cX5_seen 2 = .ok (.invokevirtual 83, 3) := by decide +kernel
theorem dX5_seen_5 : decode cX5_seen 5 = .ok (.ifCond .ne 7, 3) := by decide +kernel
theorem dX5_seen_8 : decode cX5_seen 8 = .ok (.iconst (-1), 1) := by decide +kernel
theorem dX5_seen_9 : decode cX5_seen 9 = .ok (.goto 16, 3) := by decide +kernel
theorem dX5_seen_12 : decode cX5_seen 12 = .ok (.aload_n 0, 1) := by decide +kernel
theorem dX5_seen_13 : decode cX5_seen 13 = .ok (.iload_n 1, 1) := by decide +kernel
theorem dX5_seen_14 : decode cX5_seen 14 = .ok (.invokevirtual 136, 3) := by decide +kernel
theorem dX5_seen_17 : decode cX5_seen 17 = .ok (.ifCond .eq 7, 3) := by decide +kernel
theorem dX5_seen_20 : decode cX5_seen 20 = .ok (.iconst 1, 1) := by decide +kernel
theorem dX5_seen_21 : decode cX5_seen 21 = .ok (.goto 4, 3) := by decide +kernel
theorem dX5_seen_24 : decode cX5_seen 24 = .ok (.iconst 0, 1) := by decide +kernel
theorem dX5_seen_25 : decode cX5_seen 25 = .ok (.ireturn, 1) := by decide +kernel
/-! ===== FlowMetersModel.seen(I)I ===== -/
def fX5_seen (N : Nat) (c_t_now : Nat → Int32) (c_t_side : Nat → Int32) (x1 : Int32) : Option (Int32 × (Nat → Int32)) :=
  (fX5_isFlow c_t_now x1).bind fun v1 =>
  (if v1 = 0 then
    some ((-1), c_t_side)
  else
    (fX5_isSeen N c_t_now c_t_side x1).bind fun (v4, v5) =>
    (if v4 = 0 then
      some (0, v5)
    else
      some (1, v5)))
abbrev rmX5_seen : Room := { frames := 4, cells := 0, slots := 0, locals := 89 }
theorem eX5_seen : yY yX5_seen wsX5_seen cX5_seen 2 (some .int) rmX5_seen 1 := ⟨⟨_, rfl⟩, rfl, rfl, by decide, by decide, by decide +kernel⟩
set_option maxHeartbeats 4000000 in
set_option maxRecDepth 100000 in
theorem mX5_seen {l : Launch} {D : va_G} {sz : Nat} {cI cJ cZ cW cR : ClassId} {N : Nat} {h_t : Nat} {A_t : Nat → Nat} {c_t_many : Int32} {c_t_below : Int64} {c_t_above1 : Int64} {c_t_below1 : Int64} {c_t_now : Nat → Int32} {c_t_side : Nat → Int32} {x1 : Int32} {r : Int32} {zc_t_side : Nat → Int32} (hf : fX5_seen N c_t_now c_t_side x1 = some (r, zc_t_side)) : Met l yX5_seen wsX5_seen rmX5_seen (yP D (yT cI cJ cZ cW cR) [(h_t, oR A_t c_t_many c_t_below c_t_above1 c_t_below1), (A_t 0, eI cI 242 c_t_now), (A_t 9, eI cZ 6 c_t_side)] sz [.ref h_t, .int x1]) (yQi D (yT cI cJ cZ cW cR) r [(h_t, oR A_t c_t_many c_t_below c_t_above1 c_t_below1), (A_t 0, eI cI 242 c_t_now), (A_t 9, eI cZ 6 zc_t_side)] (va_A [(h_t, oR A_t c_t_many c_t_below c_t_above1 c_t_below1), (A_t 0, eI cI 242 c_t_now), (A_t 9, eI cZ 6 c_t_side)] sz)) 0 0 (va_A [(h_t, oR A_t c_t_many c_t_below c_t_above1 c_t_below1), (A_t 0, eI cI 242 c_t_now), (A_t 9, eI cZ 6 c_t_side)] sz) := by
  refine yM (cc := cX5_seen) (maxL := 2) (ret := (some .int)) RX5 (by decide) rfl rfl (Nat.le_of_ble_eq_true rfl) ?_
  intro p e s m below meth c Γ hr
  show yG p l e (headSpec wsX5_seen rmX5_seen).room s m (List.toArray [.ref h_t, .int x1]) below meth c D (va_A [(h_t, oR A_t c_t_many c_t_below c_t_above1 c_t_below1), (A_t 0, eI cI 242 c_t_now), (A_t 9, eI cZ 6 c_t_side)] sz) 2 0 0 (MQ below (yQi D (yT cI cJ cZ cW cR) r [(h_t, oR A_t c_t_many c_t_below c_t_above1 c_t_below1), (A_t 0, eI cI 242 c_t_now), (A_t 9, eI cZ 6 zc_t_side)] (va_A [(h_t, oR A_t c_t_many c_t_below c_t_above1 c_t_below1), (A_t 0, eI cI 242 c_t_now), (A_t 9, eI cZ 6 c_t_side)] sz)) (List.toArray [.ref h_t, .int x1]) s 0 0 (va_A [(h_t, oR A_t c_t_many c_t_below c_t_above1 c_t_below1), (A_t 0, eI cI 242 c_t_now), (A_t 9, eI cZ 6 c_t_side)] sz)) 0 [(0, .ref h_t), (1, .int x1)] [] [(h_t, oR A_t c_t_many c_t_below c_t_above1 c_t_below1), (A_t 0, eI cI 242 c_t_now), (A_t 9, eI cZ 6 c_t_side)]
  unfold fX5_seen at hf
  refine g_aload_n Γ 0 dX5_seen_0 rfl ?_
  refine g_iload_n Γ 1 dX5_seen_1 rfl ?_
  obtain ⟨v1, e2, hf⟩ := ya_ob hf
  refine g_vi (q := (RX5, TX5, 19)) (wr := [(A_t 9, eI cZ 6 c_t_side)]) (ws' := [(A_t 9, eI cZ 6 c_t_side), (h_t, oR A_t c_t_many c_t_below c_t_above1 c_t_below1), (A_t 0, eI cI 242 c_t_now)]) Γ (fun sz => mX5_isFlow (l := l) (D := D) (sz := sz) (cI := cI) (cJ := cJ) (cZ := cZ) (cW := cW) (cR := cR) (h_t := h_t) (A_t := A_t) (hf := e2)) eX5_isFlow gX5_seen_X5_isFlow rfl rfl 0 rfl rfl rfl (Nat.le_of_ble_eq_true rfl) ⟨Nat.le_of_ble_eq_true rfl, Nat.le_of_ble_eq_true rfl⟩ dX5_seen_2 [0, 1] [2] rfl rfl rfl rfl (by decide) rfl ?_
  refine g_if_ne Γ 12 dX5_seen_5 (by decide) (fun c3 => ?_) (fun c3 => ?_)
  · have hf := ya_if2 c3 hf
    refine g_aload_n Γ 0 dX5_seen_12 rfl ?_
    refine g_iload_n Γ 1 dX5_seen_13 rfl ?_
    obtain ⟨⟨v4, v5⟩, e6, hf⟩ := ya_ob hf
    refine g_vi (q := (RX5, TX5, 19)) (wr := []) (ws' := [(h_t, oR A_t c_t_many c_t_below c_t_above1 c_t_below1), (A_t 0, eI cI 242 c_t_now), (A_t 9, eI cZ 6 v5)]) Γ (fun sz => mX5_isSeen (l := l) (D := D) (sz := sz) (cI := cI) (cJ := cJ) (cZ := cZ) (cW := cW) (cR := cR) (h_t := h_t) (A_t := A_t) (hf := e6)) eX5_isSeen gX5_seen_X5_isSeen rfl rfl 0 rfl rfl rfl (Nat.le_of_ble_eq_true rfl) ⟨Nat.le_of_ble_eq_true rfl, Nat.le_of_ble_eq_true rfl⟩ dX5_seen_14 [1, 2, 0] [] rfl rfl rfl rfl (by decide) rfl ?_
    refine g_if_eq Γ 24 dX5_seen_17 (by decide) (fun c7 => ?_) (fun c7 => ?_)
    · have hf := ya_if1 c7 hf
      refine g_iconst (v := 0) Γ dX5_seen_24 (by decide) ?_
      cases hf
      exact g_iret Γ hr dX5_seen_25 [0, 1, 2] rfl rfl
    · have hf := ya_if2 c7 hf
      refine g_iconst (v := 1) Γ dX5_seen_20 (by decide) ?_
      refine g_goto Γ 25 dX5_seen_21 (by decide) ?_
      cases hf
      exact g_iret Γ hr dX5_seen_25 [0, 1, 2] rfl rfl
  · have hf := ya_if1 c3 hf
    refine g_iconst (v := (-1)) Γ dX5_seen_8 (by decide) ?_
    refine g_goto Γ 25 dX5_seen_9 (by decide) ?_
    cases hf
    exact g_iret Γ hr dX5_seen_25 [1, 2, 0] rfl rfl

set_option maxRecDepth 20000 in
theorem ggX5_valueOf_X5_isRead : GoodIn wsX5_valueOf wsX5_isRead := goodIn_r _ [7, 8, 9, 10, 6, 11, 12, 27, 28, 29, 30, 31, 32, 33, 34, 35, 36, 37, 38, 39, 40, 41, 42, 43, 44, 45] rfl (by decide +kernel)
set_option maxRecDepth 20000 in
theorem gX5_valueOf_X5_isRead : GoodIn wsX5_valueOf (wsV RX5 91 RX5 yX5_isRead wsX5_isRead) := goodIn_app (goodIn_of _ (by decide +kernel)) ggX5_valueOf_X5_isRead
set_option maxRecDepth 20000 in
theorem ggX5_valueOf_X5_get : GoodIn wsX5_valueOf wsX5_get := goodIn_r _ [11, 12, 27, 28, 29, 30, 31, 32, 33, 34, 35, 36, 37, 38, 39, 40, 41, 42, 43, 44, 45] rfl (by decide +kernel)
set_option maxRecDepth 20000 in
theorem gX5_valueOf_X5_get : GoodIn wsX5_valueOf (wsV RX5 86 RX5 yX5_get wsX5_get) := goodIn_app (goodIn_of _ (by decide +kernel)) ggX5_valueOf_X5_get
set_option maxRecDepth 20000 in
theorem ggX5_valueOf_X5_changeOf : GoodIn wsX5_valueOf wsX5_changeOf := goodIn_r _ [16, 17, 18, 8, 9, 10, 6, 11, 12, 27, 28, 29, 30, 31, 32, 33, 34, 35, 36, 37, 38, 39, 40, 41, 42, 43, 44, 45] rfl (by decide +kernel)
set_option maxRecDepth 20000 in
theorem gX5_valueOf_X5_changeOf : GoodIn wsX5_valueOf (wsV RX5 120 RX5 yX5_changeOf wsX5_changeOf) := goodIn_app (goodIn_of _ (by decide +kernel)) ggX5_valueOf_X5_changeOf
set_option maxRecDepth 20000 in
theorem ggX5_valueOf_X5_sides : GoodIn wsX5_valueOf wsX5_sides := goodIn_r _ [22, 2, 23, 24, 25, 6, 26, 12, 3, 4, 5, 7, 8, 9, 10, 11, 27, 28, 29, 30, 31, 32, 33, 34, 35, 36, 37, 38, 39, 40, 41, 42, 43, 44, 45] rfl (by decide +kernel)
set_option maxRecDepth 20000 in
theorem gX5_valueOf_X5_sides : GoodIn wsX5_valueOf (wsV RX5 132 RX5 yX5_sides wsX5_sides) := goodIn_app (goodIn_of _ (by decide +kernel)) ggX5_valueOf_X5_sides
set_option maxRecDepth 20000 in
theorem ggX5_valueOf_X5_flows : GoodIn wsX5_valueOf wsX5_flows := goodIn_r _ [26, 12, 27, 28, 29, 30, 31, 32, 33, 34, 35, 36, 37, 38, 39, 40, 41, 42, 43, 44, 45] rfl (by decide +kernel)
set_option maxRecDepth 20000 in
theorem gX5_valueOf_X5_flows : GoodIn wsX5_valueOf (wsV RX5 57 RX5 yX5_flows wsX5_flows) := goodIn_app (goodIn_of _ (by decide +kernel)) ggX5_valueOf_X5_flows
theorem dX5_valueOf_0 : decode cX5_valueOf 0 = .ok (.aload_n 0, 1) := by decide +kernel
theorem dX5_valueOf_1 : decode cX5_valueOf 1 = .ok (.iload_n 1, 1) := by decide +kernel
theorem dX5_valueOf_2 : decode cX5_valueOf 2 = .ok (.invokevirtual 91, 3) := by decide +kernel
theorem dX5_valueOf_5 : decode cX5_valueOf 5 = .ok (.ifCond .eq 22, 3) := by decide +kernel
theorem dX5_valueOf_8 : decode cX5_valueOf 8 = .ok (.aload_n 0, 1) := by decide +kernel
theorem dX5_valueOf_9 : decode cX5_valueOf 9 = .ok (.iload_n 1, 1) := by decide +kernel
theorem dX5_valueOf_10 : decode cX5_valueOf 10 = .ok (.iconst 3, 1) := by decide +kernel
theorem dX5_valueOf_11 : decode cX5_valueOf 11 = .ok (.invokevirtual 86, 3) := by decide +kernel
theorem dX5_valueOf_14 : decode cX5_valueOf 14 = .ok (.i2l, 1) := by decide +kernel
theorem dX5_valueOf_15 : decode cX5_valueOf 15 = .ok (.aload_n 0, 1) := by decide +kernel
theorem dX5_valueOf_16 : decode cX5_valueOf 16 = .ok (.getfield 104, 3) := by decide +kernel
theorem dX5_valueOf_19 : decode cX5_valueOf 19 = .ok (.lmul, 1) := by decide +kernel
theorem dX5_valueOf_20 : decode cX5_valueOf 20 = .ok (.aload_n 0, 1) := by decide +kernel
theorem dX5_valueOf_21 : decode cX5_valueOf 21 = .ok (.iload_n 1, 1) := by decide +kernel
theorem dX5_valueOf_22 : decode cX5_valueOf 22 = .ok (.invokevirtual 120, 3) := by decide +kernel
theorem dX5_valueOf_25 : decode cX5_valueOf 25 = .ok (.ladd, 1) := by decide +kernel
theorem dX5_valueOf_26 : decode cX5_valueOf 26 = .ok (.lreturn, 1) := by decide +kernel
theorem dX5_valueOf_27 : decode cX5_valueOf 27 = .ok (.aload_n 0, 1) := by decide +kernel
theorem dX5_valueOf_28 : decode cX5_valueOf 28 = .ok (.aload_n 0, 1) := by decide +kernel
theorem dX5_valueOf_29 : decode cX5_valueOf 29 = .ok (.iload_n 1, 1) := by decide +kernel
theorem dX5_valueOf_30 : decode cX5_valueOf 30 = .ok (.iconst 1, 1) := by decide +kernel
theorem dX5_valueOf_31 : decode cX5_valueOf 31 = .ok (.invokevirtual 86, 3) := by decide +kernel
theorem dX5_valueOf_34 : decode cX5_valueOf 34 = .ok (.iload_n 1, 1) := by decide +kernel
theorem dX5_valueOf_35 : decode cX5_valueOf 35 = .ok (.invokevirtual 132, 3) := by decide +kernel
theorem dX5_valueOf_38 : decode cX5_valueOf 38 = .ok (.lconst 0, 1) := by decide +kernel
theorem dX5_valueOf_39 : decode cX5_valueOf 39 = .ok (.lstore_n 2, 1) := by decide +kernel
theorem dX5_valueOf_40 : decode cX5_valueOf 40 = .ok (.iconst 0, 1) := by decide +kernel
theorem dX5_valueOf_41 : decode cX5_valueOf 41 = .ok (.istore 4, 2) := by decide +kernel
theorem dX5_valueOf_43 : decode cX5_valueOf 43 = .ok (.iload 4, 2) := by decide +kernel
theorem dX5_valueOf_45 : decode cX5_valueOf 45 = .ok (.aload_n 0, 1) := by decide +kernel
theorem dX5_valueOf_46 : decode cX5_valueOf 46 = .ok (.invokevirtual 57, 3) := by decide +kernel
theorem dX5_valueOf_49 : decode cX5_valueOf 49 = .ok (.if_icmp .ge 96, 3) := by decide +kernel
theorem dX5_valueOf_52 : decode cX5_valueOf 52 = .ok (.aload_n 0, 1) := by decide +kernel
theorem dX5_valueOf_53 : decode cX5_valueOf 53 = .ok (.iload 4, 2) := by decide +kernel
theorem dX5_valueOf_55 : decode cX5_valueOf 55 = .ok (.invokevirtual 91, 3) := by decide +kernel
theorem dX5_valueOf_58 : decode cX5_valueOf 58 = .ok (.ifCond .eq 81, 3) := by decide +kernel
theorem dX5_valueOf_61 : decode cX5_valueOf 61 = .ok (.aload_n 0, 1) := by decide +kernel
theorem dX5_valueOf_62 : decode cX5_valueOf 62 = .ok (.getfield 38, 3) := by decide +kernel
theorem dX5_valueOf_65 : decode cX5_valueOf 65 = .ok (.aload_n 0, 1) := by decide +kernel
theorem dX5_valueOf_66 : decode cX5_valueOf 66 = .ok (.iload 4, 2) := by decide +kernel
theorem dX5_valueOf_68 : decode cX5_valueOf 68 = .ok (.iconst 0, 1) := by decide +kernel
theorem dX5_valueOf_69 : decode cX5_valueOf 69 = .ok (.invokevirtual 86, 3) := by decide +kernel
theorem dX5_valueOf_72 : decode cX5_valueOf 72 = .ok (.baload, 1) := by decide +kernel
theorem dX5_valueOf_73 : decode cX5_valueOf 73 = .ok (.aload_n 0, 1) := by decide +kernel
theorem dX5_valueOf_74 : decode cX5_valueOf 74 = .ok (.getfield 38, 3) := by decide +kernel
theorem dX5_valueOf_77 : decode cX5_valueOf 77 = .ok (.aload_n 0, 1) := by decide +kernel
theorem dX5_valueOf_78 : decode cX5_valueOf 78 = .ok (.iload 4, 2) := by decide +kernel
theorem dX5_valueOf_80 : decode cX5_valueOf 80 = .ok (.iconst 1, 1) := by decide +kernel
theorem dX5_valueOf_81 : decode cX5_valueOf 81 = .ok (.invokevirtual 86, 3) := by decide +kernel
theorem dX5_valueOf_84 : decode cX5_valueOf 84 = .ok (.baload, 1) := by decide +kernel
theorem dX5_valueOf_85 : decode cX5_valueOf 85 = .ok (.if_icmp .ne 6, 3) := by decide +kernel
theorem dX5_valueOf_88 : decode cX5_valueOf 88 = .ok (.goto 51, 3) := by decide +kernel
theorem dX5_valueOf_91 : decode cX5_valueOf 91 = .ok (.aload_n 0, 1) := by decide +kernel
theorem dX5_valueOf_92 : decode cX5_valueOf 92 = .ok (.iload 4, 2) := by decide +kernel
theorem dX5_valueOf_94 : decode cX5_valueOf 94 = .ok (.iconst 3, 1) := by decide +kernel
theorem dX5_valueOf_95 : decode cX5_valueOf 95 = .ok (.invokevirtual 86, 3) := by decide +kernel
theorem dX5_valueOf_98 : decode cX5_valueOf 98 = .ok (.i2l, 1) := by decide +kernel
theorem dX5_valueOf_99 : decode cX5_valueOf 99 = .ok (.aload_n 0, 1) := by decide +kernel
theorem dX5_valueOf_100 : decode cX5_valueOf 100 = .ok (.getfield 104, 3) := by decide +kernel
theorem dX5_valueOf_103 : decode cX5_valueOf 103 = .ok (.lmul, 1) := by decide +kernel
theorem dX5_valueOf_104 : decode cX5_valueOf 104 = .ok (.aload_n 0, 1) := by decide +kernel
theorem dX5_valueOf_105 : decode cX5_valueOf 105 = .ok (.iload 4, 2) := by decide +kernel
theorem dX5_valueOf_107 : decode cX5_valueOf 107 = .ok (.invokevirtual 120, 3) := by decide +kernel
theorem dX5_valueOf_110 : decode cX5_valueOf 110 = .ok (.ladd, 1) := by decide +kernel
theorem dX5_valueOf_111 : decode cX5_valueOf 111 = .ok (.lstore 5, 2) := by decide +kernel
theorem dX5_valueOf_113 : decode cX5_valueOf 113 = .ok (.lload_n 2, 1) := by decide +kernel
theorem dX5_valueOf_114 : decode cX5_valueOf 114 = .ok (.aload_n 0, 1) := by decide +kernel
theorem dX5_valueOf_115 : decode cX5_valueOf 115 = .ok (.getfield 38, 3) := by decide +kernel
theorem dX5_valueOf_118 : decode cX5_valueOf 118 = .ok (.aload_n 0, 1) := by decide +kernel
theorem dX5_valueOf_119 : decode cX5_valueOf 119 = .ok (.iload 4, 2) := by decide +kernel
theorem dX5_valueOf_121 : decode cX5_valueOf 121 = .ok (.iconst 0, 1) := by decide +kernel
theorem dX5_valueOf_122 : decode cX5_valueOf 122 = .ok (.invokevirtual 86, 3) := by decide +kernel
theorem dX5_valueOf_125 : decode cX5_valueOf 125 = .ok (.baload, 1) := by decide +kernel
theorem dX5_valueOf_126 : decode cX5_valueOf 126 = .ok (.ifCond .eq 8, 3) := by decide +kernel
theorem dX5_valueOf_129 : decode cX5_valueOf 129 = .ok (.lload 5, 2) := by decide +kernel
theorem dX5_valueOf_131 : decode cX5_valueOf 131 = .ok (.goto 6, 3) := by decide +kernel
theorem dX5_valueOf_134 : decode cX5_valueOf 134 = .ok (.lload 5, 2) := by decide +kernel
theorem dX5_valueOf_136 : decode cX5_valueOf 136 = .ok (.lneg, 1) := by decide +kernel
theorem dX5_valueOf_137 : decode cX5_valueOf 137 = .ok (.ladd, 1) := by decide +kernel
theorem dX5_valueOf_138 : decode cX5_valueOf 138 = .ok (.lstore_n 2, 1) := by decide +kernel
theorem dX5_valueOf_139 : decode cX5_valueOf 139 = .ok (.iinc 4 1, 3) := by decide +kernel
theorem dX5_valueOf_142 : decode cX5_valueOf 142 = .ok (.goto (-99), 3) := by decide +kernel
theorem dX5_valueOf_145 : decode cX5_valueOf 145 = .ok (.lload_n 2, 1) := by decide +kernel
theorem dX5_valueOf_146 : decode cX5_valueOf 146 = .ok (.lreturn, 1) := by decide +kernel
/-! ===== FlowMetersModel.valueOf(I)J ===== -/
def fX5_valueOf_L43 (N : Nat) (n : Nat) (y2 : Int64) (y4 : Int32) (d_t_below : Int64) (d_t_now : Nat → Int32) (d_t_heapOf : Nat → Int32) (d_t_force : Nat → Int64) (d_t_side : Nat → Int32) : Option (Int64) := match n with
  | 0 => none
  | n + 1 =>
    (fX5_flows d_t_now).bind fun v8 =>
      (if v8 ≤ y4 then
        some y2
      else
        (fX5_isRead d_t_now y4).bind fun v11 =>
        (if v11 = 0 then
          ya_lt (y4 + 1) fun v14 =>
          fX5_valueOf_L43 N n y2 v14 d_t_below d_t_now d_t_heapOf d_t_force d_t_side
        else
          (fX5_get d_t_now y4 0).bind fun v16 =>
          (ya_rd d_t_side 6 v16).bind fun v18 =>
          (fX5_get d_t_now y4 1).bind fun v20 =>
          (ya_rd d_t_side 6 v20).bind fun v22 =>
          (if v18 = v22 then
            ya_lt (y4 + 1) fun v44 =>
            fX5_valueOf_L43 N n y2 v44 d_t_below d_t_now d_t_heapOf d_t_force d_t_side
          else
            (fX5_get d_t_now y4 3).bind fun v25 =>
            (fX5_changeOf d_t_now d_t_heapOf d_t_force y4).bind fun v27 =>
            ya_lt (((Int32.toInt64 v25) * d_t_below) + v27) fun v29 =>
            (fX5_get d_t_now y4 0).bind fun v31 =>
            (ya_rd d_t_side 6 v31).bind fun v33 =>
            (if v33 = 0 then
              ya_lt (y2 + (-v29)) fun v36 =>
              ya_lt (y4 + 1) fun v38 =>
              fX5_valueOf_L43 N n v36 v38 d_t_below d_t_now d_t_heapOf d_t_force d_t_side
            else
              ya_lt (y2 + v29) fun v40 =>
              ya_lt (y4 + 1) fun v42 =>
              fX5_valueOf_L43 N n v40 v42 d_t_below d_t_now d_t_heapOf d_t_force d_t_side))))
def fX5_valueOf (N : Nat) (c_t_below : Int64) (c_t_now : Nat → Int32) (c_t_heapOf : Nat → Int32) (c_t_force : Nat → Int64) (c_t_side : Nat → Int32) (x1 : Int32) : Option (Int64 × (Nat → Int32)) :=
  (fX5_isRead c_t_now x1).bind fun v1 =>
  (if v1 = 0 then
    (fX5_get c_t_now x1 1).bind fun v4 =>
    (fX5_sides N c_t_now c_t_side v4 x1).bind fun v6 =>
    (fX5_valueOf_L43 N N 0 0 c_t_below c_t_now c_t_heapOf c_t_force v6).bind fun v46 =>
    some (v46, v6)
  else
    (fX5_get c_t_now x1 3).bind fun v48 =>
    (fX5_changeOf c_t_now c_t_heapOf c_t_force x1).bind fun v50 =>
    some ((((Int32.toInt64 v48) * c_t_below) + v50), c_t_side))
theorem fX5_valueOf_38 : yF wsX5_valueOf RX5 38 5 11 RX5 TX5 19 := ⟨rfl, by decide, by decide +kernel, by decide +kernel⟩
theorem fX5_valueOf_104 : yF wsX5_valueOf RX5 104 5 10 RX5 TX5 19 := ⟨rfl, by decide, by decide +kernel, by decide +kernel⟩
abbrev rmX5_valueOf : Room := { frames := 3, cells := 0, slots := 0, locals := 68 }
theorem eX5_valueOf : yY yX5_valueOf wsX5_valueOf cX5_valueOf 7 (some .long) rmX5_valueOf 1 := ⟨⟨_, rfl⟩, rfl, rfl, by decide, by decide, by decide +kernel⟩
set_option maxHeartbeats 4000000 in
set_option maxRecDepth 100000 in
theorem mX5_valueOf {l : Launch} {D : va_G} {sz : Nat} {cI cJ cZ cW cR : ClassId} {N : Nat} {h_t : Nat} {A_t : Nat → Nat} {c_t_many : Int32} {c_t_below : Int64} {c_t_above1 : Int64} {c_t_below1 : Int64} {c_t_now : Nat → Int32} {c_t_heapOf : Nat → Int32} {c_t_force : Nat → Int64} {c_t_side : Nat → Int32} {x1 : Int32} {r : Int64} {zc_t_side : Nat → Int32} (hf : fX5_valueOf N c_t_below c_t_now c_t_heapOf c_t_force c_t_side x1 = some (r, zc_t_side)) : Met l yX5_valueOf wsX5_valueOf rmX5_valueOf (yP D (yT cI cJ cZ cW cR) [(h_t, oR A_t c_t_many c_t_below c_t_above1 c_t_below1), (A_t 0, eI cI 242 c_t_now), (A_t 2, eI cI 6 c_t_heapOf), (A_t 7, eJ cJ 6 c_t_force), (A_t 9, eI cZ 6 c_t_side)] sz [.ref h_t, .int x1]) (yQl D (yT cI cJ cZ cW cR) r [(h_t, oR A_t c_t_many c_t_below c_t_above1 c_t_below1), (A_t 0, eI cI 242 c_t_now), (A_t 2, eI cI 6 c_t_heapOf), (A_t 7, eJ cJ 6 c_t_force), (A_t 9, eI cZ 6 zc_t_side)] (va_A [(h_t, oR A_t c_t_many c_t_below c_t_above1 c_t_below1), (A_t 0, eI cI 242 c_t_now), (A_t 2, eI cI 6 c_t_heapOf), (A_t 7, eJ cJ 6 c_t_force), (A_t 9, eI cZ 6 c_t_side)] sz)) 0 0 (va_A [(h_t, oR A_t c_t_many c_t_below c_t_above1 c_t_below1), (A_t 0, eI cI 242 c_t_now), (A_t 2, eI cI 6 c_t_heapOf), (A_t 7, eJ cJ 6 c_t_force), (A_t 9, eI cZ 6 c_t_side)] sz) := by
  refine yM (cc := cX5_valueOf) (maxL := 7) (ret := (some .long)) RX5 (by decide) rfl rfl (Nat.le_of_ble_eq_true rfl) ?_
  intro p e s m below meth c Γ hr
  have loop43 : ∀ (n : Nat) (y2 : Int64) (y4 : Int32) (d_t_many : Int32) (d_t_below : Int64) (d_t_above1 : Int64) (d_t_below1 : Int64) (d_t_now : Nat → Int32) (d_t_heapOf : Nat → Int32) (d_t_force : Nat → Int64) (d_t_side : Nat → Int32) (w0 : Int64), fX5_valueOf_L43 N n y2 y4 d_t_below d_t_now d_t_heapOf d_t_force d_t_side = some w0 → yG p l e (headSpec wsX5_valueOf rmX5_valueOf).room s m (List.toArray [.ref h_t, .int x1]) below meth c D (va_A [(h_t, oR A_t c_t_many c_t_below c_t_above1 c_t_below1), (A_t 0, eI cI 242 c_t_now), (A_t 2, eI cI 6 c_t_heapOf), (A_t 7, eJ cJ 6 c_t_force), (A_t 9, eI cZ 6 c_t_side)] sz) 7 0 0 (MQ below (yQl D (yT cI cJ cZ cW cR) r [(h_t, oR A_t c_t_many c_t_below c_t_above1 c_t_below1), (A_t 0, eI cI 242 c_t_now), (A_t 2, eI cI 6 c_t_heapOf), (A_t 7, eJ cJ 6 c_t_force), (A_t 9, eI cZ 6 zc_t_side)] (va_A [(h_t, oR A_t c_t_many c_t_below c_t_above1 c_t_below1), (A_t 0, eI cI 242 c_t_now), (A_t 2, eI cI 6 c_t_heapOf), (A_t 7, eJ cJ 6 c_t_force), (A_t 9, eI cZ 6 c_t_side)] sz)) (List.toArray [.ref h_t, .int x1]) s 0 0 (va_A [(h_t, oR A_t c_t_many c_t_below c_t_above1 c_t_below1), (A_t 0, eI cI 242 c_t_now), (A_t 2, eI cI 6 c_t_heapOf), (A_t 7, eJ cJ 6 c_t_force), (A_t 9, eI cZ 6 c_t_side)] sz)) 145 [(2, .long w0)] [] [(h_t, oR A_t d_t_many d_t_below d_t_above1 d_t_below1), (A_t 0, eI cI 242 d_t_now), (A_t 2, eI cI 6 d_t_heapOf), (A_t 7, eJ cJ 6 d_t_force), (A_t 9, eI cZ 6 d_t_side)] → yG p l e (headSpec wsX5_valueOf rmX5_valueOf).room s m (List.toArray [.ref h_t, .int x1]) below meth c D (va_A [(h_t, oR A_t c_t_many c_t_below c_t_above1 c_t_below1), (A_t 0, eI cI 242 c_t_now), (A_t 2, eI cI 6 c_t_heapOf), (A_t 7, eJ cJ 6 c_t_force), (A_t 9, eI cZ 6 c_t_side)] sz) 7 0 0 (MQ below (yQl D (yT cI cJ cZ cW cR) r [(h_t, oR A_t c_t_many c_t_below c_t_above1 c_t_below1), (A_t 0, eI cI 242 c_t_now), (A_t 2, eI cI 6 c_t_heapOf), (A_t 7, eJ cJ 6 c_t_force), (A_t 9, eI cZ 6 zc_t_side)] (va_A [(h_t, oR A_t c_t_many c_t_below c_t_above1 c_t_below1), (A_t 0, eI cI 242 c_t_now), (A_t 2, eI cI 6 c_t_heapOf), (A_t 7, eJ cJ 6 c_t_force), (A_t 9, eI cZ 6 c_t_side)] sz)) (List.toArray [.ref h_t, .int x1]) s 0 0 (va_A [(h_t, oR A_t c_t_many c_t_below c_t_above1 c_t_below1), (A_t 0, eI cI 242 c_t_now), (A_t 2, eI cI 6 c_t_heapOf), (A_t 7, eJ cJ 6 c_t_force), (A_t 9, eI cZ 6 c_t_side)] sz)) 43 [(0, .ref h_t), (2, .long y2), (4, .int y4)] [] [(h_t, oR A_t d_t_many d_t_below d_t_above1 d_t_below1), (A_t 0, eI cI 242 d_t_now), (A_t 2, eI cI 6 d_t_heapOf), (A_t 7, eJ cJ 6 d_t_force), (A_t 9, eI cZ 6 d_t_side)] := by
    intro n
    induction n with
    | zero =>
      intro y2 y4 d_t_many d_t_below d_t_above1 d_t_below1 d_t_now d_t_heapOf d_t_force d_t_side w0 hf
      cases hf
    | succ n ih =>
      intro y2 y4 d_t_many d_t_below d_t_above1 d_t_below1 d_t_now d_t_heapOf d_t_force d_t_side w0 hf hk
      unfold fX5_valueOf_L43 at hf
      refine g_iload Γ 2 dX5_valueOf_43 rfl ?_
      refine g_aload_n Γ 0 dX5_valueOf_45 rfl ?_
      obtain ⟨v8, e9, hf⟩ := ya_ob hf
      refine g_vi (q := (RX5, TX5, 19)) (wr := [(A_t 2, eI cI 6 d_t_heapOf), (A_t 7, eJ cJ 6 d_t_force), (A_t 9, eI cZ 6 d_t_side)]) (ws' := [(A_t 2, eI cI 6 d_t_heapOf), (A_t 7, eJ cJ 6 d_t_force), (A_t 9, eI cZ 6 d_t_side), (h_t, oR A_t d_t_many d_t_below d_t_above1 d_t_below1), (A_t 0, eI cI 242 d_t_now)]) Γ (fun sz => mX5_flows (l := l) (D := D) (sz := sz) (cI := cI) (cJ := cJ) (cZ := cZ) (cW := cW) (cR := cR) (h_t := h_t) (A_t := A_t) (hf := e9)) eX5_flows gX5_valueOf_X5_flows rfl rfl 0 rfl rfl rfl (Nat.le_of_ble_eq_true rfl) ⟨Nat.le_of_ble_eq_true rfl, Nat.le_of_ble_eq_true rfl⟩ dX5_valueOf_46 [0, 1] [2, 3, 4] rfl rfl rfl rfl (by decide) rfl ?_
      refine g_icmp_ge Γ 145 dX5_valueOf_49 (by decide) (fun c10 => ?_) (fun c10 => ?_)
      · have hf := ya_if1 c10 hf
        cases hf
        refine g_lv [1] rfl ?_
        refine g_ws (ws' := [(h_t, oR A_t d_t_many d_t_below d_t_above1 d_t_below1), (A_t 0, eI cI 242 d_t_now), (A_t 2, eI cI 6 d_t_heapOf), (A_t 7, eJ cJ 6 d_t_force), (A_t 9, eI cZ 6 d_t_side)]) [3, 4, 0, 1, 2] rfl rfl ?_
        exact hk
      · have hf := ya_if2 c10 hf
        refine g_aload_n Γ 0 dX5_valueOf_52 rfl ?_
        refine g_iload Γ 2 dX5_valueOf_53 rfl ?_
        obtain ⟨v11, e12, hf⟩ := ya_ob hf
        refine g_vi (q := (RX5, TX5, 19)) (wr := [(A_t 2, eI cI 6 d_t_heapOf), (A_t 7, eJ cJ 6 d_t_force), (A_t 9, eI cZ 6 d_t_side)]) (ws' := [(A_t 2, eI cI 6 d_t_heapOf), (A_t 7, eJ cJ 6 d_t_force), (A_t 9, eI cZ 6 d_t_side), (h_t, oR A_t d_t_many d_t_below d_t_above1 d_t_below1), (A_t 0, eI cI 242 d_t_now)]) Γ (fun sz => mX5_isRead (l := l) (D := D) (sz := sz) (cI := cI) (cJ := cJ) (cZ := cZ) (cW := cW) (cR := cR) (h_t := h_t) (A_t := A_t) (hf := e12)) eX5_isRead gX5_valueOf_X5_isRead rfl rfl 0 rfl rfl rfl (Nat.le_of_ble_eq_true rfl) ⟨Nat.le_of_ble_eq_true rfl, Nat.le_of_ble_eq_true rfl⟩ dX5_valueOf_55 [3, 4] [0, 1, 2] rfl rfl rfl rfl (by decide) rfl ?_
        refine g_if_eq Γ 139 dX5_valueOf_58 (by decide) (fun c13 => ?_) (fun c13 => ?_)
        · have hf := ya_if1 c13 hf
          obtain ⟨v14, e15, hf⟩ := ya_lt_inv hf
          refine g_iinc (lv' := [(4, .int v14), (0, .ref h_t), (2, .long y2)]) Γ 2 dX5_valueOf_139 rfl (by rw [e15]; rfl) (by decide) rfl ?_
          refine g_goto Γ 43 dX5_valueOf_142 (by decide) ?_
          refine g_lv [1, 2, 0] rfl ?_
          refine g_ws (ws' := [(h_t, oR A_t d_t_many d_t_below d_t_above1 d_t_below1), (A_t 0, eI cI 242 d_t_now), (A_t 2, eI cI 6 d_t_heapOf), (A_t 7, eJ cJ 6 d_t_force), (A_t 9, eI cZ 6 d_t_side)]) [3, 4, 0, 1, 2] rfl rfl ?_
          exact ih _ _ _ _ _ _ _ _ _ _ _ hf hk
        · have hf := ya_if2 c13 hf
          refine g_aload_n Γ 0 dX5_valueOf_61 rfl ?_
          refine g_get Γ fX5_valueOf_38 3 rfl rfl dX5_valueOf_62 ?_
          refine g_aload_n Γ 0 dX5_valueOf_65 rfl ?_
          refine g_iload Γ 2 dX5_valueOf_66 rfl ?_
          refine g_iconst (v := 0) Γ dX5_valueOf_68 (by decide) ?_
          obtain ⟨v16, e17, hf⟩ := ya_ob hf
          refine g_vi (q := (RX5, TX5, 19)) (wr := [(A_t 2, eI cI 6 d_t_heapOf), (A_t 7, eJ cJ 6 d_t_force), (A_t 9, eI cZ 6 d_t_side)]) (ws' := [(A_t 2, eI cI 6 d_t_heapOf), (A_t 7, eJ cJ 6 d_t_force), (A_t 9, eI cZ 6 d_t_side), (h_t, oR A_t d_t_many d_t_below d_t_above1 d_t_below1), (A_t 0, eI cI 242 d_t_now)]) Γ (fun sz => mX5_get (l := l) (D := D) (sz := sz) (cI := cI) (cJ := cJ) (cZ := cZ) (cW := cW) (cR := cR) (h_t := h_t) (A_t := A_t) (hf := e17)) eX5_get gX5_valueOf_X5_get rfl rfl 0 rfl rfl rfl (Nat.le_of_ble_eq_true rfl) ⟨Nat.le_of_ble_eq_true rfl, Nat.le_of_ble_eq_true rfl⟩ dX5_valueOf_69 [3, 4] [0, 1, 2] rfl rfl rfl rfl (by decide) rfl ?_
          obtain ⟨v18, e19, hf⟩ := ya_ob hf
          refine g_zald Γ e19 2 2 rfl rfl dX5_valueOf_72 ?_
          refine g_aload_n Γ 0 dX5_valueOf_73 rfl ?_
          refine g_get Γ fX5_valueOf_38 3 rfl rfl dX5_valueOf_74 ?_
          refine g_aload_n Γ 0 dX5_valueOf_77 rfl ?_
          refine g_iload Γ 2 dX5_valueOf_78 rfl ?_
          refine g_iconst (v := 1) Γ dX5_valueOf_80 (by decide) ?_
          obtain ⟨v20, e21, hf⟩ := ya_ob hf
          refine g_vi (q := (RX5, TX5, 19)) (wr := [(A_t 2, eI cI 6 d_t_heapOf), (A_t 7, eJ cJ 6 d_t_force), (A_t 9, eI cZ 6 d_t_side)]) (ws' := [(A_t 2, eI cI 6 d_t_heapOf), (A_t 7, eJ cJ 6 d_t_force), (A_t 9, eI cZ 6 d_t_side), (h_t, oR A_t d_t_many d_t_below d_t_above1 d_t_below1), (A_t 0, eI cI 242 d_t_now)]) Γ (fun sz => mX5_get (l := l) (D := D) (sz := sz) (cI := cI) (cJ := cJ) (cZ := cZ) (cW := cW) (cR := cR) (h_t := h_t) (A_t := A_t) (hf := e21)) eX5_get gX5_valueOf_X5_get rfl rfl 0 rfl rfl rfl (Nat.le_of_ble_eq_true rfl) ⟨Nat.le_of_ble_eq_true rfl, Nat.le_of_ble_eq_true rfl⟩ dX5_valueOf_81 [3, 4] [0, 1, 2] rfl rfl rfl rfl (by decide) rfl ?_
          obtain ⟨v22, e23, hf⟩ := ya_ob hf
          refine g_zald Γ e23 2 2 rfl rfl dX5_valueOf_84 ?_
          refine g_icmp_ne Γ 91 dX5_valueOf_85 (by decide) (fun c24 => ?_) (fun c24 => ?_)
          · have hf := ya_if2 c24 hf
            refine g_aload_n Γ 0 dX5_valueOf_91 rfl ?_
            refine g_iload Γ 2 dX5_valueOf_92 rfl ?_
            refine g_iconst (v := 3) Γ dX5_valueOf_94 (by decide) ?_
            obtain ⟨v25, e26, hf⟩ := ya_ob hf
            refine g_vi (q := (RX5, TX5, 19)) (wr := [(A_t 2, eI cI 6 d_t_heapOf), (A_t 7, eJ cJ 6 d_t_force), (A_t 9, eI cZ 6 d_t_side)]) (ws' := [(A_t 2, eI cI 6 d_t_heapOf), (A_t 7, eJ cJ 6 d_t_force), (A_t 9, eI cZ 6 d_t_side), (h_t, oR A_t d_t_many d_t_below d_t_above1 d_t_below1), (A_t 0, eI cI 242 d_t_now)]) Γ (fun sz => mX5_get (l := l) (D := D) (sz := sz) (cI := cI) (cJ := cJ) (cZ := cZ) (cW := cW) (cR := cR) (h_t := h_t) (A_t := A_t) (hf := e26)) eX5_get gX5_valueOf_X5_get rfl rfl 0 rfl rfl rfl (Nat.le_of_ble_eq_true rfl) ⟨Nat.le_of_ble_eq_true rfl, Nat.le_of_ble_eq_true rfl⟩ dX5_valueOf_95 [3, 4] [0, 1, 2] rfl rfl rfl rfl (by decide) rfl ?_
            refine g_i2l Γ dX5_valueOf_98 ?_
            refine g_aload_n Γ 0 dX5_valueOf_99 rfl ?_
            refine g_get Γ fX5_valueOf_104 3 rfl rfl dX5_valueOf_100 ?_
            refine g_lmul Γ dX5_valueOf_103 ?_
            refine g_aload_n Γ 0 dX5_valueOf_104 rfl ?_
            refine g_iload Γ 2 dX5_valueOf_105 rfl ?_
            obtain ⟨v27, e28, hf⟩ := ya_ob hf
            refine g_vl (q := (RX5, TX5, 19)) (wr := [(A_t 9, eI cZ 6 d_t_side)]) (ws' := [(A_t 9, eI cZ 6 d_t_side), (h_t, oR A_t d_t_many d_t_below d_t_above1 d_t_below1), (A_t 0, eI cI 242 d_t_now), (A_t 2, eI cI 6 d_t_heapOf), (A_t 7, eJ cJ 6 d_t_force)]) Γ (fun sz => mX5_changeOf (l := l) (D := D) (sz := sz) (cI := cI) (cJ := cJ) (cZ := cZ) (cW := cW) (cR := cR) (h_t := h_t) (A_t := A_t) (hf := e28)) eX5_changeOf gX5_valueOf_X5_changeOf rfl rfl 0 rfl rfl rfl (Nat.le_of_ble_eq_true rfl) ⟨Nat.le_of_ble_eq_true rfl, Nat.le_of_ble_eq_true rfl⟩ dX5_valueOf_107 [3, 4, 0, 1] [2] rfl rfl rfl rfl (by decide) rfl ?_
            refine g_ladd Γ dX5_valueOf_110 ?_
            obtain ⟨v29, e30, hf⟩ := ya_lt_inv hf
            refine g_nml e30 ?_
            refine g_lstore (lv' := [(5, .long v29), (0, .ref h_t), (2, .long y2), (4, .int y4)]) Γ dX5_valueOf_111 (by decide) rfl ?_
            refine g_lload_n Γ 2 dX5_valueOf_113 rfl ?_
            refine g_aload_n Γ 1 dX5_valueOf_114 rfl ?_
            refine g_get Γ fX5_valueOf_38 1 rfl rfl dX5_valueOf_115 ?_
            refine g_aload_n Γ 1 dX5_valueOf_118 rfl ?_
            refine g_iload Γ 3 dX5_valueOf_119 rfl ?_
            refine g_iconst (v := 0) Γ dX5_valueOf_121 (by decide) ?_
            obtain ⟨v31, e32, hf⟩ := ya_ob hf
            refine g_vi (q := (RX5, TX5, 19)) (wr := [(A_t 9, eI cZ 6 d_t_side), (A_t 2, eI cI 6 d_t_heapOf), (A_t 7, eJ cJ 6 d_t_force)]) (ws' := [(A_t 9, eI cZ 6 d_t_side), (A_t 2, eI cI 6 d_t_heapOf), (A_t 7, eJ cJ 6 d_t_force), (h_t, oR A_t d_t_many d_t_below d_t_above1 d_t_below1), (A_t 0, eI cI 242 d_t_now)]) Γ (fun sz => mX5_get (l := l) (D := D) (sz := sz) (cI := cI) (cJ := cJ) (cZ := cZ) (cW := cW) (cR := cR) (h_t := h_t) (A_t := A_t) (hf := e32)) eX5_get gX5_valueOf_X5_get rfl rfl 0 rfl rfl rfl (Nat.le_of_ble_eq_true rfl) ⟨Nat.le_of_ble_eq_true rfl, Nat.le_of_ble_eq_true rfl⟩ dX5_valueOf_122 [1, 2] [0, 3, 4] rfl rfl rfl rfl (by decide) rfl ?_
            obtain ⟨v33, e34, hf⟩ := ya_ob hf
            refine g_zald Γ e34 0 2 rfl rfl dX5_valueOf_125 ?_
            refine g_if_eq Γ 134 dX5_valueOf_126 (by decide) (fun c35 => ?_) (fun c35 => ?_)
            · have hf := ya_if1 c35 hf
              refine g_lload Γ 0 dX5_valueOf_134 rfl ?_
              refine g_lneg Γ dX5_valueOf_136 ?_
              refine g_ladd Γ dX5_valueOf_137 ?_
              obtain ⟨v36, e37, hf⟩ := ya_lt_inv hf
              refine g_nml e37 ?_
              refine g_lstore_n (lv' := [(2, .long v36), (5, .long v29), (0, .ref h_t), (4, .int y4)]) Γ dX5_valueOf_138 (by decide) rfl ?_
              obtain ⟨v38, e39, hf⟩ := ya_lt_inv hf
              refine g_iinc (lv' := [(4, .int v38), (2, .long v36), (5, .long v29), (0, .ref h_t)]) Γ 3 dX5_valueOf_139 rfl (by rw [e39]; rfl) (by decide) rfl ?_
              refine g_goto Γ 43 dX5_valueOf_142 (by decide) ?_
              refine g_lv [3, 1, 0] rfl ?_
              refine g_ws (ws' := [(h_t, oR A_t d_t_many d_t_below d_t_above1 d_t_below1), (A_t 0, eI cI 242 d_t_now), (A_t 2, eI cI 6 d_t_heapOf), (A_t 7, eJ cJ 6 d_t_force), (A_t 9, eI cZ 6 d_t_side)]) [3, 4, 1, 2, 0] rfl rfl ?_
              exact ih _ _ _ _ _ _ _ _ _ _ _ hf hk
            · have hf := ya_if2 c35 hf
              refine g_lload Γ 0 dX5_valueOf_129 rfl ?_
              refine g_goto Γ 137 dX5_valueOf_131 (by decide) ?_
              refine g_ladd Γ dX5_valueOf_137 ?_
              obtain ⟨v40, e41, hf⟩ := ya_lt_inv hf
              refine g_nml e41 ?_
              refine g_lstore_n (lv' := [(2, .long v40), (5, .long v29), (0, .ref h_t), (4, .int y4)]) Γ dX5_valueOf_138 (by decide) rfl ?_
              obtain ⟨v42, e43, hf⟩ := ya_lt_inv hf
              refine g_iinc (lv' := [(4, .int v42), (2, .long v40), (5, .long v29), (0, .ref h_t)]) Γ 3 dX5_valueOf_139 rfl (by rw [e43]; rfl) (by decide) rfl ?_
              refine g_goto Γ 43 dX5_valueOf_142 (by decide) ?_
              refine g_lv [3, 1, 0] rfl ?_
              refine g_ws (ws' := [(h_t, oR A_t d_t_many d_t_below d_t_above1 d_t_below1), (A_t 0, eI cI 242 d_t_now), (A_t 2, eI cI 6 d_t_heapOf), (A_t 7, eJ cJ 6 d_t_force), (A_t 9, eI cZ 6 d_t_side)]) [3, 4, 1, 2, 0] rfl rfl ?_
              exact ih _ _ _ _ _ _ _ _ _ _ _ hf hk
          · have hf := ya_if1 c24 hf
            refine g_goto Γ 139 dX5_valueOf_88 (by decide) ?_
            obtain ⟨v44, e45, hf⟩ := ya_lt_inv hf
            refine g_iinc (lv' := [(4, .int v44), (0, .ref h_t), (2, .long y2)]) Γ 2 dX5_valueOf_139 rfl (by rw [e45]; rfl) (by decide) rfl ?_
            refine g_goto Γ 43 dX5_valueOf_142 (by decide) ?_
            refine g_lv [1, 2, 0] rfl ?_
            refine g_ws (ws' := [(h_t, oR A_t d_t_many d_t_below d_t_above1 d_t_below1), (A_t 0, eI cI 242 d_t_now), (A_t 2, eI cI 6 d_t_heapOf), (A_t 7, eJ cJ 6 d_t_force), (A_t 9, eI cZ 6 d_t_side)]) [3, 4, 0, 1, 2] rfl rfl ?_
            exact ih _ _ _ _ _ _ _ _ _ _ _ hf hk
  show yG p l e (headSpec wsX5_valueOf rmX5_valueOf).room s m (List.toArray [.ref h_t, .int x1]) below meth c D (va_A [(h_t, oR A_t c_t_many c_t_below c_t_above1 c_t_below1), (A_t 0, eI cI 242 c_t_now), (A_t 2, eI cI 6 c_t_heapOf), (A_t 7, eJ cJ 6 c_t_force), (A_t 9, eI cZ 6 c_t_side)] sz) 7 0 0 (MQ below (yQl D (yT cI cJ cZ cW cR) r [(h_t, oR A_t c_t_many c_t_below c_t_above1 c_t_below1), (A_t 0, eI cI 242 c_t_now), (A_t 2, eI cI 6 c_t_heapOf), (A_t 7, eJ cJ 6 c_t_force), (A_t 9, eI cZ 6 zc_t_side)] (va_A [(h_t, oR A_t c_t_many c_t_below c_t_above1 c_t_below1), (A_t 0, eI cI 242 c_t_now), (A_t 2, eI cI 6 c_t_heapOf), (A_t 7, eJ cJ 6 c_t_force), (A_t 9, eI cZ 6 c_t_side)] sz)) (List.toArray [.ref h_t, .int x1]) s 0 0 (va_A [(h_t, oR A_t c_t_many c_t_below c_t_above1 c_t_below1), (A_t 0, eI cI 242 c_t_now), (A_t 2, eI cI 6 c_t_heapOf), (A_t 7, eJ cJ 6 c_t_force), (A_t 9, eI cZ 6 c_t_side)] sz)) 0 [(0, .ref h_t), (1, .int x1)] [] [(h_t, oR A_t c_t_many c_t_below c_t_above1 c_t_below1), (A_t 0, eI cI 242 c_t_now), (A_t 2, eI cI 6 c_t_heapOf), (A_t 7, eJ cJ 6 c_t_force), (A_t 9, eI cZ 6 c_t_side)]
  unfold fX5_valueOf at hf
  refine g_aload_n Γ 0 dX5_valueOf_0 rfl ?_
  refine g_iload_n Γ 1 dX5_valueOf_1 rfl ?_
  obtain ⟨v1, e2, hf⟩ := ya_ob hf
  refine g_vi (q := (RX5, TX5, 19)) (wr := [(A_t 2, eI cI 6 c_t_heapOf), (A_t 7, eJ cJ 6 c_t_force), (A_t 9, eI cZ 6 c_t_side)]) (ws' := [(A_t 2, eI cI 6 c_t_heapOf), (A_t 7, eJ cJ 6 c_t_force), (A_t 9, eI cZ 6 c_t_side), (h_t, oR A_t c_t_many c_t_below c_t_above1 c_t_below1), (A_t 0, eI cI 242 c_t_now)]) Γ (fun sz => mX5_isRead (l := l) (D := D) (sz := sz) (cI := cI) (cJ := cJ) (cZ := cZ) (cW := cW) (cR := cR) (h_t := h_t) (A_t := A_t) (hf := e2)) eX5_isRead gX5_valueOf_X5_isRead rfl rfl 0 rfl rfl rfl (Nat.le_of_ble_eq_true rfl) ⟨Nat.le_of_ble_eq_true rfl, Nat.le_of_ble_eq_true rfl⟩ dX5_valueOf_2 [0, 1] [2, 3, 4] rfl rfl rfl rfl (by decide) rfl ?_
  refine g_if_eq Γ 27 dX5_valueOf_5 (by decide) (fun c3 => ?_) (fun c3 => ?_)
  · have hf := ya_if1 c3 hf
    refine g_aload_n Γ 0 dX5_valueOf_27 rfl ?_
    refine g_aload_n Γ 0 dX5_valueOf_28 rfl ?_
    refine g_iload_n Γ 1 dX5_valueOf_29 rfl ?_
    refine g_iconst (v := 1) Γ dX5_valueOf_30 (by decide) ?_
    obtain ⟨v4, e5, hf⟩ := ya_ob hf
    refine g_vi (q := (RX5, TX5, 19)) (wr := [(A_t 2, eI cI 6 c_t_heapOf), (A_t 7, eJ cJ 6 c_t_force), (A_t 9, eI cZ 6 c_t_side)]) (ws' := [(A_t 2, eI cI 6 c_t_heapOf), (A_t 7, eJ cJ 6 c_t_force), (A_t 9, eI cZ 6 c_t_side), (h_t, oR A_t c_t_many c_t_below c_t_above1 c_t_below1), (A_t 0, eI cI 242 c_t_now)]) Γ (fun sz => mX5_get (l := l) (D := D) (sz := sz) (cI := cI) (cJ := cJ) (cZ := cZ) (cW := cW) (cR := cR) (h_t := h_t) (A_t := A_t) (hf := e5)) eX5_get gX5_valueOf_X5_get rfl rfl 0 rfl rfl rfl (Nat.le_of_ble_eq_true rfl) ⟨Nat.le_of_ble_eq_true rfl, Nat.le_of_ble_eq_true rfl⟩ dX5_valueOf_31 [3, 4] [0, 1, 2] rfl rfl rfl rfl (by decide) rfl ?_
    refine g_iload_n Γ 1 dX5_valueOf_34 rfl ?_
    obtain ⟨v6, e7, hf⟩ := ya_ob hf
    refine g_vv (q := (RX5, TX5, 19)) (wr := [(A_t 2, eI cI 6 c_t_heapOf), (A_t 7, eJ cJ 6 c_t_force)]) (ws' := [(A_t 2, eI cI 6 c_t_heapOf), (A_t 7, eJ cJ 6 c_t_force), (h_t, oR A_t c_t_many c_t_below c_t_above1 c_t_below1), (A_t 0, eI cI 242 c_t_now), (A_t 9, eI cZ 6 v6)]) Γ (fun sz => mX5_sides (l := l) (D := D) (sz := sz) (cI := cI) (cJ := cJ) (cZ := cZ) (cW := cW) (cR := cR) (h_t := h_t) (A_t := A_t) (hf := e7)) eX5_sides gX5_valueOf_X5_sides rfl rfl 0 rfl rfl rfl (Nat.le_of_ble_eq_true rfl) ⟨Nat.le_of_ble_eq_true rfl, Nat.le_of_ble_eq_true rfl⟩ dX5_valueOf_35 [3, 4, 2] [0, 1] rfl rfl rfl rfl (by decide) rfl ?_
    refine g_lconst (v := 0) Γ dX5_valueOf_38 (by decide) ?_
    refine g_lstore_n (lv' := [(2, .long 0), (0, .ref h_t), (1, .int x1)]) Γ dX5_valueOf_39 (by decide) rfl ?_
    refine g_iconst (v := 0) Γ dX5_valueOf_40 (by decide) ?_
    refine g_istore (lv' := [(4, .int 0), (2, .long 0), (0, .ref h_t), (1, .int x1)]) Γ dX5_valueOf_41 (by decide) rfl ?_
    obtain ⟨v46, e47, hf⟩ := ya_ob hf
    refine g_lv [2, 1, 0] rfl ?_
    refine g_ws (ws' := [(h_t, oR A_t c_t_many c_t_below c_t_above1 c_t_below1), (A_t 0, eI cI 242 c_t_now), (A_t 2, eI cI 6 c_t_heapOf), (A_t 7, eJ cJ 6 c_t_force), (A_t 9, eI cZ 6 v6)]) [2, 3, 0, 1, 4] rfl rfl ?_
    refine loop43 N _ _ _ _ _ _ _ _ _ _ _ e47  ?_
    refine g_lload_n Γ 0 dX5_valueOf_145 rfl ?_
    cases hf
    exact g_lret Γ hr dX5_valueOf_146 [0, 1, 2, 3, 4] rfl rfl
  · have hf := ya_if2 c3 hf
    refine g_aload_n Γ 0 dX5_valueOf_8 rfl ?_
    refine g_iload_n Γ 1 dX5_valueOf_9 rfl ?_
    refine g_iconst (v := 3) Γ dX5_valueOf_10 (by decide) ?_
    obtain ⟨v48, e49, hf⟩ := ya_ob hf
    refine g_vi (q := (RX5, TX5, 19)) (wr := [(A_t 2, eI cI 6 c_t_heapOf), (A_t 7, eJ cJ 6 c_t_force), (A_t 9, eI cZ 6 c_t_side)]) (ws' := [(A_t 2, eI cI 6 c_t_heapOf), (A_t 7, eJ cJ 6 c_t_force), (A_t 9, eI cZ 6 c_t_side), (h_t, oR A_t c_t_many c_t_below c_t_above1 c_t_below1), (A_t 0, eI cI 242 c_t_now)]) Γ (fun sz => mX5_get (l := l) (D := D) (sz := sz) (cI := cI) (cJ := cJ) (cZ := cZ) (cW := cW) (cR := cR) (h_t := h_t) (A_t := A_t) (hf := e49)) eX5_get gX5_valueOf_X5_get rfl rfl 0 rfl rfl rfl (Nat.le_of_ble_eq_true rfl) ⟨Nat.le_of_ble_eq_true rfl, Nat.le_of_ble_eq_true rfl⟩ dX5_valueOf_11 [3, 4] [0, 1, 2] rfl rfl rfl rfl (by decide) rfl ?_
    refine g_i2l Γ dX5_valueOf_14 ?_
    refine g_aload_n Γ 0 dX5_valueOf_15 rfl ?_
    refine g_get Γ fX5_valueOf_104 3 rfl rfl dX5_valueOf_16 ?_
    refine g_lmul Γ dX5_valueOf_19 ?_
    refine g_aload_n Γ 0 dX5_valueOf_20 rfl ?_
    refine g_iload_n Γ 1 dX5_valueOf_21 rfl ?_
    obtain ⟨v50, e51, hf⟩ := ya_ob hf
    refine g_vl (q := (RX5, TX5, 19)) (wr := [(A_t 9, eI cZ 6 c_t_side)]) (ws' := [(A_t 9, eI cZ 6 c_t_side), (h_t, oR A_t c_t_many c_t_below c_t_above1 c_t_below1), (A_t 0, eI cI 242 c_t_now), (A_t 2, eI cI 6 c_t_heapOf), (A_t 7, eJ cJ 6 c_t_force)]) Γ (fun sz => mX5_changeOf (l := l) (D := D) (sz := sz) (cI := cI) (cJ := cJ) (cZ := cZ) (cW := cW) (cR := cR) (h_t := h_t) (A_t := A_t) (hf := e51)) eX5_changeOf gX5_valueOf_X5_changeOf rfl rfl 0 rfl rfl rfl (Nat.le_of_ble_eq_true rfl) ⟨Nat.le_of_ble_eq_true rfl, Nat.le_of_ble_eq_true rfl⟩ dX5_valueOf_22 [3, 4, 0, 1] [2] rfl rfl rfl rfl (by decide) rfl ?_
    refine g_ladd Γ dX5_valueOf_25 ?_
    cases hf
    exact g_lret Γ hr dX5_valueOf_26 [1, 2, 3, 4, 0] rfl rfl

set_option maxRecDepth 20000 in
theorem ggX5_value_X5_isFlow : GoodIn wsX5_value wsX5_isFlow := goodIn_r _ [7, 8, 9, 10, 6, 11, 12, 13, 14, 15, 77, 78, 79, 80, 81, 82, 83, 84, 85, 86, 87, 88, 89, 90, 91, 92, 93, 94, 95] rfl (by decide +kernel)
set_option maxRecDepth 20000 in
theorem gX5_value_X5_isFlow : GoodIn wsX5_value (wsV RX5 83 RX5 yX5_isFlow wsX5_isFlow) := goodIn_app (goodIn_of _ (by decide +kernel)) ggX5_value_X5_isFlow
set_option maxRecDepth 20000 in
theorem ggX5_value_X5_isWhat : GoodIn wsX5_value wsX5_isWhat := goodIn_r _ [18] rfl (by decide +kernel)
set_option maxRecDepth 20000 in
theorem gX5_value_X5_isWhat : GoodIn wsX5_value (va_wsS RX5 114 yX5_isWhat wsX5_isWhat) := goodIn_app (goodIn_of _ (by decide +kernel)) ggX5_value_X5_isWhat
set_option maxRecDepth 20000 in
theorem ggX5_value_X5_isSeen : GoodIn wsX5_value wsX5_isSeen := goodIn_r _ [22, 23, 24, 25, 26, 6, 27, 28, 29, 30, 31, 12, 32, 33, 34, 35, 8, 9, 10, 11, 77, 78, 79, 80, 81, 82, 83, 84, 85, 86, 87, 88, 89, 90, 91, 92, 93, 94, 95] rfl (by decide +kernel)
set_option maxRecDepth 20000 in
theorem gX5_value_X5_isSeen : GoodIn wsX5_value (wsV RX5 136 RX5 yX5_isSeen wsX5_isSeen) := goodIn_app (goodIn_of _ (by decide +kernel)) ggX5_value_X5_isSeen
set_option maxRecDepth 20000 in
theorem ggX5_value_X5_solves : GoodIn wsX5_value wsX5_solves := goodIn_r _ [39, 40, 41, 42, 43, 44, 45, 2, 46, 47, 48, 49, 6, 50, 8, 9, 10, 11, 12, 24, 25, 26, 27, 28, 29, 30, 31, 51, 52, 53, 54, 55, 56, 57, 58, 59, 60, 61, 62, 77, 78, 79, 80, 81, 82, 83, 84, 85, 86, 87, 88, 89, 90, 91, 92, 93, 94, 95] rfl (by decide +kernel)
set_option maxRecDepth 20000 in
theorem gX5_value_X5_solves : GoodIn wsX5_value (wsV RX5 117 RX5 yX5_solves wsX5_solves) := goodIn_app (goodIn_of _ (by decide +kernel)) ggX5_value_X5_solves
set_option maxRecDepth 20000 in
theorem ggX5_value_X5_valueOf : GoodIn wsX5_value wsX5_valueOf := goodIn_r _ [66, 2, 23, 24, 25, 26, 6, 27, 28, 29, 30, 31, 12, 67, 68, 69, 70, 46, 41, 32, 33, 34, 35, 8, 9, 10, 11, 77, 78, 79, 80, 81, 82, 83, 84, 85, 86, 87, 88, 89, 90, 91, 92, 93, 94, 95] rfl (by decide +kernel)
set_option maxRecDepth 20000 in
theorem gX5_value_X5_valueOf : GoodIn wsX5_value (wsV RX5 139 RX5 yX5_valueOf wsX5_valueOf) := goodIn_app (goodIn_of _ (by decide +kernel)) ggX5_value_X5_valueOf
set_option maxRecDepth 20000 in
theorem ggX5_value_X5_told : GoodIn wsX5_value wsX5_told := goodIn_r _ [73, 1, 74, 75, 6, 76] rfl (by decide +kernel)
set_option maxRecDepth 20000 in
theorem gX5_value_X5_told : GoodIn wsX5_value (va_wsS RX5 124 yX5_told wsX5_told) := goodIn_app (goodIn_of _ (by decide +kernel)) ggX5_value_X5_told
theorem dX5_value_0 : decode cX5_value 0 = .ok (.aload_n 0, 1) := by decide +kernel
theorem dX5_value_1 : decode cX5_value 1 = .ok (.iload_n 1, 1) := by decide +kernel
theorem dX5_value_2 : decode cX5_value 2 = .ok (.invokevirtual 83, 3) := by decide +kernel
theorem dX5_value_5 : decode cX5_value 5 = .ok (.ifCond .eq 18, 3) := by decide +kernel
theorem dX5_value_8 : decode cX5_value 8 = .ok (.iload_n 2, 1) := by decide +kernel
theorem dX5_value_9 : decode cX5_value 9 = .ok (.invokestatic 114, 3) := by decide +kernel
theorem dX5_value_12 : decode cX5_value 12 = .ok (.ifCond .eq 11, 3) := by decide +kernel
theorem dX5_value_15 : decode cX5_value 15 = .ok (.aload_n 0, 1) := by decide +kernel
theorem dX5_value_16 : decode cX5_value 16 = .ok (.iload_n 1, 1) := by decide +kernel
theorem dX5_value_17 : decode cX5_value 17 = .ok (.invokevirtual 136, 3) := by decide +kernel
theorem dX5_value_20 : decode cX5_value 20 = .ok (.ifCond .ne 7, 3) := by decide +kernel
theorem dX5_value_23 : decode cX5_value 23 = .ok (.ldc2_w 112, 3) := by decide +kernel
theorem dX5_value_26 : decode cX5_value 26 = .ok (.lreturn, 1) := by decide +kernel
theorem dX5_value_27 : decode cX5_value 27 = .ok (.aload_n 0, 1) := by decide +kernel
theorem dX5_value_28 : decode cX5_value 28 = .ok (.invokevirtual 117, 3) := by decide +kernel
theorem dX5_value_31 : decode cX5_value 31 = .ok (.aload_n 0, 1) := by decide +kernel
theorem dX5_value_32 : decode cX5_value 32 = .ok (.iload_n 1, 1) := by decide +kernel
theorem dX5_value_33 : decode cX5_value 33 = .ok (.invokevirtual 139, 3) := by decide +kernel
theorem dX5_value_36 : decode cX5_value 36 = .ok (.aload_n 0, 1) := by decide +kernel
theorem dX5_value_37 : decode cX5_value 37 = .ok (.getfield 104, 3) := by decide +kernel
theorem dX5_value_40 : decode cX5_value 40 = .ok (.iload_n 2, 1) := by decide +kernel
theorem dX5_value_41 : decode cX5_value 41 = .ok (.invokestatic 124, 3) := by decide +kernel
theorem dX5_value_44 : decode cX5_value 44 = .ok (.lreturn, 1) := by decide +kernel
/-! ===== FlowMetersModel.value(II)J ===== -/
def fX5_value (N : Nat) (c_t_below : Int64) (c_t_now : Nat → Int32) (c_t_heapOf : Nat → Int32) (c_t_partOf : Nat → Int32) (c_t_place : Nat → Int32) (c_t_matrix : Nat → Int64) (c_t_right : Nat → Int64) (c_t_force : Nat → Int64) (c_t_work : Nat → Int64) (c_t_side : Nat → Int32) (x1 : Int32) (x2 : Int32) : Option (Int64 × Int64 × (Nat → Int32) × (Nat → Int32) × (Nat → Int32) × (Nat → Int64) × (Nat → Int64) × (Nat → Int64) × (Nat → Int64) × (Nat → Int32)) :=
  (fX5_isFlow c_t_now x1).bind fun v1 =>
  (if v1 = 0 then
    some ((-1), c_t_below, c_t_heapOf, c_t_partOf, c_t_place, c_t_matrix, c_t_right, c_t_force, c_t_work, c_t_side)
  else
    (fX5_isWhat x2).bind fun v4 =>
    (if v4 = 0 then
      some ((-1), c_t_below, c_t_heapOf, c_t_partOf, c_t_place, c_t_matrix, c_t_right, c_t_force, c_t_work, c_t_side)
    else
      (fX5_isSeen N c_t_now c_t_side x1).bind fun (v7, v8) =>
      (if v7 = 0 then
        some ((-1), c_t_below, c_t_heapOf, c_t_partOf, c_t_place, c_t_matrix, c_t_right, c_t_force, c_t_work, v8)
      else
        (fX5_solves N c_t_below c_t_now c_t_heapOf c_t_partOf c_t_place c_t_matrix c_t_right c_t_force c_t_work).bind fun (v11, v12, v13, v14, v15, v16, v17, v18) =>
        (fX5_valueOf N v11 c_t_now v12 v17 v8 x1).bind fun (v20, v21) =>
        (fX5_told N v20 v11 x2).bind fun v23 =>
        some (v23, v11, v12, v13, v14, v15, v16, v17, v18, v21))))
theorem fX5_value_104 : yF wsX5_value RX5 104 5 10 RX5 TX5 19 := ⟨rfl, by decide, by decide +kernel, by decide +kernel⟩
abbrev rmX5_value : Room := { frames := 9, cells := 0, slots := 0, locals := 336 }
theorem eX5_value : yY yX5_value wsX5_value cX5_value 3 (some .long) rmX5_value 2 := ⟨⟨_, rfl⟩, rfl, rfl, by decide, by decide, by decide +kernel⟩
set_option maxHeartbeats 4000000 in
set_option maxRecDepth 100000 in
theorem mX5_value {l : Launch} {D : va_G} {sz : Nat} {cI cJ cZ cW cR : ClassId} {N : Nat} {h_t : Nat} {A_t : Nat → Nat} {c_t_many : Int32} {c_t_below : Int64} {c_t_above1 : Int64} {c_t_below1 : Int64} {c_t_now : Nat → Int32} {c_t_heapOf : Nat → Int32} {c_t_partOf : Nat → Int32} {c_t_place : Nat → Int32} {c_t_matrix : Nat → Int64} {c_t_right : Nat → Int64} {c_t_force : Nat → Int64} {c_t_work : Nat → Int64} {c_t_side : Nat → Int32} {x1 : Int32} {x2 : Int32} {r : Int64} {zc_t_below : Int64} {zc_t_heapOf : Nat → Int32} {zc_t_partOf : Nat → Int32} {zc_t_place : Nat → Int32} {zc_t_matrix : Nat → Int64} {zc_t_right : Nat → Int64} {zc_t_force : Nat → Int64} {zc_t_work : Nat → Int64} {zc_t_side : Nat → Int32} (hf : fX5_value N c_t_below c_t_now c_t_heapOf c_t_partOf c_t_place c_t_matrix c_t_right c_t_force c_t_work c_t_side x1 x2 = some (r, zc_t_below, zc_t_heapOf, zc_t_partOf, zc_t_place, zc_t_matrix, zc_t_right, zc_t_force, zc_t_work, zc_t_side)) : Met l yX5_value wsX5_value rmX5_value (yP D (yT cI cJ cZ cW cR) [(h_t, oR A_t c_t_many c_t_below c_t_above1 c_t_below1), (A_t 0, eI cI 242 c_t_now), (A_t 2, eI cI 6 c_t_heapOf), (A_t 3, eI cI 6 c_t_partOf), (A_t 4, eI cI 6 c_t_place), (A_t 5, eJ cJ 36 c_t_matrix), (A_t 6, eJ cJ 6 c_t_right), (A_t 7, eJ cJ 6 c_t_force), (A_t 8, eJ cJ 216 c_t_work), (A_t 9, eI cZ 6 c_t_side)] sz [.ref h_t, .int x1, .int x2]) (yQl D (yT cI cJ cZ cW cR) r [(h_t, oR A_t c_t_many zc_t_below c_t_above1 c_t_below1), (A_t 0, eI cI 242 c_t_now), (A_t 2, eI cI 6 zc_t_heapOf), (A_t 3, eI cI 6 zc_t_partOf), (A_t 4, eI cI 6 zc_t_place), (A_t 5, eJ cJ 36 zc_t_matrix), (A_t 6, eJ cJ 6 zc_t_right), (A_t 7, eJ cJ 6 zc_t_force), (A_t 8, eJ cJ 216 zc_t_work), (A_t 9, eI cZ 6 zc_t_side)] (va_A [(h_t, oR A_t c_t_many c_t_below c_t_above1 c_t_below1), (A_t 0, eI cI 242 c_t_now), (A_t 2, eI cI 6 c_t_heapOf), (A_t 3, eI cI 6 c_t_partOf), (A_t 4, eI cI 6 c_t_place), (A_t 5, eJ cJ 36 c_t_matrix), (A_t 6, eJ cJ 6 c_t_right), (A_t 7, eJ cJ 6 c_t_force), (A_t 8, eJ cJ 216 c_t_work), (A_t 9, eI cZ 6 c_t_side)] sz)) 0 0 (va_A [(h_t, oR A_t c_t_many c_t_below c_t_above1 c_t_below1), (A_t 0, eI cI 242 c_t_now), (A_t 2, eI cI 6 c_t_heapOf), (A_t 3, eI cI 6 c_t_partOf), (A_t 4, eI cI 6 c_t_place), (A_t 5, eJ cJ 36 c_t_matrix), (A_t 6, eJ cJ 6 c_t_right), (A_t 7, eJ cJ 6 c_t_force), (A_t 8, eJ cJ 216 c_t_work), (A_t 9, eI cZ 6 c_t_side)] sz) := by
  refine yM (cc := cX5_value) (maxL := 3) (ret := (some .long)) RX5 (by decide) rfl rfl (Nat.le_of_ble_eq_true rfl) ?_
  intro p e s m below meth c Γ hr
  show yG p l e (headSpec wsX5_value rmX5_value).room s m (List.toArray [.ref h_t, .int x1, .int x2]) below meth c D (va_A [(h_t, oR A_t c_t_many c_t_below c_t_above1 c_t_below1), (A_t 0, eI cI 242 c_t_now), (A_t 2, eI cI 6 c_t_heapOf), (A_t 3, eI cI 6 c_t_partOf), (A_t 4, eI cI 6 c_t_place), (A_t 5, eJ cJ 36 c_t_matrix), (A_t 6, eJ cJ 6 c_t_right), (A_t 7, eJ cJ 6 c_t_force), (A_t 8, eJ cJ 216 c_t_work), (A_t 9, eI cZ 6 c_t_side)] sz) 3 0 0 (MQ below (yQl D (yT cI cJ cZ cW cR) r [(h_t, oR A_t c_t_many zc_t_below c_t_above1 c_t_below1), (A_t 0, eI cI 242 c_t_now), (A_t 2, eI cI 6 zc_t_heapOf), (A_t 3, eI cI 6 zc_t_partOf), (A_t 4, eI cI 6 zc_t_place), (A_t 5, eJ cJ 36 zc_t_matrix), (A_t 6, eJ cJ 6 zc_t_right), (A_t 7, eJ cJ 6 zc_t_force), (A_t 8, eJ cJ 216 zc_t_work), (A_t 9, eI cZ 6 zc_t_side)] (va_A [(h_t, oR A_t c_t_many c_t_below c_t_above1 c_t_below1), (A_t 0, eI cI 242 c_t_now), (A_t 2, eI cI 6 c_t_heapOf), (A_t 3, eI cI 6 c_t_partOf), (A_t 4, eI cI 6 c_t_place), (A_t 5, eJ cJ 36 c_t_matrix), (A_t 6, eJ cJ 6 c_t_right), (A_t 7, eJ cJ 6 c_t_force), (A_t 8, eJ cJ 216 c_t_work), (A_t 9, eI cZ 6 c_t_side)] sz)) (List.toArray [.ref h_t, .int x1, .int x2]) s 0 0 (va_A [(h_t, oR A_t c_t_many c_t_below c_t_above1 c_t_below1), (A_t 0, eI cI 242 c_t_now), (A_t 2, eI cI 6 c_t_heapOf), (A_t 3, eI cI 6 c_t_partOf), (A_t 4, eI cI 6 c_t_place), (A_t 5, eJ cJ 36 c_t_matrix), (A_t 6, eJ cJ 6 c_t_right), (A_t 7, eJ cJ 6 c_t_force), (A_t 8, eJ cJ 216 c_t_work), (A_t 9, eI cZ 6 c_t_side)] sz)) 0 [(0, .ref h_t), (1, .int x1), (2, .int x2)] [] [(h_t, oR A_t c_t_many c_t_below c_t_above1 c_t_below1), (A_t 0, eI cI 242 c_t_now), (A_t 2, eI cI 6 c_t_heapOf), (A_t 3, eI cI 6 c_t_partOf), (A_t 4, eI cI 6 c_t_place), (A_t 5, eJ cJ 36 c_t_matrix), (A_t 6, eJ cJ 6 c_t_right), (A_t 7, eJ cJ 6 c_t_force), (A_t 8, eJ cJ 216 c_t_work), (A_t 9, eI cZ 6 c_t_side)]
  unfold fX5_value at hf
  refine g_aload_n Γ 0 dX5_value_0 rfl ?_
  refine g_iload_n Γ 1 dX5_value_1 rfl ?_
  obtain ⟨v1, e2, hf⟩ := ya_ob hf
  refine g_vi (q := (RX5, TX5, 19)) (wr := [(A_t 2, eI cI 6 c_t_heapOf), (A_t 3, eI cI 6 c_t_partOf), (A_t 4, eI cI 6 c_t_place), (A_t 5, eJ cJ 36 c_t_matrix), (A_t 6, eJ cJ 6 c_t_right), (A_t 7, eJ cJ 6 c_t_force), (A_t 8, eJ cJ 216 c_t_work), (A_t 9, eI cZ 6 c_t_side)]) (ws' := [(A_t 2, eI cI 6 c_t_heapOf), (A_t 3, eI cI 6 c_t_partOf), (A_t 4, eI cI 6 c_t_place), (A_t 5, eJ cJ 36 c_t_matrix), (A_t 6, eJ cJ 6 c_t_right), (A_t 7, eJ cJ 6 c_t_force), (A_t 8, eJ cJ 216 c_t_work), (A_t 9, eI cZ 6 c_t_side), (h_t, oR A_t c_t_many c_t_below c_t_above1 c_t_below1), (A_t 0, eI cI 242 c_t_now)]) Γ (fun sz => mX5_isFlow (l := l) (D := D) (sz := sz) (cI := cI) (cJ := cJ) (cZ := cZ) (cW := cW) (cR := cR) (h_t := h_t) (A_t := A_t) (hf := e2)) eX5_isFlow gX5_value_X5_isFlow rfl rfl 0 rfl rfl rfl (Nat.le_of_ble_eq_true rfl) ⟨Nat.le_of_ble_eq_true rfl, Nat.le_of_ble_eq_true rfl⟩ dX5_value_2 [0, 1] [2, 3, 4, 5, 6, 7, 8, 9] rfl rfl rfl rfl (by decide) rfl ?_
  refine g_if_eq Γ 23 dX5_value_5 (by decide) (fun c3 => ?_) (fun c3 => ?_)
  · have hf := ya_if1 c3 hf
    refine g_ldc2 (v := (-1)) Γ dX5_value_23 (by decide +kernel) ?_
    cases hf
    exact g_lret Γ hr dX5_value_26 [8, 9, 0, 1, 2, 3, 4, 5, 6, 7] rfl rfl
  · have hf := ya_if2 c3 hf
    refine g_iload_n Γ 2 dX5_value_8 rfl ?_
    obtain ⟨v4, e5, hf⟩ := ya_ob hf
    refine g_si (wr := [(A_t 2, eI cI 6 c_t_heapOf), (A_t 3, eI cI 6 c_t_partOf), (A_t 4, eI cI 6 c_t_place), (A_t 5, eJ cJ 36 c_t_matrix), (A_t 6, eJ cJ 6 c_t_right), (A_t 7, eJ cJ 6 c_t_force), (A_t 8, eJ cJ 216 c_t_work), (A_t 9, eI cZ 6 c_t_side), (h_t, oR A_t c_t_many c_t_below c_t_above1 c_t_below1), (A_t 0, eI cI 242 c_t_now)]) (ws' := [(A_t 2, eI cI 6 c_t_heapOf), (A_t 3, eI cI 6 c_t_partOf), (A_t 4, eI cI 6 c_t_place), (A_t 5, eJ cJ 36 c_t_matrix), (A_t 6, eJ cJ 6 c_t_right), (A_t 7, eJ cJ 6 c_t_force), (A_t 8, eJ cJ 216 c_t_work), (A_t 9, eI cZ 6 c_t_side), (h_t, oR A_t c_t_many c_t_below c_t_above1 c_t_below1), (A_t 0, eI cI 242 c_t_now)]) Γ (fun sz => mX5_isWhat (l := l) (D := D) (sz := sz) (cI := cI) (cJ := cJ) (cZ := cZ) (cW := cW) (cR := cR)  (hf := e5)) eX5_isWhat ggX5_value_X5_isWhat (by decide +kernel) (by decide +kernel) (by decide +kernel) rfl rfl (Nat.le_of_ble_eq_true rfl) ⟨Nat.le_of_ble_eq_true rfl, Nat.le_of_ble_eq_true rfl⟩ dX5_value_9 [] [0, 1, 2, 3, 4, 5, 6, 7, 8, 9] rfl rfl rfl rfl (by decide) rfl ?_
    refine g_if_eq Γ 23 dX5_value_12 (by decide) (fun c6 => ?_) (fun c6 => ?_)
    · have hf := ya_if1 c6 hf
      refine g_ldc2 (v := (-1)) Γ dX5_value_23 (by decide +kernel) ?_
      cases hf
      exact g_lret Γ hr dX5_value_26 [8, 9, 0, 1, 2, 3, 4, 5, 6, 7] rfl rfl
    · have hf := ya_if2 c6 hf
      refine g_aload_n Γ 0 dX5_value_15 rfl ?_
      refine g_iload_n Γ 1 dX5_value_16 rfl ?_
      obtain ⟨⟨v7, v8⟩, e9, hf⟩ := ya_ob hf
      refine g_vi (q := (RX5, TX5, 19)) (wr := [(A_t 2, eI cI 6 c_t_heapOf), (A_t 3, eI cI 6 c_t_partOf), (A_t 4, eI cI 6 c_t_place), (A_t 5, eJ cJ 36 c_t_matrix), (A_t 6, eJ cJ 6 c_t_right), (A_t 7, eJ cJ 6 c_t_force), (A_t 8, eJ cJ 216 c_t_work)]) (ws' := [(A_t 2, eI cI 6 c_t_heapOf), (A_t 3, eI cI 6 c_t_partOf), (A_t 4, eI cI 6 c_t_place), (A_t 5, eJ cJ 36 c_t_matrix), (A_t 6, eJ cJ 6 c_t_right), (A_t 7, eJ cJ 6 c_t_force), (A_t 8, eJ cJ 216 c_t_work), (h_t, oR A_t c_t_many c_t_below c_t_above1 c_t_below1), (A_t 0, eI cI 242 c_t_now), (A_t 9, eI cZ 6 v8)]) Γ (fun sz => mX5_isSeen (l := l) (D := D) (sz := sz) (cI := cI) (cJ := cJ) (cZ := cZ) (cW := cW) (cR := cR) (h_t := h_t) (A_t := A_t) (hf := e9)) eX5_isSeen gX5_value_X5_isSeen rfl rfl 0 rfl rfl rfl (Nat.le_of_ble_eq_true rfl) ⟨Nat.le_of_ble_eq_true rfl, Nat.le_of_ble_eq_true rfl⟩ dX5_value_17 [8, 9, 7] [0, 1, 2, 3, 4, 5, 6] rfl rfl rfl rfl (by decide) rfl ?_
      refine g_if_ne Γ 27 dX5_value_20 (by decide) (fun c10 => ?_) (fun c10 => ?_)
      · have hf := ya_if2 c10 hf
        refine g_aload_n Γ 0 dX5_value_27 rfl ?_
        obtain ⟨⟨v11, v12, v13, v14, v15, v16, v17, v18⟩, e19, hf⟩ := ya_ob hf
        refine g_vv (q := (RX5, TX5, 19)) (wr := [(A_t 9, eI cZ 6 v8)]) (ws' := [(A_t 9, eI cZ 6 v8), (h_t, oR A_t c_t_many v11 c_t_above1 c_t_below1), (A_t 0, eI cI 242 c_t_now), (A_t 2, eI cI 6 v12), (A_t 3, eI cI 6 v13), (A_t 4, eI cI 6 v14), (A_t 5, eJ cJ 36 v15), (A_t 6, eJ cJ 6 v16), (A_t 7, eJ cJ 6 v17), (A_t 8, eJ cJ 216 v18)]) Γ (fun sz => mX5_solves (l := l) (D := D) (sz := sz) (cI := cI) (cJ := cJ) (cZ := cZ) (cW := cW) (cR := cR) (h_t := h_t) (A_t := A_t) (hf := e19)) eX5_solves gX5_value_X5_solves rfl rfl 0 rfl rfl rfl (Nat.le_of_ble_eq_true rfl) ⟨Nat.le_of_ble_eq_true rfl, Nat.le_of_ble_eq_true rfl⟩ dX5_value_28 [7, 8, 0, 1, 2, 3, 4, 5, 6] [9] rfl rfl rfl rfl (by decide) rfl ?_
        refine g_aload_n Γ 0 dX5_value_31 rfl ?_
        refine g_iload_n Γ 1 dX5_value_32 rfl ?_
        obtain ⟨⟨v20, v21⟩, e22, hf⟩ := ya_ob hf
        refine g_vl (q := (RX5, TX5, 19)) (wr := [(A_t 3, eI cI 6 v13), (A_t 4, eI cI 6 v14), (A_t 5, eJ cJ 36 v15), (A_t 6, eJ cJ 6 v16), (A_t 8, eJ cJ 216 v18)]) (ws' := [(A_t 3, eI cI 6 v13), (A_t 4, eI cI 6 v14), (A_t 5, eJ cJ 36 v15), (A_t 6, eJ cJ 6 v16), (A_t 8, eJ cJ 216 v18), (h_t, oR A_t c_t_many v11 c_t_above1 c_t_below1), (A_t 0, eI cI 242 c_t_now), (A_t 2, eI cI 6 v12), (A_t 7, eJ cJ 6 v17), (A_t 9, eI cZ 6 v21)]) Γ (fun sz => mX5_valueOf (l := l) (D := D) (sz := sz) (cI := cI) (cJ := cJ) (cZ := cZ) (cW := cW) (cR := cR) (h_t := h_t) (A_t := A_t) (hf := e22)) eX5_valueOf gX5_value_X5_valueOf rfl rfl 0 rfl rfl rfl (Nat.le_of_ble_eq_true rfl) ⟨Nat.le_of_ble_eq_true rfl, Nat.le_of_ble_eq_true rfl⟩ dX5_value_33 [1, 2, 3, 8, 0] [4, 5, 6, 7, 9] rfl rfl rfl rfl (by decide) rfl ?_
        refine g_aload_n Γ 0 dX5_value_36 rfl ?_
        refine g_get Γ fX5_value_104 5 rfl rfl dX5_value_37 ?_
        refine g_iload_n Γ 2 dX5_value_40 rfl ?_
        obtain ⟨v23, e24, hf⟩ := ya_ob hf
        refine g_sl (wr := [(A_t 3, eI cI 6 v13), (A_t 4, eI cI 6 v14), (A_t 5, eJ cJ 36 v15), (A_t 6, eJ cJ 6 v16), (A_t 8, eJ cJ 216 v18), (h_t, oR A_t c_t_many v11 c_t_above1 c_t_below1), (A_t 0, eI cI 242 c_t_now), (A_t 2, eI cI 6 v12), (A_t 7, eJ cJ 6 v17), (A_t 9, eI cZ 6 v21)]) (ws' := [(A_t 3, eI cI 6 v13), (A_t 4, eI cI 6 v14), (A_t 5, eJ cJ 36 v15), (A_t 6, eJ cJ 6 v16), (A_t 8, eJ cJ 216 v18), (h_t, oR A_t c_t_many v11 c_t_above1 c_t_below1), (A_t 0, eI cI 242 c_t_now), (A_t 2, eI cI 6 v12), (A_t 7, eJ cJ 6 v17), (A_t 9, eI cZ 6 v21)]) Γ (fun sz => mX5_told (l := l) (D := D) (sz := sz) (cI := cI) (cJ := cJ) (cZ := cZ) (cW := cW) (cR := cR)  (hf := e24)) eX5_told ggX5_value_X5_told (by decide +kernel) (by decide +kernel) (by decide +kernel) rfl rfl (Nat.le_of_ble_eq_true rfl) ⟨Nat.le_of_ble_eq_true rfl, Nat.le_of_ble_eq_true rfl⟩ dX5_value_41 [] [0, 1, 2, 3, 4, 5, 6, 7, 8, 9] rfl rfl rfl rfl (by decide) rfl ?_
        cases hf
        exact g_lret Γ hr dX5_value_44 [5, 6, 7, 0, 1, 2, 3, 8, 4, 9] rfl rfl
      · have hf := ya_if1 c10 hf
        refine g_ldc2 (v := (-1)) Γ dX5_value_23 (by decide +kernel) ?_
        cases hf
        exact g_lret Γ hr dX5_value_26 [7, 8, 0, 1, 2, 3, 4, 5, 6, 9] rfl rfl

set_option maxRecDepth 20000 in
theorem ggX5_leads_X5_get : GoodIn wsX5_leads wsX5_get := goodIn_r _ [6, 7, 8, 9, 10, 11, 12, 13, 14, 15, 16, 17, 18, 19, 20, 21, 22, 23, 24, 25, 26] rfl (by decide +kernel)
set_option maxRecDepth 20000 in
theorem gX5_leads_X5_get : GoodIn wsX5_leads (wsV RX5 86 RX5 yX5_get wsX5_get) := goodIn_app (goodIn_of _ (by decide +kernel)) ggX5_leads_X5_get
theorem dX5_leads_0 : decode cX5_leads 0 = .ok (.aload_n 0, 1) := by decide +kernel
theorem dX5_leads_1 : decode cX5_leads 1 = .ok (.iload_n 1, 1) := by decide +kernel
theorem dX5_leads_2 : decode cX5_leads 2 = .ok (.iconst 0, 1) := by decide +kernel
theorem dX5_leads_3 : decode cX5_leads 3 = .ok (.invokevirtual 86, 3) := by decide +kernel
theorem dX5_leads_6 : decode cX5_leads 6 = .ok (.iload_n 2, 1) := by decide +kernel
theorem dX5_leads_7 : decode cX5_leads 7 = .ok (.if_icmp .ne 25, 3) := by decide +kernel
theorem dX5_leads_10 : decode cX5_leads 10 = .ok (.aload_n 0, 1) := by decide +kernel
theorem dX5_leads_11 : decode cX5_leads 11 = .ok (.getfield 42, 3) := by decide +kernel
theorem dX5_leads_14 : decode cX5_leads 14 = .ok (.aload_n 0, 1) := by decide +kernel
theorem dX5_leads_15 : decode cX5_leads 15 = .ok (.iload_n 1, 1) := by decide +kernel
theorem dX5_leads_16 : decode cX5_leads 16 = .ok (.iconst 1, 1) := by decide +kernel
theorem dX5_leads_17 : decode cX5_leads 17 = .ok (.invokevirtual 86, 3) := by decide +kernel
theorem dX5_leads_20 : decode cX5_leads 20 = .ok (.iaload, 1) := by decide +kernel
theorem dX5_leads_21 : decode cX5_leads 21 = .ok (.aload_n 0, 1) := by decide +kernel
theorem dX5_leads_22 : decode cX5_leads 22 = .ok (.getfield 42, 3) := by decide +kernel
theorem dX5_leads_25 : decode cX5_leads 25 = .ok (.iload_n 2, 1) := by decide +kernel
theorem dX5_leads_26 : decode cX5_leads 26 = .ok (.iaload, 1) := by decide +kernel
theorem dX5_leads_27 : decode cX5_leads 27 = .ok (.iconst 1, 1) := by decide +kernel
theorem dX5_leads_28 : decode cX5_leads 28 = .ok (.isub, 1) := by decide +kernel
theorem dX5_leads_29 : decode cX5_leads 29 = .ok (.if_icmp .eq 35, 3) := by decide +kernel
theorem dX5_leads_32 : decode cX5_leads 32 = .ok (.aload_n 0, 1) := by decide +kernel
theorem dX5_leads_33 : decode cX5_leads 33 = .ok (.iload_n 1, 1) := by decide +kernel
theorem dX5_leads_34 : decode cX5_leads 34 = .ok (.iconst 1, 1) := by decide +kernel
theorem dX5_leads_35 : decode cX5_leads 35 = .ok (.invokevirtual 86, 3) := by decide +kernel
theorem dX5_leads_38 : decode cX5_leads 38 = .ok (.iload_n 2, 1) := by decide +kernel
theorem dX5_leads_39 : decode cX5_leads 39 = .ok (.if_icmp .ne 29, 3) := by decide +kernel
theorem dX5_leads_42 : decode cX5_leads 42 = .ok (.aload_n 0, 1) := by decide +kernel
theorem dX5_leads_43 : decode cX5_leads 43 = .ok (.getfield 42, 3) := by decide +kernel
theorem dX5_leads_46 : decode cX5_leads 46 = .ok (.aload_n 0, 1) := by decide +kernel
theorem dX5_leads_47 : decode cX5_leads 47 = .ok (.iload_n 1, 1) := by decide +kernel
theorem dX5_leads_48 : decode cX5_leads 48 = .ok (.iconst 0, 1) := by decide +kernel
theorem dX5_leads_49 : decode cX5_leads 49 = .ok (.invokevirtual 86, 3) := by decide +kernel
theorem dX5_leads_52 : decode cX5_leads 52 = .ok (.iaload, 1) := by decide +kernel
theorem dX5_leads_53 : decode cX5_leads 53 = .ok (.aload_n 0, 1) := by decide +kernel
theorem dX5_leads_54 : decode cX5_leads 54 = .ok (.getfield 42, 3) := by decide +kernel
theorem dX5_leads_57 : decode cX5_leads 57 = .ok (.iload_n 2, 1) := by decide +kernel
theorem dX5_leads_58 : decode cX5_leads 58 = .ok (.iaload, 1) := by decide +kernel
theorem dX5_leads_59 : decode cX5_leads 59 = .ok (.iconst 1, 1) := by decide +kernel
theorem dX5_leads_60 : decode cX5_leads 60 = .ok (.isub, 1) := by decide +kernel
theorem dX5_leads_61 : decode cX5_leads 61 = .ok (.if_icmp .ne 7, 3) := by decide +kernel
theorem dX5_leads_64 : decode cX5_leads 64 = .ok (.iconst 1, 1) := by decide +kernel
theorem dX5_leads_65 : decode cX5_leads 65 = .ok (.goto 4, 3) := by decide +kernel
theorem dX5_leads_68 : decode cX5_leads 68 = .ok (.iconst 0, 1) := by decide +kernel
theorem dX5_leads_69 : decode cX5_leads 69 = .ok (.ireturn, 1) := by decide +kernel
/-! ===== FlowMetersModel.leads(II)Z ===== -/
def fX5_leads (c_t_now : Nat → Int32) (c_t_far : Nat → Int32) (x1 : Int32) (x2 : Int32) : Option (Int32) :=
  (fX5_get c_t_now x1 0).bind fun v1 =>
  (if v1 = x2 then
    (fX5_get c_t_now x1 1).bind fun v14 =>
    (ya_rd c_t_far 6 v14).bind fun v16 =>
    (ya_rd c_t_far 6 x2).bind fun v18 =>
    (if v16 = (v18 - 1) then
      some 1
    else
      (fX5_get c_t_now x1 1).bind fun v21 =>
      (if v21 = x2 then
        (fX5_get c_t_now x1 0).bind fun v24 =>
        (ya_rd c_t_far 6 v24).bind fun v26 =>
        (ya_rd c_t_far 6 x2).bind fun v28 =>
        (if v26 = (v28 - 1) then
          some 1
        else
          some 0)
      else
        some 0))
  else
    (fX5_get c_t_now x1 1).bind fun v4 =>
    (if v4 = x2 then
      (fX5_get c_t_now x1 0).bind fun v7 =>
      (ya_rd c_t_far 6 v7).bind fun v9 =>
      (ya_rd c_t_far 6 x2).bind fun v11 =>
      (if v9 = (v11 - 1) then
        some 1
      else
        some 0)
    else
      some 0))
theorem fX5_leads_42 : yF wsX5_leads RX5 42 5 12 RX5 TX5 19 := ⟨rfl, by decide, by decide +kernel, by decide +kernel⟩
abbrev rmX5_leads : Room := { frames := 1, cells := 0, slots := 0, locals := 22 }
theorem eX5_leads : yY yX5_leads wsX5_leads cX5_leads 3 (some .boolean) rmX5_leads 2 := ⟨⟨_, rfl⟩, rfl, rfl, by decide, by decide, by decide +kernel⟩
set_option maxHeartbeats 4000000 in
set_option maxRecDepth 100000 in
theorem mX5_leads {l : Launch} {D : va_G} {sz : Nat} {cI cJ cZ cW cR : ClassId} {h_t : Nat} {A_t : Nat → Nat} {c_t_many : Int32} {c_t_below : Int64} {c_t_above1 : Int64} {c_t_below1 : Int64} {c_t_now : Nat → Int32} {c_t_far : Nat → Int32} {x1 : Int32} {x2 : Int32} {r : Int32} (hf : fX5_leads c_t_now c_t_far x1 x2 = some r) : Met l yX5_leads wsX5_leads rmX5_leads (yP D (yT cI cJ cZ cW cR) [(h_t, oR A_t c_t_many c_t_below c_t_above1 c_t_below1), (A_t 0, eI cI 242 c_t_now), (A_t 10, eI cI 6 c_t_far)] sz [.ref h_t, .int x1, .int x2]) (yQi D (yT cI cJ cZ cW cR) r [(h_t, oR A_t c_t_many c_t_below c_t_above1 c_t_below1), (A_t 0, eI cI 242 c_t_now), (A_t 10, eI cI 6 c_t_far)] (va_A [(h_t, oR A_t c_t_many c_t_below c_t_above1 c_t_below1), (A_t 0, eI cI 242 c_t_now), (A_t 10, eI cI 6 c_t_far)] sz)) 0 0 (va_A [(h_t, oR A_t c_t_many c_t_below c_t_above1 c_t_below1), (A_t 0, eI cI 242 c_t_now), (A_t 10, eI cI 6 c_t_far)] sz) := by
  refine yM (cc := cX5_leads) (maxL := 3) (ret := (some .boolean)) RX5 (by decide) rfl rfl (Nat.le_of_ble_eq_true rfl) ?_
  intro p e s m below meth c Γ hr
  show yG p l e (headSpec wsX5_leads rmX5_leads).room s m (List.toArray [.ref h_t, .int x1, .int x2]) below meth c D (va_A [(h_t, oR A_t c_t_many c_t_below c_t_above1 c_t_below1), (A_t 0, eI cI 242 c_t_now), (A_t 10, eI cI 6 c_t_far)] sz) 3 0 0 (MQ below (yQi D (yT cI cJ cZ cW cR) r [(h_t, oR A_t c_t_many c_t_below c_t_above1 c_t_below1), (A_t 0, eI cI 242 c_t_now), (A_t 10, eI cI 6 c_t_far)] (va_A [(h_t, oR A_t c_t_many c_t_below c_t_above1 c_t_below1), (A_t 0, eI cI 242 c_t_now), (A_t 10, eI cI 6 c_t_far)] sz)) (List.toArray [.ref h_t, .int x1, .int x2]) s 0 0 (va_A [(h_t, oR A_t c_t_many c_t_below c_t_above1 c_t_below1), (A_t 0, eI cI 242 c_t_now), (A_t 10, eI cI 6 c_t_far)] sz)) 0 [(0, .ref h_t), (1, .int x1), (2, .int x2)] [] [(h_t, oR A_t c_t_many c_t_below c_t_above1 c_t_below1), (A_t 0, eI cI 242 c_t_now), (A_t 10, eI cI 6 c_t_far)]
  unfold fX5_leads at hf
  refine g_aload_n Γ 0 dX5_leads_0 rfl ?_
  refine g_iload_n Γ 1 dX5_leads_1 rfl ?_
  refine g_iconst (v := 0) Γ dX5_leads_2 (by decide) ?_
  obtain ⟨v1, e2, hf⟩ := ya_ob hf
  refine g_vi (q := (RX5, TX5, 19)) (wr := [(A_t 10, eI cI 6 c_t_far)]) (ws' := [(A_t 10, eI cI 6 c_t_far), (h_t, oR A_t c_t_many c_t_below c_t_above1 c_t_below1), (A_t 0, eI cI 242 c_t_now)]) Γ (fun sz => mX5_get (l := l) (D := D) (sz := sz) (cI := cI) (cJ := cJ) (cZ := cZ) (cW := cW) (cR := cR) (h_t := h_t) (A_t := A_t) (hf := e2)) eX5_get gX5_leads_X5_get rfl rfl 0 rfl rfl rfl (Nat.le_of_ble_eq_true rfl) ⟨Nat.le_of_ble_eq_true rfl, Nat.le_of_ble_eq_true rfl⟩ dX5_leads_3 [0, 1] [2] rfl rfl rfl rfl (by decide) rfl ?_
  refine g_iload_n Γ 2 dX5_leads_6 rfl ?_
  refine g_icmp_ne Γ 32 dX5_leads_7 (by decide) (fun c3 => ?_) (fun c3 => ?_)
  · have hf := ya_if2 c3 hf
    refine g_aload_n Γ 0 dX5_leads_32 rfl ?_
    refine g_iload_n Γ 1 dX5_leads_33 rfl ?_
    refine g_iconst (v := 1) Γ dX5_leads_34 (by decide) ?_
    obtain ⟨v4, e5, hf⟩ := ya_ob hf
    refine g_vi (q := (RX5, TX5, 19)) (wr := [(A_t 10, eI cI 6 c_t_far)]) (ws' := [(A_t 10, eI cI 6 c_t_far), (h_t, oR A_t c_t_many c_t_below c_t_above1 c_t_below1), (A_t 0, eI cI 242 c_t_now)]) Γ (fun sz => mX5_get (l := l) (D := D) (sz := sz) (cI := cI) (cJ := cJ) (cZ := cZ) (cW := cW) (cR := cR) (h_t := h_t) (A_t := A_t) (hf := e5)) eX5_get gX5_leads_X5_get rfl rfl 0 rfl rfl rfl (Nat.le_of_ble_eq_true rfl) ⟨Nat.le_of_ble_eq_true rfl, Nat.le_of_ble_eq_true rfl⟩ dX5_leads_35 [1, 2] [0] rfl rfl rfl rfl (by decide) rfl ?_
    refine g_iload_n Γ 2 dX5_leads_38 rfl ?_
    refine g_icmp_ne Γ 68 dX5_leads_39 (by decide) (fun c6 => ?_) (fun c6 => ?_)
    · have hf := ya_if2 c6 hf
      refine g_iconst (v := 0) Γ dX5_leads_68 (by decide) ?_
      cases hf
      exact g_zret Γ hr (show ya_bo 0 = some 0 from rfl) dX5_leads_69 [1, 2, 0] rfl rfl
    · have hf := ya_if1 c6 hf
      refine g_aload_n Γ 0 dX5_leads_42 rfl ?_
      refine g_get Γ fX5_leads_42 1 rfl rfl dX5_leads_43 ?_
      refine g_aload_n Γ 0 dX5_leads_46 rfl ?_
      refine g_iload_n Γ 1 dX5_leads_47 rfl ?_
      refine g_iconst (v := 0) Γ dX5_leads_48 (by decide) ?_
      obtain ⟨v7, e8, hf⟩ := ya_ob hf
      refine g_vi (q := (RX5, TX5, 19)) (wr := [(A_t 10, eI cI 6 c_t_far)]) (ws' := [(A_t 10, eI cI 6 c_t_far), (h_t, oR A_t c_t_many c_t_below c_t_above1 c_t_below1), (A_t 0, eI cI 242 c_t_now)]) Γ (fun sz => mX5_get (l := l) (D := D) (sz := sz) (cI := cI) (cJ := cJ) (cZ := cZ) (cW := cW) (cR := cR) (h_t := h_t) (A_t := A_t) (hf := e8)) eX5_get gX5_leads_X5_get rfl rfl 0 rfl rfl rfl (Nat.le_of_ble_eq_true rfl) ⟨Nat.le_of_ble_eq_true rfl, Nat.le_of_ble_eq_true rfl⟩ dX5_leads_49 [1, 2] [0] rfl rfl rfl rfl (by decide) rfl ?_
      obtain ⟨v9, e10, hf⟩ := ya_ob hf
      refine g_iald Γ e10 0 0 rfl rfl dX5_leads_52 ?_
      refine g_aload_n Γ 0 dX5_leads_53 rfl ?_
      refine g_get Γ fX5_leads_42 1 rfl rfl dX5_leads_54 ?_
      refine g_iload_n Γ 2 dX5_leads_57 rfl ?_
      obtain ⟨v11, e12, hf⟩ := ya_ob hf
      refine g_iald Γ e12 0 0 rfl rfl dX5_leads_58 ?_
      refine g_iconst (v := 1) Γ dX5_leads_59 (by decide) ?_
      refine g_isub Γ dX5_leads_60 ?_
      refine g_icmp_ne Γ 68 dX5_leads_61 (by decide) (fun c13 => ?_) (fun c13 => ?_)
      · have hf := ya_if2 c13 hf
        refine g_iconst (v := 0) Γ dX5_leads_68 (by decide) ?_
        cases hf
        exact g_zret Γ hr (show ya_bo 0 = some 0 from rfl) dX5_leads_69 [1, 2, 0] rfl rfl
      · have hf := ya_if1 c13 hf
        refine g_iconst (v := 1) Γ dX5_leads_64 (by decide) ?_
        refine g_goto Γ 69 dX5_leads_65 (by decide) ?_
        cases hf
        exact g_zret Γ hr (show ya_bo 1 = some 1 from rfl) dX5_leads_69 [1, 2, 0] rfl rfl
  · have hf := ya_if1 c3 hf
    refine g_aload_n Γ 0 dX5_leads_10 rfl ?_
    refine g_get Γ fX5_leads_42 1 rfl rfl dX5_leads_11 ?_
    refine g_aload_n Γ 0 dX5_leads_14 rfl ?_
    refine g_iload_n Γ 1 dX5_leads_15 rfl ?_
    refine g_iconst (v := 1) Γ dX5_leads_16 (by decide) ?_
    obtain ⟨v14, e15, hf⟩ := ya_ob hf
    refine g_vi (q := (RX5, TX5, 19)) (wr := [(A_t 10, eI cI 6 c_t_far)]) (ws' := [(A_t 10, eI cI 6 c_t_far), (h_t, oR A_t c_t_many c_t_below c_t_above1 c_t_below1), (A_t 0, eI cI 242 c_t_now)]) Γ (fun sz => mX5_get (l := l) (D := D) (sz := sz) (cI := cI) (cJ := cJ) (cZ := cZ) (cW := cW) (cR := cR) (h_t := h_t) (A_t := A_t) (hf := e15)) eX5_get gX5_leads_X5_get rfl rfl 0 rfl rfl rfl (Nat.le_of_ble_eq_true rfl) ⟨Nat.le_of_ble_eq_true rfl, Nat.le_of_ble_eq_true rfl⟩ dX5_leads_17 [1, 2] [0] rfl rfl rfl rfl (by decide) rfl ?_
    obtain ⟨v16, e17, hf⟩ := ya_ob hf
    refine g_iald Γ e17 0 0 rfl rfl dX5_leads_20 ?_
    refine g_aload_n Γ 0 dX5_leads_21 rfl ?_
    refine g_get Γ fX5_leads_42 1 rfl rfl dX5_leads_22 ?_
    refine g_iload_n Γ 2 dX5_leads_25 rfl ?_
    obtain ⟨v18, e19, hf⟩ := ya_ob hf
    refine g_iald Γ e19 0 0 rfl rfl dX5_leads_26 ?_
    refine g_iconst (v := 1) Γ dX5_leads_27 (by decide) ?_
    refine g_isub Γ dX5_leads_28 ?_
    refine g_icmp_eq Γ 64 dX5_leads_29 (by decide) (fun c20 => ?_) (fun c20 => ?_)
    · have hf := ya_if1 c20 hf
      refine g_iconst (v := 1) Γ dX5_leads_64 (by decide) ?_
      refine g_goto Γ 69 dX5_leads_65 (by decide) ?_
      cases hf
      exact g_zret Γ hr (show ya_bo 1 = some 1 from rfl) dX5_leads_69 [1, 2, 0] rfl rfl
    · have hf := ya_if2 c20 hf
      refine g_aload_n Γ 0 dX5_leads_32 rfl ?_
      refine g_iload_n Γ 1 dX5_leads_33 rfl ?_
      refine g_iconst (v := 1) Γ dX5_leads_34 (by decide) ?_
      obtain ⟨v21, e22, hf⟩ := ya_ob hf
      refine g_vi (q := (RX5, TX5, 19)) (wr := [(A_t 10, eI cI 6 c_t_far)]) (ws' := [(A_t 10, eI cI 6 c_t_far), (h_t, oR A_t c_t_many c_t_below c_t_above1 c_t_below1), (A_t 0, eI cI 242 c_t_now)]) Γ (fun sz => mX5_get (l := l) (D := D) (sz := sz) (cI := cI) (cJ := cJ) (cZ := cZ) (cW := cW) (cR := cR) (h_t := h_t) (A_t := A_t) (hf := e22)) eX5_get gX5_leads_X5_get rfl rfl 0 rfl rfl rfl (Nat.le_of_ble_eq_true rfl) ⟨Nat.le_of_ble_eq_true rfl, Nat.le_of_ble_eq_true rfl⟩ dX5_leads_35 [1, 2] [0] rfl rfl rfl rfl (by decide) rfl ?_
      refine g_iload_n Γ 2 dX5_leads_38 rfl ?_
      refine g_icmp_ne Γ 68 dX5_leads_39 (by decide) (fun c23 => ?_) (fun c23 => ?_)
      · have hf := ya_if2 c23 hf
        refine g_iconst (v := 0) Γ dX5_leads_68 (by decide) ?_
        cases hf
        exact g_zret Γ hr (show ya_bo 0 = some 0 from rfl) dX5_leads_69 [1, 2, 0] rfl rfl
      · have hf := ya_if1 c23 hf
        refine g_aload_n Γ 0 dX5_leads_42 rfl ?_
        refine g_get Γ fX5_leads_42 1 rfl rfl dX5_leads_43 ?_
        refine g_aload_n Γ 0 dX5_leads_46 rfl ?_
        refine g_iload_n Γ 1 dX5_leads_47 rfl ?_
        refine g_iconst (v := 0) Γ dX5_leads_48 (by decide) ?_
        obtain ⟨v24, e25, hf⟩ := ya_ob hf
        refine g_vi (q := (RX5, TX5, 19)) (wr := [(A_t 10, eI cI 6 c_t_far)]) (ws' := [(A_t 10, eI cI 6 c_t_far), (h_t, oR A_t c_t_many c_t_below c_t_above1 c_t_below1), (A_t 0, eI cI 242 c_t_now)]) Γ (fun sz => mX5_get (l := l) (D := D) (sz := sz) (cI := cI) (cJ := cJ) (cZ := cZ) (cW := cW) (cR := cR) (h_t := h_t) (A_t := A_t) (hf := e25)) eX5_get gX5_leads_X5_get rfl rfl 0 rfl rfl rfl (Nat.le_of_ble_eq_true rfl) ⟨Nat.le_of_ble_eq_true rfl, Nat.le_of_ble_eq_true rfl⟩ dX5_leads_49 [1, 2] [0] rfl rfl rfl rfl (by decide) rfl ?_
        obtain ⟨v26, e27, hf⟩ := ya_ob hf
        refine g_iald Γ e27 0 0 rfl rfl dX5_leads_52 ?_
        refine g_aload_n Γ 0 dX5_leads_53 rfl ?_
        refine g_get Γ fX5_leads_42 1 rfl rfl dX5_leads_54 ?_
        refine g_iload_n Γ 2 dX5_leads_57 rfl ?_
        obtain ⟨v28, e29, hf⟩ := ya_ob hf
        refine g_iald Γ e29 0 0 rfl rfl dX5_leads_58 ?_
        refine g_iconst (v := 1) Γ dX5_leads_59 (by decide) ?_
        refine g_isub Γ dX5_leads_60 ?_
        refine g_icmp_ne Γ 68 dX5_leads_61 (by decide) (fun c30 => ?_) (fun c30 => ?_)
        · have hf := ya_if2 c30 hf
          refine g_iconst (v := 0) Γ dX5_leads_68 (by decide) ?_
          cases hf
          exact g_zret Γ hr (show ya_bo 0 = some 0 from rfl) dX5_leads_69 [1, 2, 0] rfl rfl
        · have hf := ya_if1 c30 hf
          refine g_iconst (v := 1) Γ dX5_leads_64 (by decide) ?_
          refine g_goto Γ 69 dX5_leads_65 (by decide) ?_
          cases hf
          exact g_zret Γ hr (show ya_bo 1 = some 1 from rfl) dX5_leads_69 [1, 2, 0] rfl rfl

set_option maxRecDepth 20000 in
theorem ggX5_round_X5_isFlow : GoodIn wsX5_round wsX5_isFlow := goodIn_r _ [6, 7, 8, 9, 5, 10, 11, 12, 13, 14, 36, 37, 38, 39, 40, 41, 42, 43, 44, 45, 46, 47, 48, 49, 50, 51, 52, 53, 54] rfl (by decide +kernel)
set_option maxRecDepth 20000 in
theorem gX5_round_X5_isFlow : GoodIn wsX5_round (wsV RX5 83 RX5 yX5_isFlow wsX5_isFlow) := goodIn_app (goodIn_of _ (by decide +kernel)) ggX5_round_X5_isFlow
set_option maxRecDepth 20000 in
theorem ggX5_round_X5_isSeen : GoodIn wsX5_round wsX5_isSeen := goodIn_r _ [18, 19, 20, 21, 22, 5, 23, 24, 25, 26, 27, 11, 28, 29, 30, 31, 7, 8, 9, 10, 36, 37, 38, 39, 40, 41, 42, 43, 44, 45, 46, 47, 48, 49, 50, 51, 52, 53, 54] rfl (by decide +kernel)
set_option maxRecDepth 20000 in
theorem gX5_round_X5_isSeen : GoodIn wsX5_round (wsV RX5 136 RX5 yX5_isSeen wsX5_isSeen) := goodIn_app (goodIn_of _ (by decide +kernel)) ggX5_round_X5_isSeen
set_option maxRecDepth 20000 in
theorem ggX5_round_X5_get : GoodIn wsX5_round wsX5_get := goodIn_r _ [27, 11, 36, 37, 38, 39, 40, 41, 42, 43, 44, 45, 46, 47, 48, 49, 50, 51, 52, 53, 54] rfl (by decide +kernel)
set_option maxRecDepth 20000 in
theorem gX5_round_X5_get : GoodIn wsX5_round (wsV RX5 86 RX5 yX5_get wsX5_get) := goodIn_app (goodIn_of _ (by decide +kernel)) ggX5_round_X5_get
set_option maxRecDepth 20000 in
theorem ggX5_round_X5_flows : GoodIn wsX5_round wsX5_flows := goodIn_r _ [10, 11, 36, 37, 38, 39, 40, 41, 42, 43, 44, 45, 46, 47, 48, 49, 50, 51, 52, 53, 54] rfl (by decide +kernel)
set_option maxRecDepth 20000 in
theorem gX5_round_X5_flows : GoodIn wsX5_round (wsV RX5 57 RX5 yX5_flows wsX5_flows) := goodIn_app (goodIn_of _ (by decide +kernel)) ggX5_round_X5_flows
set_option maxRecDepth 20000 in
theorem ggX5_round_X5_isRead : GoodIn wsX5_round wsX5_isRead := goodIn_r _ [23, 24, 25, 26, 5, 27, 11, 36, 37, 38, 39, 40, 41, 42, 43, 44, 45, 46, 47, 48, 49, 50, 51, 52, 53, 54] rfl (by decide +kernel)
set_option maxRecDepth 20000 in
theorem gX5_round_X5_isRead : GoodIn wsX5_round (wsV RX5 91 RX5 yX5_isRead wsX5_isRead) := goodIn_app (goodIn_of _ (by decide +kernel)) ggX5_round_X5_isRead
set_option maxRecDepth 20000 in
theorem ggX5_round_X5_leads : GoodIn wsX5_round wsX5_leads := goodIn_r _ [35, 1, 24, 25, 26, 5, 27, 11, 36, 37, 38, 39, 40, 41, 42, 43, 44, 45, 46, 47, 48, 49, 50, 51, 52, 53, 54] rfl (by decide +kernel)
set_option maxRecDepth 20000 in
theorem gX5_round_X5_leads : GoodIn wsX5_round (wsV RX5 142 RX5 yX5_leads wsX5_leads) := goodIn_app (goodIn_of _ (by decide +kernel)) ggX5_round_X5_leads
theorem dX5_round_0 : decode cX5_round 0 = .ok (.aload_n 0, 1) := by decide +kernel
theorem dX5_round_1 : decode cX5_round 1 = .ok (.iload_n 1, 1) := by decide +kernel
theorem dX5_round_2 : decode cX5_round 2 = .ok (.invokevirtual 83, 3) := by decide +kernel
theorem dX5_round_5 : decode cX5_round 5 = .ok (.ifCond .eq 15, 3) := by decide +kernel
theorem dX5_round_8 : decode cX5_round 8 = .ok (.aload_n 0, 1) := by decide +kernel
theorem dX5_round_9 : decode cX5_round 9 = .ok (.iload_n 1, 1) := by decide +kernel
theorem dX5_round_10 : decode cX5_round 10 = .ok (.invokevirtual 136, 3) := by decide +kernel
theorem dX5_round_13 : decode cX5_round 13 = .ok (.ifCond .ne 7, 3) := by decide +kernel
theorem dX5_round_16 : decode cX5_round 16 = .ok (.iload_n 2, 1) := by decide +kernel
theorem dX5_round_17 : decode cX5_round 17 = .ok (.ifCond .ge 5, 3) := by decide +kernel
theorem dX5_round_20 : decode cX5_round 20 = .ok (.iconst (-1), 1) := by decide +kernel
theorem dX5_round_21 : decode cX5_round 21 = .ok (.ireturn, 1) := by decide +kernel
theorem dX5_round_22 : decode cX5_round 22 = .ok (.aload_n 0, 1) := by decide +kernel
theorem dX5_round_23 : decode cX5_round 23 = .ok (.iload_n 1, 1) := by decide +kernel
theorem dX5_round_24 : decode cX5_round 24 = .ok (.iconst 0, 1) := by decide +kernel
theorem dX5_round_25 : decode cX5_round 25 = .ok (.invokevirtual 86, 3) := by decide +kernel
theorem dX5_round_28 : decode cX5_round 28 = .ok (.istore_n 3, 1) := by decide +kernel
theorem dX5_round_29 : decode cX5_round 29 = .ok (.iconst 0, 1) := by decide +kernel
theorem dX5_round_30 : decode cX5_round 30 = .ok (.istore 4, 2) := by decide +kernel
theorem dX5_round_32 : decode cX5_round 32 = .ok (.iload 4, 2) := by decide +kernel
theorem dX5_round_34 : decode cX5_round 34 = .ok (.bipush 6, 2) := by decide +kernel
theorem dX5_round_36 : decode cX5_round 36 = .ok (.if_icmp .ge 28, 3) := by decide +kernel
theorem dX5_round_39 : decode cX5_round 39 = .ok (.aload_n 0, 1) := by decide +kernel
theorem dX5_round_40 : decode cX5_round 40 = .ok (.getfield 42, 3) := by decide +kernel
theorem dX5_round_43 : decode cX5_round 43 = .ok (.iload 4, 2) := by decide +kernel
theorem dX5_round_45 : decode cX5_round 45 = .ok (.iload 4, 2) := by decide +kernel
theorem dX5_round_47 : decode cX5_round 47 = .ok (.iload_n 3, 1) := by decide +kernel
theorem dX5_round_48 : decode cX5_round 48 = .ok (.if_icmp .ne 7, 3) := by decide +kernel
theorem dX5_round_51 : decode cX5_round 51 = .ok (.iconst 0, 1) := by decide +kernel
theorem dX5_round_52 : decode cX5_round 52 = .ok (.goto 5, 3) := by decide +kernel
theorem dX5_round_55 : decode cX5_round 55 = .ok (.bipush 99, 2) := by decide +kernel
theorem dX5_round_57 : decode cX5_round 57 = .ok (.iastore, 1) := by decide +kernel
theorem dX5_round_58 : decode cX5_round 58 = .ok (.iinc 4 1, 3) := by decide +kernel
theorem dX5_round_61 : decode cX5_round 61 = .ok (.goto (-29), 3) := by decide +kernel
theorem dX5_round_64 : decode cX5_round 64 = .ok (.iconst 0, 1) := by decide +kernel
theorem dX5_round_65 : decode cX5_round 65 = .ok (.istore 4, 2) := by decide +kernel
theorem dX5_round_67 : decode cX5_round 67 = .ok (.iload 4, 2) := by decide +kernel
theorem dX5_round_69 : decode cX5_round 69 = .ok (.bipush 6, 2) := by decide +kernel
theorem dX5_round_71 : decode cX5_round 71 = .ok (.if_icmp .ge 153, 3) := by decide +kernel
theorem dX5_round_74 : decode cX5_round 74 = .ok (.iconst 0, 1) := by decide +kernel
theorem dX5_round_75 : decode cX5_round 75 = .ok (.istore 5, 2) := by decide +kernel
theorem dX5_round_77 : decode cX5_round 77 = .ok (.iload 5, 2) := by decide +kernel
theorem dX5_round_79 : decode cX5_round 79 = .ok (.aload_n 0, 1) := by decide +kernel
theorem dX5_round_80 : decode cX5_round 80 = .ok (.invokevirtual 57, 3) := by decide +kernel
theorem dX5_round_83 : decode cX5_round 83 = .ok (.if_icmp .ge 135, 3) := by decide +kernel
theorem dX5_round_86 : decode cX5_round 86 = .ok (.aload_n 0, 1) := by decide +kernel
theorem dX5_round_87 : decode cX5_round 87 = .ok (.iload 5, 2) := by decide +kernel
theorem dX5_round_89 : decode cX5_round 89 = .ok (.invokevirtual 91, 3) := by decide +kernel
theorem dX5_round_92 : decode cX5_round 92 = .ok (.ifCond .ne 120, 3) := by decide +kernel
theorem dX5_round_95 : decode cX5_round 95 = .ok (.iload 5, 2) := by decide +kernel
theorem dX5_round_97 : decode cX5_round 97 = .ok (.iload_n 1, 1) := by decide +kernel
theorem dX5_round_98 : decode cX5_round 98 = .ok (.if_icmp .ne 6, 3) := by decide +kernel
theorem dX5_round_101 : decode cX5_round 101 = .ok (.goto 111, 3) := by decide +kernel
theorem dX5_round_104 : decode cX5_round 104 = .ok (.aload_n 0, 1) := by decide +kernel
theorem dX5_round_105 : decode cX5_round 105 = .ok (.iload 5, 2) := by decide +kernel
theorem dX5_round_107 : decode cX5_round 107 = .ok (.iconst 0, 1) := by decide +kernel
theorem dX5_round_108 : decode cX5_round 108 = .ok (.invokevirtual 86, 3) := by decide +kernel
theorem dX5_round_111 : decode cX5_round 111 = .ok (.istore 6, 2) := by decide +kernel
theorem dX5_round_113 : decode cX5_round 113 = .ok (.aload_n 0, 1) := by decide +kernel
theorem dX5_round_114 : decode cX5_round 114 = .ok (.iload 5, 2) := by decide +kernel
theorem dX5_round_116 : decode cX5_round 116 = .ok (.iconst 1, 1) := by decide +kernel
theorem dX5_round_117 : decode cX5_round 117 = .ok (.invokevirtual 86, 3) := by decide +kernel
theorem dX5_round_120 : decode cX5_round 120 = .ok (.istore 7, 2) := by decide +kernel
theorem dX5_round_122 : decode cX5_round 122 = .ok (.aload_n 0, 1) := by decide +kernel
theorem dX5_round_123 : decode cX5_round 123 = .ok (.getfield 42, 3) := by decide +kernel
theorem dX5_round_126 : decode cX5_round 126 = .ok (.iload 6, 2) := by decide +kernel
theorem dX5_round_128 : decode cX5_round 128 = .ok (.aload_n 0, 1) := by decide +kernel
theorem dX5_round_129 : decode cX5_round 129 = .ok (.getfield 42, 3) := by decide +kernel
theorem dX5_round_132 : decode cX5_round 132 = .ok (.iload 7, 2) := by decide +kernel
theorem dX5_round_134 : decode cX5_round 134 = .ok (.iaload, 1) := by decide +kernel
theorem dX5_round_135 : decode cX5_round 135 = .ok (.iconst 1, 1) := by decide +kernel
theorem dX5_round_136 : decode cX5_round 136 = .ok (.iadd, 1) := by decide +kernel
theorem dX5_round_137 : decode cX5_round 137 = .ok (.aload_n 0, 1) := by decide +kernel
theorem dX5_round_138 : decode cX5_round 138 = .ok (.getfield 42, 3) := by decide +kernel
theorem dX5_round_141 : decode cX5_round 141 = .ok (.iload 6, 2) := by decide +kernel
theorem dX5_round_143 : decode cX5_round 143 = .ok (.iaload, 1) := by decide +kernel
theorem dX5_round_144 : decode cX5_round 144 = .ok (.if_icmp .ge 15, 3) := by decide +kernel
theorem dX5_round_147 : decode cX5_round 147 = .ok (.aload_n 0, 1) := by decide +kernel
theorem dX5_round_148 : decode cX5_round 148 = .ok (.getfield 42, 3) := by decide +kernel
theorem dX5_round_151 : decode cX5_round 151 = .ok (.iload 7, 2) := by decide +kernel
theorem dX5_round_153 : decode cX5_round 153 = .ok (.iaload, 1) := by decide +kernel
theorem dX5_round_154 : decode cX5_round 154 = .ok (.iconst 1, 1) := by decide +kernel
theorem dX5_round_155 : decode cX5_round 155 = .ok (.iadd, 1) := by decide +kernel
theorem dX5_round_156 : decode cX5_round 156 = .ok (.goto 10, 3) := by decide +kernel
theorem dX5_round_159 : decode cX5_round 159 = .ok (.aload_n 0, 1) := by decide +kernel
theorem dX5_round_160 : decode cX5_round 160 = .ok (.getfield 42, 3) := by decide +kernel
theorem dX5_round_163 : decode cX5_round 163 = .ok (.iload 6, 2) := by decide +kernel
theorem dX5_round_165 : decode cX5_round 165 = .ok (.iaload, 1) := by decide +kernel
theorem dX5_round_166 : decode cX5_round 166 = .ok (.iastore, 1) := by decide +kernel
theorem dX5_round_167 : decode cX5_round 167 = .ok (.aload_n 0, 1) := by decide +kernel
theorem dX5_round_168 : decode cX5_round 168 = .ok (.getfield 42, 3) := by decide +kernel
theorem dX5_round_171 : decode cX5_round 171 = .ok (.iload 7, 2) := by decide +kernel
theorem dX5_round_173 : decode cX5_round 173 = .ok (.aload_n 0, 1) := by decide +kernel
theorem dX5_round_174 : decode cX5_round 174 = .ok (.getfield 42, 3) := by decide +kernel
theorem dX5_round_177 : decode cX5_round 177 = .ok (.iload 6, 2) := by decide +kernel
theorem dX5_round_179 : decode cX5_round 179 = .ok (.iaload, 1) := by decide +kernel
theorem dX5_round_180 : decode cX5_round 180 = .ok (.iconst 1, 1) := by decide +kernel
theorem dX5_round_181 : decode cX5_round 181 = .ok (.iadd, 1) := by decide +kernel
theorem dX5_round_182 : decode cX5_round 182 = .ok (.aload_n 0, 1) := by decide +kernel
theorem dX5_round_183 : decode cX5_round 183 = .ok (.getfield 42, 3) := by decide +kernel
theorem dX5_round_186 : decode cX5_round 186 = .ok (.iload 7, 2) := by decide +kernel
theorem dX5_round_188 : decode cX5_round 188 = .ok (.iaload, 1) := by decide +kernel
theorem dX5_round_189 : decode cX5_round 189 = .ok (.if_icmp .ge 15, 3) := by decide +kernel
theorem dX5_round_192 : decode cX5_round 192 = .ok (.aload_n 0, 1) := by decide +kernel
theorem dX5_round_193 : decode cX5_round 193 = .ok (.getfield 42, 3) := by decide +kernel
theorem dX5_round_196 : decode cX5_round 196 = .ok (.iload 6, 2) := by decide +kernel
theorem dX5_round_198 : decode cX5_round 198 = .ok (.iaload, 1) := by decide +kernel
theorem dX5_round_199 : decode cX5_round 199 = .ok (.iconst 1, 1) := by decide +kernel
theorem dX5_round_200 : decode cX5_round 200 = .ok (.iadd, 1) := by decide +kernel
theorem dX5_round_201 : decode cX5_round 201 = .ok (.goto 10, 3) := by decide +kernel
theorem dX5_round_204 : decode cX5_round 204 = .ok (.aload_n 0, 1) := by decide +kernel
theorem dX5_round_205 : decode cX5_round 205 = .ok (.getfield 42, 3) := by decide +kernel
theorem dX5_round_208 : decode cX5_round 208 = .ok (.iload 7, 2) := by decide +kernel
theorem dX5_round_210 : decode cX5_round 210 = .ok (.iaload, 1) := by decide +kernel
theorem dX5_round_211 : decode cX5_round 211 = .ok (.iastore, 1) := by decide +kernel
theorem dX5_round_212 : decode cX5_round 212 = .ok (.iinc 5 1, 3) := by decide +kernel
theorem dX5_round_215 : decode cX5_round 215 = .ok (.goto (-138), 3) := by decide +kernel
theorem dX5_round_218 : decode cX5_round 218 = .ok (.iinc 4 1, 3) := by decide +kernel
theorem dX5_round_221 : decode cX5_round 221 = .ok (.goto (-154), 3) := by decide +kernel
theorem dX5_round_224 : decode cX5_round 224 = .ok (.aload_n 0, 1) := by decide +kernel
theorem dX5_round_225 : decode cX5_round 225 = .ok (.iload_n 1, 1) := by decide +kernel
theorem dX5_round_226 : decode cX5_round 226 = .ok (.iconst 1, 1) := by decide +kernel
theorem dX5_round_227 : decode cX5_round 227 = .ok (.invokevirtual 86, 3) := by decide +kernel
theorem dX5_round_230 : decode cX5_round 230 = .ok (.istore 4, 2) := by decide +kernel
theorem dX5_round_232 : decode cX5_round 232 = .ok (.iload_n 1, 1) := by decide +kernel
theorem dX5_round_233 : decode cX5_round 233 = .ok (.istore 5, 2) := by decide +kernel
theorem dX5_round_235 : decode cX5_round 235 = .ok (.iconst 0, 1) := by decide +kernel
theorem dX5_round_236 : decode cX5_round 236 = .ok (.istore 6, 2) := by decide +kernel
theorem dX5_round_238 : decode cX5_round 238 = .ok (.iload 6, 2) := by decide +kernel
theorem dX5_round_240 : decode cX5_round 240 = .ok (.iload_n 2, 1) := by decide +kernel
theorem dX5_round_241 : decode cX5_round 241 = .ok (.if_icmp .ge 91, 3) := by decide +kernel
theorem dX5_round_244 : decode cX5_round 244 = .ok (.aload_n 0, 1) := by decide +kernel
theorem dX5_round_245 : decode cX5_round 245 = .ok (.getfield 42, 3) := by decide +kernel
theorem dX5_round_248 : decode cX5_round 248 = .ok (.iload 4, 2) := by decide +kernel
theorem dX5_round_250 : decode cX5_round 250 = .ok (.iaload, 1) := by decide +kernel
theorem dX5_round_251 : decode cX5_round 251 = .ok (.ifCond .ne 5, 3) := by decide +kernel
theorem dX5_round_254 : decode cX5_round 254 = .ok (.iconst (-1), 1) := by decide +kernel
theorem dX5_round_255 : decode cX5_round 255 = .ok (.ireturn, 1) := by decide +kernel
theorem dX5_round_256 : decode cX5_round 256 = .ok (.iconst 0, 1) := by decide +kernel
theorem dX5_round_257 : decode cX5_round 257 = .ok (.istore 7, 2) := by decide +kernel
theorem dX5_round_259 : decode cX5_round 259 = .ok (.aload_n 0, 1) := by decide +kernel
theorem dX5_round_260 : decode cX5_round 260 = .ok (.iload 7, 2) := by decide +kernel
theorem dX5_round_262 : decode cX5_round 262 = .ok (.invokevirtual 91, 3) := by decide +kernel
theorem dX5_round_265 : decode cX5_round 265 = .ok (.ifCond .ne 20, 3) := by decide +kernel
theorem dX5_round_268 : decode cX5_round 268 = .ok (.iload 7, 2) := by decide +kernel
theorem dX5_round_270 : decode cX5_round 270 = .ok (.iload_n 1, 1) := by decide +kernel
theorem dX5_round_271 : decode cX5_round 271 = .ok (.if_icmp .eq 14, 3) := by decide +kernel
theorem dX5_round_274 : decode cX5_round 274 = .ok (.aload_n 0, 1) := by decide +kernel
theorem dX5_round_275 : decode cX5_round 275 = .ok (.iload 7, 2) := by decide +kernel
theorem dX5_round_277 : decode cX5_round 277 = .ok (.iload 4, 2) := by decide +kernel
theorem dX5_round_279 : decode cX5_round 279 = .ok (.invokevirtual 142, 3) := by decide +kernel
theorem dX5_round_282 : decode cX5_round 282 = .ok (.ifCond .ne 9, 3) := by decide +kernel
theorem dX5_round_285 : decode cX5_round 285 = .ok (.iinc 7 1, 3) := by decide +kernel
theorem dX5_round_288 : decode cX5_round 288 = .ok (.goto (-29), 3) := by decide +kernel
theorem dX5_round_291 : decode cX5_round 291 = .ok (.aload_n 0, 1) := by decide +kernel
theorem dX5_round_292 : decode cX5_round 292 = .ok (.iload 7, 2) := by decide +kernel
theorem dX5_round_294 : decode cX5_round 294 = .ok (.iconst 0, 1) := by decide +kernel
theorem dX5_round_295 : decode cX5_round 295 = .ok (.invokevirtual 86, 3) := by decide +kernel
theorem dX5_round_298 : decode cX5_round 298 = .ok (.iload 4, 2) := by decide +kernel
theorem dX5_round_300 : decode cX5_round 300 = .ok (.if_icmp .ne 13, 3) := by decide +kernel
theorem dX5_round_303 : decode cX5_round 303 = .ok (.aload_n 0, 1) := by decide +kernel
theorem dX5_round_304 : decode cX5_round 304 = .ok (.iload 7, 2) := by decide +kernel
theorem dX5_round_306 : decode cX5_round 306 = .ok (.iconst 1, 1) := by decide +kernel
theorem dX5_round_307 : decode cX5_round 307 = .ok (.invokevirtual 86, 3) := by decide +kernel
theorem dX5_round_310 : decode cX5_round 310 = .ok (.goto 10, 3) := by decide +kernel
theorem dX5_round_313 : decode cX5_round 313 = .ok (.aload_n 0, 1) := by decide +kernel
theorem dX5_round_314 : decode cX5_round 314 = .ok (.iload 7, 2) := by decide +kernel
theorem dX5_round_316 : decode cX5_round 316 = .ok (.iconst 0, 1) := by decide +kernel
theorem dX5_round_317 : decode cX5_round 317 = .ok (.invokevirtual 86, 3) := by decide +kernel
theorem dX5_round_320 : decode cX5_round 320 = .ok (.istore 4, 2) := by decide +kernel
theorem dX5_round_322 : decode cX5_round 322 = .ok (.iload 7, 2) := by decide +kernel
theorem dX5_round_324 : decode cX5_round 324 = .ok (.istore 5, 2) := by decide +kernel
theorem dX5_round_326 : decode cX5_round 326 = .ok (.iinc 6 1, 3) := by decide +kernel
theorem dX5_round_329 : decode cX5_round 329 = .ok (.goto (-91), 3) := by decide +kernel
theorem dX5_round_332 : decode cX5_round 332 = .ok (.iload 5, 2) := by decide +kernel
theorem dX5_round_334 : decode cX5_round 334 = .ok (.ireturn, 1) := by decide +kernel
/-! ===== FlowMetersModel.round(II)I ===== -/
def fX5_round_L32 (N : Nat) (n : Nat) (y1 : Int32) (y2 : Int32) (y3 : Int32) (y4 : Int32) (d_t_far : Nat → Int32) : Option (Nat → Int32) := match n with
  | 0 => none
  | n + 1 =>
    (if 6 ≤ y4 then
        some d_t_far
      else
        (if y4 = y3 then
          (ya_wr d_t_far 6 y4 0).bind fun v17 =>
          ya_lt (y4 + 1) fun v19 =>
          fX5_round_L32 N n y1 y2 y3 v19 v17
        else
          (ya_wr d_t_far 6 y4 99).bind fun v13 =>
          ya_lt (y4 + 1) fun v15 =>
          fX5_round_L32 N n y1 y2 y3 v15 v13))
def fX5_round_L77 (N : Nat) (n : Nat) (y1 : Int32) (y2 : Int32) (y4 : Int32) (y5 : Int32) (d_t_now : Nat → Int32) (d_t_far : Nat → Int32) : Option (Nat → Int32) := match n with
  | 0 => none
  | n + 1 =>
    (fX5_flows d_t_now).bind fun v24 =>
      (if v24 ≤ y5 then
        some d_t_far
      else
        (fX5_isRead d_t_now y5).bind fun v27 =>
        (if v27 = 0 then
          (if y5 = y1 then
            ya_lt (y5 + 1) fun v84 =>
            fX5_round_L77 N n y1 y2 y4 v84 d_t_now d_t_far
          else
            (fX5_get d_t_now y5 0).bind fun v33 =>
            (fX5_get d_t_now y5 1).bind fun v35 =>
            (ya_rd d_t_far 6 v35).bind fun v37 =>
            (ya_rd d_t_far 6 v33).bind fun v39 =>
            (if v39 ≤ (v37 + 1) then
              (ya_rd d_t_far 6 v33).bind fun v42 =>
              (ya_wr d_t_far 6 v33 v42).bind fun v44 =>
              (ya_rd v44 6 v33).bind fun v46 =>
              (ya_rd v44 6 v35).bind fun v48 =>
              (if v48 ≤ (v46 + 1) then
                (ya_rd v44 6 v35).bind fun v51 =>
                (ya_wr v44 6 v35 v51).bind fun v53 =>
                ya_lt (y5 + 1) fun v55 =>
                fX5_round_L77 N n y1 y2 y4 v55 d_t_now v53
              else
                (ya_rd v44 6 v33).bind fun v57 =>
                (ya_wr v44 6 v35 (v57 + 1)).bind fun v59 =>
                ya_lt (y5 + 1) fun v61 =>
                fX5_round_L77 N n y1 y2 y4 v61 d_t_now v59)
            else
              (ya_rd d_t_far 6 v35).bind fun v63 =>
              (ya_wr d_t_far 6 v33 (v63 + 1)).bind fun v65 =>
              (ya_rd v65 6 v33).bind fun v67 =>
              (ya_rd v65 6 v35).bind fun v69 =>
              (if v69 ≤ (v67 + 1) then
                (ya_rd v65 6 v35).bind fun v72 =>
                (ya_wr v65 6 v35 v72).bind fun v74 =>
                ya_lt (y5 + 1) fun v76 =>
                fX5_round_L77 N n y1 y2 y4 v76 d_t_now v74
              else
                (ya_rd v65 6 v33).bind fun v78 =>
                (ya_wr v65 6 v35 (v78 + 1)).bind fun v80 =>
                ya_lt (y5 + 1) fun v82 =>
                fX5_round_L77 N n y1 y2 y4 v82 d_t_now v80)))
        else
          ya_lt (y5 + 1) fun v30 =>
          fX5_round_L77 N n y1 y2 y4 v30 d_t_now d_t_far))
def fX5_round_L67 (N : Nat) (n : Nat) (y1 : Int32) (y2 : Int32) (y4 : Int32) (d_t_now : Nat → Int32) (d_t_far : Nat → Int32) : Option (Nat → Int32) := match n with
  | 0 => none
  | n + 1 =>
    (if 6 ≤ y4 then
        some d_t_far
      else
        (fX5_round_L77 N N y1 y2 y4 0 d_t_now d_t_far).bind fun v86 =>
        ya_lt (y4 + 1) fun v88 =>
        fX5_round_L67 N n y1 y2 v88 d_t_now v86)
def fX5_round_L259 (N : Nat) (n : Nat) (y1 : Int32) (y2 : Int32) (y4 : Int32) (y6 : Int32) (y7 : Int32) (d_t_now : Nat → Int32) (d_t_far : Nat → Int32) : Option (Int32) := match n with
  | 0 => none
  | n + 1 =>
    (fX5_isRead d_t_now y7).bind fun v98 =>
      (if v98 = 0 then
        (if y7 = y1 then
          ya_lt (y7 + 1) fun v104 =>
          fX5_round_L259 N n y1 y2 y4 y6 v104 d_t_now d_t_far
        else
          (fX5_leads d_t_now d_t_far y7 y4).bind fun v106 =>
          (if v106 = 0 then
            ya_lt (y7 + 1) fun v109 =>
            fX5_round_L259 N n y1 y2 y4 y6 v109 d_t_now d_t_far
          else
            some y7))
      else
        ya_lt (y7 + 1) fun v101 =>
        fX5_round_L259 N n y1 y2 y4 y6 v101 d_t_now d_t_far)
def fX5_round_L238 (N : Nat) (n : Nat) (y1 : Int32) (y2 : Int32) (y4 : Int32) (y5 : Int32) (y6 : Int32) (d_t_now : Nat → Int32) (d_t_far : Nat → Int32) : Option ((Unit) ⊕ (Int32)) := match n with
  | 0 => none
  | n + 1 =>
    (if y2 ≤ y6 then
        some (.inr y5)
      else
        (ya_rd d_t_far 6 y4).bind fun v95 =>
        (if v95 = 0 then
          some (.inl ())
        else
          (fX5_round_L259 N N y1 y2 y4 y6 0 d_t_now d_t_far).bind fun v111 =>
          (fX5_get d_t_now v111 0).bind fun v113 =>
          (if v113 = y4 then
            (fX5_get d_t_now v111 1).bind fun v120 =>
            ya_lt (y6 + 1) fun v122 =>
            fX5_round_L238 N n y1 y2 v120 v111 v122 d_t_now d_t_far
          else
            (fX5_get d_t_now v111 0).bind fun v116 =>
            ya_lt (y6 + 1) fun v118 =>
            fX5_round_L238 N n y1 y2 v116 v111 v118 d_t_now d_t_far)))
def fX5_round (N : Nat) (c_t_now : Nat → Int32) (c_t_side : Nat → Int32) (c_t_far : Nat → Int32) (x1 : Int32) (x2 : Int32) : Option (Int32 × (Nat → Int32) × (Nat → Int32)) :=
  (fX5_isFlow c_t_now x1).bind fun v1 =>
  (if v1 = 0 then
    some ((-1), c_t_side, c_t_far)
  else
    (fX5_isSeen N c_t_now c_t_side x1).bind fun (v4, v5) =>
    (if v4 = 0 then
      (if 0 ≤ x2 then
        (fX5_get c_t_now x1 0).bind fun v9 =>
        (fX5_round_L32 N N x1 x2 v9 0 c_t_far).bind fun v21 =>
        (fX5_round_L67 N N x1 x2 0 c_t_now v21).bind fun v90 =>
        (fX5_get c_t_now x1 1).bind fun v92 =>
        (fX5_round_L238 N N x1 x2 v92 x1 0 c_t_now v90).bind fun o124 => match o124 with
          | .inl _ => some ((-1), v5, v90)
          | .inr v126 => some (v126, v5, v90)
      else
        some ((-1), v5, c_t_far))
    else
      some ((-1), v5, c_t_far)))
theorem fX5_round_42 : yF wsX5_round RX5 42 5 12 RX5 TX5 19 := ⟨rfl, by decide, by decide +kernel, by decide +kernel⟩
abbrev rmX5_round : Room := { frames := 4, cells := 0, slots := 0, locals := 89 }
theorem eX5_round : yY yX5_round wsX5_round cX5_round 8 (some .int) rmX5_round 2 := ⟨⟨_, rfl⟩, rfl, rfl, by decide, by decide, by decide +kernel⟩
set_option maxHeartbeats 4000000 in
set_option maxRecDepth 100000 in
theorem mX5_round {l : Launch} {D : va_G} {sz : Nat} {cI cJ cZ cW cR : ClassId} {N : Nat} {h_t : Nat} {A_t : Nat → Nat} {c_t_many : Int32} {c_t_below : Int64} {c_t_above1 : Int64} {c_t_below1 : Int64} {c_t_now : Nat → Int32} {c_t_side : Nat → Int32} {c_t_far : Nat → Int32} {x1 : Int32} {x2 : Int32} {r : Int32} {zc_t_side : Nat → Int32} {zc_t_far : Nat → Int32} (hf : fX5_round N c_t_now c_t_side c_t_far x1 x2 = some (r, zc_t_side, zc_t_far)) : Met l yX5_round wsX5_round rmX5_round (yP D (yT cI cJ cZ cW cR) [(h_t, oR A_t c_t_many c_t_below c_t_above1 c_t_below1), (A_t 0, eI cI 242 c_t_now), (A_t 9, eI cZ 6 c_t_side), (A_t 10, eI cI 6 c_t_far)] sz [.ref h_t, .int x1, .int x2]) (yQi D (yT cI cJ cZ cW cR) r [(h_t, oR A_t c_t_many c_t_below c_t_above1 c_t_below1), (A_t 0, eI cI 242 c_t_now), (A_t 9, eI cZ 6 zc_t_side), (A_t 10, eI cI 6 zc_t_far)] (va_A [(h_t, oR A_t c_t_many c_t_below c_t_above1 c_t_below1), (A_t 0, eI cI 242 c_t_now), (A_t 9, eI cZ 6 c_t_side), (A_t 10, eI cI 6 c_t_far)] sz)) 0 0 (va_A [(h_t, oR A_t c_t_many c_t_below c_t_above1 c_t_below1), (A_t 0, eI cI 242 c_t_now), (A_t 9, eI cZ 6 c_t_side), (A_t 10, eI cI 6 c_t_far)] sz) := by
  refine yM (cc := cX5_round) (maxL := 8) (ret := (some .int)) RX5 (by decide) rfl rfl (Nat.le_of_ble_eq_true rfl) ?_
  intro p e s m below meth c Γ hr
  have loop32 : ∀ (n : Nat) (y1 : Int32) (y2 : Int32) (y3 : Int32) (y4 : Int32) (d_t_many : Int32) (d_t_below : Int64) (d_t_above1 : Int64) (d_t_below1 : Int64) (d_t_now : Nat → Int32) (d_t_side : Nat → Int32) (d_t_far : Nat → Int32) (w0 : Nat → Int32), fX5_round_L32 N n y1 y2 y3 y4 d_t_far = some w0 → yG p l e (headSpec wsX5_round rmX5_round).room s m (List.toArray [.ref h_t, .int x1, .int x2]) below meth c D (va_A [(h_t, oR A_t c_t_many c_t_below c_t_above1 c_t_below1), (A_t 0, eI cI 242 c_t_now), (A_t 9, eI cZ 6 c_t_side), (A_t 10, eI cI 6 c_t_far)] sz) 8 0 0 (MQ below (yQi D (yT cI cJ cZ cW cR) r [(h_t, oR A_t c_t_many c_t_below c_t_above1 c_t_below1), (A_t 0, eI cI 242 c_t_now), (A_t 9, eI cZ 6 zc_t_side), (A_t 10, eI cI 6 zc_t_far)] (va_A [(h_t, oR A_t c_t_many c_t_below c_t_above1 c_t_below1), (A_t 0, eI cI 242 c_t_now), (A_t 9, eI cZ 6 c_t_side), (A_t 10, eI cI 6 c_t_far)] sz)) (List.toArray [.ref h_t, .int x1, .int x2]) s 0 0 (va_A [(h_t, oR A_t c_t_many c_t_below c_t_above1 c_t_below1), (A_t 0, eI cI 242 c_t_now), (A_t 9, eI cZ 6 c_t_side), (A_t 10, eI cI 6 c_t_far)] sz)) 64 [(0, .ref h_t), (1, .int y1), (2, .int y2)] [] [(h_t, oR A_t d_t_many d_t_below d_t_above1 d_t_below1), (A_t 0, eI cI 242 d_t_now), (A_t 9, eI cZ 6 d_t_side), (A_t 10, eI cI 6 w0)] → yG p l e (headSpec wsX5_round rmX5_round).room s m (List.toArray [.ref h_t, .int x1, .int x2]) below meth c D (va_A [(h_t, oR A_t c_t_many c_t_below c_t_above1 c_t_below1), (A_t 0, eI cI 242 c_t_now), (A_t 9, eI cZ 6 c_t_side), (A_t 10, eI cI 6 c_t_far)] sz) 8 0 0 (MQ below (yQi D (yT cI cJ cZ cW cR) r [(h_t, oR A_t c_t_many c_t_below c_t_above1 c_t_below1), (A_t 0, eI cI 242 c_t_now), (A_t 9, eI cZ 6 zc_t_side), (A_t 10, eI cI 6 zc_t_far)] (va_A [(h_t, oR A_t c_t_many c_t_below c_t_above1 c_t_below1), (A_t 0, eI cI 242 c_t_now), (A_t 9, eI cZ 6 c_t_side), (A_t 10, eI cI 6 c_t_far)] sz)) (List.toArray [.ref h_t, .int x1, .int x2]) s 0 0 (va_A [(h_t, oR A_t c_t_many c_t_below c_t_above1 c_t_below1), (A_t 0, eI cI 242 c_t_now), (A_t 9, eI cZ 6 c_t_side), (A_t 10, eI cI 6 c_t_far)] sz)) 32 [(0, .ref h_t), (1, .int y1), (2, .int y2), (3, .int y3), (4, .int y4)] [] [(h_t, oR A_t d_t_many d_t_below d_t_above1 d_t_below1), (A_t 0, eI cI 242 d_t_now), (A_t 9, eI cZ 6 d_t_side), (A_t 10, eI cI 6 d_t_far)] := by
    intro n
    induction n with
    | zero =>
      intro y1 y2 y3 y4 d_t_many d_t_below d_t_above1 d_t_below1 d_t_now d_t_side d_t_far w0 hf
      cases hf
    | succ n ih =>
      intro y1 y2 y3 y4 d_t_many d_t_below d_t_above1 d_t_below1 d_t_now d_t_side d_t_far w0 hf hk
      unfold fX5_round_L32 at hf
      refine g_iload Γ 4 dX5_round_32 rfl ?_
      refine g_bipush (v := 6) Γ dX5_round_34 (by decide) ?_
      refine g_icmp_ge Γ 64 dX5_round_36 (by decide) (fun c11 => ?_) (fun c11 => ?_)
      · have hf := ya_if1 c11 hf
        cases hf
        refine g_lv [0, 1, 2] rfl ?_
        exact hk
      · have hf := ya_if2 c11 hf
        refine g_aload_n Γ 0 dX5_round_39 rfl ?_
        refine g_get Γ fX5_round_42 0 rfl rfl dX5_round_40 ?_
        refine g_iload Γ 4 dX5_round_43 rfl ?_
        refine g_iload Γ 4 dX5_round_45 rfl ?_
        refine g_iload_n Γ 3 dX5_round_47 rfl ?_
        refine g_icmp_ne Γ 55 dX5_round_48 (by decide) (fun c12 => ?_) (fun c12 => ?_)
        · have hf := ya_if2 c12 hf
          refine g_bipush (v := 99) Γ dX5_round_55 (by decide) ?_
          obtain ⟨v13, e14, hf⟩ := ya_ob hf
          refine g_iast (ws' := [(h_t, oR A_t d_t_many d_t_below d_t_above1 d_t_below1), (A_t 0, eI cI 242 d_t_now), (A_t 9, eI cZ 6 d_t_side), (A_t 10, eI cI 6 v13)]) Γ e14 3 0 rfl rfl dX5_round_57 rfl ?_
          obtain ⟨v15, e16, hf⟩ := ya_lt_inv hf
          refine g_iinc (lv' := [(4, .int v15), (0, .ref h_t), (1, .int y1), (2, .int y2), (3, .int y3)]) Γ 4 dX5_round_58 rfl (by rw [e16]; rfl) (by decide) rfl ?_
          refine g_goto Γ 32 dX5_round_61 (by decide) ?_
          refine g_lv [1, 2, 3, 4, 0] rfl ?_
          exact ih _ _ _ _ _ _ _ _ _ _ _ _ hf hk
        · have hf := ya_if1 c12 hf
          refine g_iconst (v := 0) Γ dX5_round_51 (by decide) ?_
          refine g_goto Γ 57 dX5_round_52 (by decide) ?_
          obtain ⟨v17, e18, hf⟩ := ya_ob hf
          refine g_iast (ws' := [(h_t, oR A_t d_t_many d_t_below d_t_above1 d_t_below1), (A_t 0, eI cI 242 d_t_now), (A_t 9, eI cZ 6 d_t_side), (A_t 10, eI cI 6 v17)]) Γ e18 3 0 rfl rfl dX5_round_57 rfl ?_
          obtain ⟨v19, e20, hf⟩ := ya_lt_inv hf
          refine g_iinc (lv' := [(4, .int v19), (0, .ref h_t), (1, .int y1), (2, .int y2), (3, .int y3)]) Γ 4 dX5_round_58 rfl (by rw [e20]; rfl) (by decide) rfl ?_
          refine g_goto Γ 32 dX5_round_61 (by decide) ?_
          refine g_lv [1, 2, 3, 4, 0] rfl ?_
          exact ih _ _ _ _ _ _ _ _ _ _ _ _ hf hk
  have loop77 : ∀ (n : Nat) (y1 : Int32) (y2 : Int32) (y4 : Int32) (y5 : Int32) (d_t_many : Int32) (d_t_below : Int64) (d_t_above1 : Int64) (d_t_below1 : Int64) (d_t_now : Nat → Int32) (d_t_side : Nat → Int32) (d_t_far : Nat → Int32) (w0 : Nat → Int32), fX5_round_L77 N n y1 y2 y4 y5 d_t_now d_t_far = some w0 → yG p l e (headSpec wsX5_round rmX5_round).room s m (List.toArray [.ref h_t, .int x1, .int x2]) below meth c D (va_A [(h_t, oR A_t c_t_many c_t_below c_t_above1 c_t_below1), (A_t 0, eI cI 242 c_t_now), (A_t 9, eI cZ 6 c_t_side), (A_t 10, eI cI 6 c_t_far)] sz) 8 0 0 (MQ below (yQi D (yT cI cJ cZ cW cR) r [(h_t, oR A_t c_t_many c_t_below c_t_above1 c_t_below1), (A_t 0, eI cI 242 c_t_now), (A_t 9, eI cZ 6 zc_t_side), (A_t 10, eI cI 6 zc_t_far)] (va_A [(h_t, oR A_t c_t_many c_t_below c_t_above1 c_t_below1), (A_t 0, eI cI 242 c_t_now), (A_t 9, eI cZ 6 c_t_side), (A_t 10, eI cI 6 c_t_far)] sz)) (List.toArray [.ref h_t, .int x1, .int x2]) s 0 0 (va_A [(h_t, oR A_t c_t_many c_t_below c_t_above1 c_t_below1), (A_t 0, eI cI 242 c_t_now), (A_t 9, eI cZ 6 c_t_side), (A_t 10, eI cI 6 c_t_far)] sz)) 218 [(0, .ref h_t), (1, .int y1), (2, .int y2), (4, .int y4)] [] [(h_t, oR A_t d_t_many d_t_below d_t_above1 d_t_below1), (A_t 0, eI cI 242 d_t_now), (A_t 9, eI cZ 6 d_t_side), (A_t 10, eI cI 6 w0)] → yG p l e (headSpec wsX5_round rmX5_round).room s m (List.toArray [.ref h_t, .int x1, .int x2]) below meth c D (va_A [(h_t, oR A_t c_t_many c_t_below c_t_above1 c_t_below1), (A_t 0, eI cI 242 c_t_now), (A_t 9, eI cZ 6 c_t_side), (A_t 10, eI cI 6 c_t_far)] sz) 8 0 0 (MQ below (yQi D (yT cI cJ cZ cW cR) r [(h_t, oR A_t c_t_many c_t_below c_t_above1 c_t_below1), (A_t 0, eI cI 242 c_t_now), (A_t 9, eI cZ 6 zc_t_side), (A_t 10, eI cI 6 zc_t_far)] (va_A [(h_t, oR A_t c_t_many c_t_below c_t_above1 c_t_below1), (A_t 0, eI cI 242 c_t_now), (A_t 9, eI cZ 6 c_t_side), (A_t 10, eI cI 6 c_t_far)] sz)) (List.toArray [.ref h_t, .int x1, .int x2]) s 0 0 (va_A [(h_t, oR A_t c_t_many c_t_below c_t_above1 c_t_below1), (A_t 0, eI cI 242 c_t_now), (A_t 9, eI cZ 6 c_t_side), (A_t 10, eI cI 6 c_t_far)] sz)) 77 [(0, .ref h_t), (1, .int y1), (2, .int y2), (4, .int y4), (5, .int y5)] [] [(h_t, oR A_t d_t_many d_t_below d_t_above1 d_t_below1), (A_t 0, eI cI 242 d_t_now), (A_t 9, eI cZ 6 d_t_side), (A_t 10, eI cI 6 d_t_far)] := by
    intro n
    induction n with
    | zero =>
      intro y1 y2 y4 y5 d_t_many d_t_below d_t_above1 d_t_below1 d_t_now d_t_side d_t_far w0 hf
      cases hf
    | succ n ih =>
      intro y1 y2 y4 y5 d_t_many d_t_below d_t_above1 d_t_below1 d_t_now d_t_side d_t_far w0 hf hk
      unfold fX5_round_L77 at hf
      refine g_iload Γ 4 dX5_round_77 rfl ?_
      refine g_aload_n Γ 0 dX5_round_79 rfl ?_
      obtain ⟨v24, e25, hf⟩ := ya_ob hf
      refine g_vi (q := (RX5, TX5, 19)) (wr := [(A_t 9, eI cZ 6 d_t_side), (A_t 10, eI cI 6 d_t_far)]) (ws' := [(A_t 9, eI cZ 6 d_t_side), (A_t 10, eI cI 6 d_t_far), (h_t, oR A_t d_t_many d_t_below d_t_above1 d_t_below1), (A_t 0, eI cI 242 d_t_now)]) Γ (fun sz => mX5_flows (l := l) (D := D) (sz := sz) (cI := cI) (cJ := cJ) (cZ := cZ) (cW := cW) (cR := cR) (h_t := h_t) (A_t := A_t) (hf := e25)) eX5_flows gX5_round_X5_flows rfl rfl 0 rfl rfl rfl (Nat.le_of_ble_eq_true rfl) ⟨Nat.le_of_ble_eq_true rfl, Nat.le_of_ble_eq_true rfl⟩ dX5_round_80 [0, 1] [2, 3] rfl rfl rfl rfl (by decide) rfl ?_
      refine g_icmp_ge Γ 218 dX5_round_83 (by decide) (fun c26 => ?_) (fun c26 => ?_)
      · have hf := ya_if1 c26 hf
        cases hf
        refine g_lv [0, 1, 2, 3] rfl ?_
        refine g_ws (ws' := [(h_t, oR A_t d_t_many d_t_below d_t_above1 d_t_below1), (A_t 0, eI cI 242 d_t_now), (A_t 9, eI cZ 6 d_t_side), (A_t 10, eI cI 6 d_t_far)]) [2, 3, 0, 1] rfl rfl ?_
        exact hk
      · have hf := ya_if2 c26 hf
        refine g_aload_n Γ 0 dX5_round_86 rfl ?_
        refine g_iload Γ 4 dX5_round_87 rfl ?_
        obtain ⟨v27, e28, hf⟩ := ya_ob hf
        refine g_vi (q := (RX5, TX5, 19)) (wr := [(A_t 9, eI cZ 6 d_t_side), (A_t 10, eI cI 6 d_t_far)]) (ws' := [(A_t 9, eI cZ 6 d_t_side), (A_t 10, eI cI 6 d_t_far), (h_t, oR A_t d_t_many d_t_below d_t_above1 d_t_below1), (A_t 0, eI cI 242 d_t_now)]) Γ (fun sz => mX5_isRead (l := l) (D := D) (sz := sz) (cI := cI) (cJ := cJ) (cZ := cZ) (cW := cW) (cR := cR) (h_t := h_t) (A_t := A_t) (hf := e28)) eX5_isRead gX5_round_X5_isRead rfl rfl 0 rfl rfl rfl (Nat.le_of_ble_eq_true rfl) ⟨Nat.le_of_ble_eq_true rfl, Nat.le_of_ble_eq_true rfl⟩ dX5_round_89 [2, 3] [0, 1] rfl rfl rfl rfl (by decide) rfl ?_
        refine g_if_ne Γ 212 dX5_round_92 (by decide) (fun c29 => ?_) (fun c29 => ?_)
        · have hf := ya_if2 c29 hf
          obtain ⟨v30, e31, hf⟩ := ya_lt_inv hf
          refine g_iinc (lv' := [(5, .int v30), (0, .ref h_t), (1, .int y1), (2, .int y2), (4, .int y4)]) Γ 4 dX5_round_212 rfl (by rw [e31]; rfl) (by decide) rfl ?_
          refine g_goto Γ 77 dX5_round_215 (by decide) ?_
          refine g_lv [1, 2, 3, 4, 0] rfl ?_
          refine g_ws (ws' := [(h_t, oR A_t d_t_many d_t_below d_t_above1 d_t_below1), (A_t 0, eI cI 242 d_t_now), (A_t 9, eI cZ 6 d_t_side), (A_t 10, eI cI 6 d_t_far)]) [2, 3, 0, 1] rfl rfl ?_
          exact ih _ _ _ _ _ _ _ _ _ _ _ _ hf hk
        · have hf := ya_if1 c29 hf
          refine g_iload Γ 4 dX5_round_95 rfl ?_
          refine g_iload_n Γ 1 dX5_round_97 rfl ?_
          refine g_icmp_ne Γ 104 dX5_round_98 (by decide) (fun c32 => ?_) (fun c32 => ?_)
          · have hf := ya_if2 c32 hf
            refine g_aload_n Γ 0 dX5_round_104 rfl ?_
            refine g_iload Γ 4 dX5_round_105 rfl ?_
            refine g_iconst (v := 0) Γ dX5_round_107 (by decide) ?_
            obtain ⟨v33, e34, hf⟩ := ya_ob hf
            refine g_vi (q := (RX5, TX5, 19)) (wr := [(A_t 9, eI cZ 6 d_t_side), (A_t 10, eI cI 6 d_t_far)]) (ws' := [(A_t 9, eI cZ 6 d_t_side), (A_t 10, eI cI 6 d_t_far), (h_t, oR A_t d_t_many d_t_below d_t_above1 d_t_below1), (A_t 0, eI cI 242 d_t_now)]) Γ (fun sz => mX5_get (l := l) (D := D) (sz := sz) (cI := cI) (cJ := cJ) (cZ := cZ) (cW := cW) (cR := cR) (h_t := h_t) (A_t := A_t) (hf := e34)) eX5_get gX5_round_X5_get rfl rfl 0 rfl rfl rfl (Nat.le_of_ble_eq_true rfl) ⟨Nat.le_of_ble_eq_true rfl, Nat.le_of_ble_eq_true rfl⟩ dX5_round_108 [2, 3] [0, 1] rfl rfl rfl rfl (by decide) rfl ?_
            refine g_istore (lv' := [(6, .int v33), (0, .ref h_t), (1, .int y1), (2, .int y2), (4, .int y4), (5, .int y5)]) Γ dX5_round_111 (by decide) rfl ?_
            refine g_aload_n Γ 1 dX5_round_113 rfl ?_
            refine g_iload Γ 5 dX5_round_114 rfl ?_
            refine g_iconst (v := 1) Γ dX5_round_116 (by decide) ?_
            obtain ⟨v35, e36, hf⟩ := ya_ob hf
            refine g_vi (q := (RX5, TX5, 19)) (wr := [(A_t 9, eI cZ 6 d_t_side), (A_t 10, eI cI 6 d_t_far)]) (ws' := [(A_t 9, eI cZ 6 d_t_side), (A_t 10, eI cI 6 d_t_far), (h_t, oR A_t d_t_many d_t_below d_t_above1 d_t_below1), (A_t 0, eI cI 242 d_t_now)]) Γ (fun sz => mX5_get (l := l) (D := D) (sz := sz) (cI := cI) (cJ := cJ) (cZ := cZ) (cW := cW) (cR := cR) (h_t := h_t) (A_t := A_t) (hf := e36)) eX5_get gX5_round_X5_get rfl rfl 0 rfl rfl rfl (Nat.le_of_ble_eq_true rfl) ⟨Nat.le_of_ble_eq_true rfl, Nat.le_of_ble_eq_true rfl⟩ dX5_round_117 [2, 3] [0, 1] rfl rfl rfl rfl (by decide) rfl ?_
            refine g_istore (lv' := [(7, .int v35), (6, .int v33), (0, .ref h_t), (1, .int y1), (2, .int y2), (4, .int y4), (5, .int y5)]) Γ dX5_round_120 (by decide) rfl ?_
            refine g_aload_n Γ 2 dX5_round_122 rfl ?_
            refine g_get Γ fX5_round_42 2 rfl rfl dX5_round_123 ?_
            refine g_iload Γ 1 dX5_round_126 rfl ?_
            refine g_aload_n Γ 2 dX5_round_128 rfl ?_
            refine g_get Γ fX5_round_42 2 rfl rfl dX5_round_129 ?_
            refine g_iload Γ 0 dX5_round_132 rfl ?_
            obtain ⟨v37, e38, hf⟩ := ya_ob hf
            refine g_iald Γ e38 1 0 rfl rfl dX5_round_134 ?_
            refine g_iconst (v := 1) Γ dX5_round_135 (by decide) ?_
            refine g_iadd Γ dX5_round_136 ?_
            refine g_aload_n Γ 2 dX5_round_137 rfl ?_
            refine g_get Γ fX5_round_42 2 rfl rfl dX5_round_138 ?_
            refine g_iload Γ 1 dX5_round_141 rfl ?_
            obtain ⟨v39, e40, hf⟩ := ya_ob hf
            refine g_iald Γ e40 1 0 rfl rfl dX5_round_143 ?_
            refine g_icmp_ge Γ 159 dX5_round_144 (by decide) (fun c41 => ?_) (fun c41 => ?_)
            · have hf := ya_if1 c41 hf
              refine g_aload_n Γ 2 dX5_round_159 rfl ?_
              refine g_get Γ fX5_round_42 2 rfl rfl dX5_round_160 ?_
              refine g_iload Γ 1 dX5_round_163 rfl ?_
              obtain ⟨v42, e43, hf⟩ := ya_ob hf
              refine g_iald Γ e43 1 0 rfl rfl dX5_round_165 ?_
              obtain ⟨v44, e45, hf⟩ := ya_ob hf
              refine g_iast (ws' := [(A_t 9, eI cZ 6 d_t_side), (A_t 10, eI cI 6 v44), (h_t, oR A_t d_t_many d_t_below d_t_above1 d_t_below1), (A_t 0, eI cI 242 d_t_now)]) Γ e45 1 0 rfl rfl dX5_round_166 rfl ?_
              refine g_aload_n Γ 2 dX5_round_167 rfl ?_
              refine g_get Γ fX5_round_42 2 rfl rfl dX5_round_168 ?_
              refine g_iload Γ 0 dX5_round_171 rfl ?_
              refine g_aload_n Γ 2 dX5_round_173 rfl ?_
              refine g_get Γ fX5_round_42 2 rfl rfl dX5_round_174 ?_
              refine g_iload Γ 1 dX5_round_177 rfl ?_
              obtain ⟨v46, e47, hf⟩ := ya_ob hf
              refine g_iald Γ e47 1 0 rfl rfl dX5_round_179 ?_
              refine g_iconst (v := 1) Γ dX5_round_180 (by decide) ?_
              refine g_iadd Γ dX5_round_181 ?_
              refine g_aload_n Γ 2 dX5_round_182 rfl ?_
              refine g_get Γ fX5_round_42 2 rfl rfl dX5_round_183 ?_
              refine g_iload Γ 0 dX5_round_186 rfl ?_
              obtain ⟨v48, e49, hf⟩ := ya_ob hf
              refine g_iald Γ e49 1 0 rfl rfl dX5_round_188 ?_
              refine g_icmp_ge Γ 204 dX5_round_189 (by decide) (fun c50 => ?_) (fun c50 => ?_)
              · have hf := ya_if1 c50 hf
                refine g_aload_n Γ 2 dX5_round_204 rfl ?_
                refine g_get Γ fX5_round_42 2 rfl rfl dX5_round_205 ?_
                refine g_iload Γ 0 dX5_round_208 rfl ?_
                obtain ⟨v51, e52, hf⟩ := ya_ob hf
                refine g_iald Γ e52 1 0 rfl rfl dX5_round_210 ?_
                obtain ⟨v53, e54, hf⟩ := ya_ob hf
                refine g_iast (ws' := [(A_t 9, eI cZ 6 d_t_side), (A_t 10, eI cI 6 v53), (h_t, oR A_t d_t_many d_t_below d_t_above1 d_t_below1), (A_t 0, eI cI 242 d_t_now)]) Γ e54 1 0 rfl rfl dX5_round_211 rfl ?_
                obtain ⟨v55, e56, hf⟩ := ya_lt_inv hf
                refine g_iinc (lv' := [(5, .int v55), (7, .int v35), (6, .int v33), (0, .ref h_t), (1, .int y1), (2, .int y2), (4, .int y4)]) Γ 6 dX5_round_212 rfl (by rw [e56]; rfl) (by decide) rfl ?_
                refine g_goto Γ 77 dX5_round_215 (by decide) ?_
                refine g_lv [3, 4, 5, 6, 0] rfl ?_
                refine g_ws (ws' := [(h_t, oR A_t d_t_many d_t_below d_t_above1 d_t_below1), (A_t 0, eI cI 242 d_t_now), (A_t 9, eI cZ 6 d_t_side), (A_t 10, eI cI 6 v53)]) [2, 3, 0, 1] rfl rfl ?_
                exact ih _ _ _ _ _ _ _ _ _ _ _ _ hf hk
              · have hf := ya_if2 c50 hf
                refine g_aload_n Γ 2 dX5_round_192 rfl ?_
                refine g_get Γ fX5_round_42 2 rfl rfl dX5_round_193 ?_
                refine g_iload Γ 1 dX5_round_196 rfl ?_
                obtain ⟨v57, e58, hf⟩ := ya_ob hf
                refine g_iald Γ e58 1 0 rfl rfl dX5_round_198 ?_
                refine g_iconst (v := 1) Γ dX5_round_199 (by decide) ?_
                refine g_iadd Γ dX5_round_200 ?_
                refine g_goto Γ 211 dX5_round_201 (by decide) ?_
                obtain ⟨v59, e60, hf⟩ := ya_ob hf
                refine g_iast (ws' := [(A_t 9, eI cZ 6 d_t_side), (A_t 10, eI cI 6 v59), (h_t, oR A_t d_t_many d_t_below d_t_above1 d_t_below1), (A_t 0, eI cI 242 d_t_now)]) Γ e60 1 0 rfl rfl dX5_round_211 rfl ?_
                obtain ⟨v61, e62, hf⟩ := ya_lt_inv hf
                refine g_iinc (lv' := [(5, .int v61), (7, .int v35), (6, .int v33), (0, .ref h_t), (1, .int y1), (2, .int y2), (4, .int y4)]) Γ 6 dX5_round_212 rfl (by rw [e62]; rfl) (by decide) rfl ?_
                refine g_goto Γ 77 dX5_round_215 (by decide) ?_
                refine g_lv [3, 4, 5, 6, 0] rfl ?_
                refine g_ws (ws' := [(h_t, oR A_t d_t_many d_t_below d_t_above1 d_t_below1), (A_t 0, eI cI 242 d_t_now), (A_t 9, eI cZ 6 d_t_side), (A_t 10, eI cI 6 v59)]) [2, 3, 0, 1] rfl rfl ?_
                exact ih _ _ _ _ _ _ _ _ _ _ _ _ hf hk
            · have hf := ya_if2 c41 hf
              refine g_aload_n Γ 2 dX5_round_147 rfl ?_
              refine g_get Γ fX5_round_42 2 rfl rfl dX5_round_148 ?_
              refine g_iload Γ 0 dX5_round_151 rfl ?_
              obtain ⟨v63, e64, hf⟩ := ya_ob hf
              refine g_iald Γ e64 1 0 rfl rfl dX5_round_153 ?_
              refine g_iconst (v := 1) Γ dX5_round_154 (by decide) ?_
              refine g_iadd Γ dX5_round_155 ?_
              refine g_goto Γ 166 dX5_round_156 (by decide) ?_
              obtain ⟨v65, e66, hf⟩ := ya_ob hf
              refine g_iast (ws' := [(A_t 9, eI cZ 6 d_t_side), (A_t 10, eI cI 6 v65), (h_t, oR A_t d_t_many d_t_below d_t_above1 d_t_below1), (A_t 0, eI cI 242 d_t_now)]) Γ e66 1 0 rfl rfl dX5_round_166 rfl ?_
              refine g_aload_n Γ 2 dX5_round_167 rfl ?_
              refine g_get Γ fX5_round_42 2 rfl rfl dX5_round_168 ?_
              refine g_iload Γ 0 dX5_round_171 rfl ?_
              refine g_aload_n Γ 2 dX5_round_173 rfl ?_
              refine g_get Γ fX5_round_42 2 rfl rfl dX5_round_174 ?_
              refine g_iload Γ 1 dX5_round_177 rfl ?_
              obtain ⟨v67, e68, hf⟩ := ya_ob hf
              refine g_iald Γ e68 1 0 rfl rfl dX5_round_179 ?_
              refine g_iconst (v := 1) Γ dX5_round_180 (by decide) ?_
              refine g_iadd Γ dX5_round_181 ?_
              refine g_aload_n Γ 2 dX5_round_182 rfl ?_
              refine g_get Γ fX5_round_42 2 rfl rfl dX5_round_183 ?_
              refine g_iload Γ 0 dX5_round_186 rfl ?_
              obtain ⟨v69, e70, hf⟩ := ya_ob hf
              refine g_iald Γ e70 1 0 rfl rfl dX5_round_188 ?_
              refine g_icmp_ge Γ 204 dX5_round_189 (by decide) (fun c71 => ?_) (fun c71 => ?_)
              · have hf := ya_if1 c71 hf
                refine g_aload_n Γ 2 dX5_round_204 rfl ?_
                refine g_get Γ fX5_round_42 2 rfl rfl dX5_round_205 ?_
                refine g_iload Γ 0 dX5_round_208 rfl ?_
                obtain ⟨v72, e73, hf⟩ := ya_ob hf
                refine g_iald Γ e73 1 0 rfl rfl dX5_round_210 ?_
                obtain ⟨v74, e75, hf⟩ := ya_ob hf
                refine g_iast (ws' := [(A_t 9, eI cZ 6 d_t_side), (A_t 10, eI cI 6 v74), (h_t, oR A_t d_t_many d_t_below d_t_above1 d_t_below1), (A_t 0, eI cI 242 d_t_now)]) Γ e75 1 0 rfl rfl dX5_round_211 rfl ?_
                obtain ⟨v76, e77, hf⟩ := ya_lt_inv hf
                refine g_iinc (lv' := [(5, .int v76), (7, .int v35), (6, .int v33), (0, .ref h_t), (1, .int y1), (2, .int y2), (4, .int y4)]) Γ 6 dX5_round_212 rfl (by rw [e77]; rfl) (by decide) rfl ?_
                refine g_goto Γ 77 dX5_round_215 (by decide) ?_
                refine g_lv [3, 4, 5, 6, 0] rfl ?_
                refine g_ws (ws' := [(h_t, oR A_t d_t_many d_t_below d_t_above1 d_t_below1), (A_t 0, eI cI 242 d_t_now), (A_t 9, eI cZ 6 d_t_side), (A_t 10, eI cI 6 v74)]) [2, 3, 0, 1] rfl rfl ?_
                exact ih _ _ _ _ _ _ _ _ _ _ _ _ hf hk
              · have hf := ya_if2 c71 hf
                refine g_aload_n Γ 2 dX5_round_192 rfl ?_
                refine g_get Γ fX5_round_42 2 rfl rfl dX5_round_193 ?_
                refine g_iload Γ 1 dX5_round_196 rfl ?_
                obtain ⟨v78, e79, hf⟩ := ya_ob hf
                refine g_iald Γ e79 1 0 rfl rfl dX5_round_198 ?_
                refine g_iconst (v := 1) Γ dX5_round_199 (by decide) ?_
                refine g_iadd Γ dX5_round_200 ?_
                refine g_goto Γ 211 dX5_round_201 (by decide) ?_
                obtain ⟨v80, e81, hf⟩ := ya_ob hf
                refine g_iast (ws' := [(A_t 9, eI cZ 6 d_t_side), (A_t 10, eI cI 6 v80), (h_t, oR A_t d_t_many d_t_below d_t_above1 d_t_below1), (A_t 0, eI cI 242 d_t_now)]) Γ e81 1 0 rfl rfl dX5_round_211 rfl ?_
                obtain ⟨v82, e83, hf⟩ := ya_lt_inv hf
                refine g_iinc (lv' := [(5, .int v82), (7, .int v35), (6, .int v33), (0, .ref h_t), (1, .int y1), (2, .int y2), (4, .int y4)]) Γ 6 dX5_round_212 rfl (by rw [e83]; rfl) (by decide) rfl ?_
                refine g_goto Γ 77 dX5_round_215 (by decide) ?_
                refine g_lv [3, 4, 5, 6, 0] rfl ?_
                refine g_ws (ws' := [(h_t, oR A_t d_t_many d_t_below d_t_above1 d_t_below1), (A_t 0, eI cI 242 d_t_now), (A_t 9, eI cZ 6 d_t_side), (A_t 10, eI cI 6 v80)]) [2, 3, 0, 1] rfl rfl ?_
                exact ih _ _ _ _ _ _ _ _ _ _ _ _ hf hk
          · have hf := ya_if1 c32 hf
            refine g_goto Γ 212 dX5_round_101 (by decide) ?_
            obtain ⟨v84, e85, hf⟩ := ya_lt_inv hf
            refine g_iinc (lv' := [(5, .int v84), (0, .ref h_t), (1, .int y1), (2, .int y2), (4, .int y4)]) Γ 4 dX5_round_212 rfl (by rw [e85]; rfl) (by decide) rfl ?_
            refine g_goto Γ 77 dX5_round_215 (by decide) ?_
            refine g_lv [1, 2, 3, 4, 0] rfl ?_
            refine g_ws (ws' := [(h_t, oR A_t d_t_many d_t_below d_t_above1 d_t_below1), (A_t 0, eI cI 242 d_t_now), (A_t 9, eI cZ 6 d_t_side), (A_t 10, eI cI 6 d_t_far)]) [2, 3, 0, 1] rfl rfl ?_
            exact ih _ _ _ _ _ _ _ _ _ _ _ _ hf hk
  have loop67 : ∀ (n : Nat) (y1 : Int32) (y2 : Int32) (y4 : Int32) (d_t_many : Int32) (d_t_below : Int64) (d_t_above1 : Int64) (d_t_below1 : Int64) (d_t_now : Nat → Int32) (d_t_side : Nat → Int32) (d_t_far : Nat → Int32) (w0 : Nat → Int32), fX5_round_L67 N n y1 y2 y4 d_t_now d_t_far = some w0 → yG p l e (headSpec wsX5_round rmX5_round).room s m (List.toArray [.ref h_t, .int x1, .int x2]) below meth c D (va_A [(h_t, oR A_t c_t_many c_t_below c_t_above1 c_t_below1), (A_t 0, eI cI 242 c_t_now), (A_t 9, eI cZ 6 c_t_side), (A_t 10, eI cI 6 c_t_far)] sz) 8 0 0 (MQ below (yQi D (yT cI cJ cZ cW cR) r [(h_t, oR A_t c_t_many c_t_below c_t_above1 c_t_below1), (A_t 0, eI cI 242 c_t_now), (A_t 9, eI cZ 6 zc_t_side), (A_t 10, eI cI 6 zc_t_far)] (va_A [(h_t, oR A_t c_t_many c_t_below c_t_above1 c_t_below1), (A_t 0, eI cI 242 c_t_now), (A_t 9, eI cZ 6 c_t_side), (A_t 10, eI cI 6 c_t_far)] sz)) (List.toArray [.ref h_t, .int x1, .int x2]) s 0 0 (va_A [(h_t, oR A_t c_t_many c_t_below c_t_above1 c_t_below1), (A_t 0, eI cI 242 c_t_now), (A_t 9, eI cZ 6 c_t_side), (A_t 10, eI cI 6 c_t_far)] sz)) 224 [(0, .ref h_t), (1, .int y1), (2, .int y2)] [] [(h_t, oR A_t d_t_many d_t_below d_t_above1 d_t_below1), (A_t 0, eI cI 242 d_t_now), (A_t 9, eI cZ 6 d_t_side), (A_t 10, eI cI 6 w0)] → yG p l e (headSpec wsX5_round rmX5_round).room s m (List.toArray [.ref h_t, .int x1, .int x2]) below meth c D (va_A [(h_t, oR A_t c_t_many c_t_below c_t_above1 c_t_below1), (A_t 0, eI cI 242 c_t_now), (A_t 9, eI cZ 6 c_t_side), (A_t 10, eI cI 6 c_t_far)] sz) 8 0 0 (MQ below (yQi D (yT cI cJ cZ cW cR) r [(h_t, oR A_t c_t_many c_t_below c_t_above1 c_t_below1), (A_t 0, eI cI 242 c_t_now), (A_t 9, eI cZ 6 zc_t_side), (A_t 10, eI cI 6 zc_t_far)] (va_A [(h_t, oR A_t c_t_many c_t_below c_t_above1 c_t_below1), (A_t 0, eI cI 242 c_t_now), (A_t 9, eI cZ 6 c_t_side), (A_t 10, eI cI 6 c_t_far)] sz)) (List.toArray [.ref h_t, .int x1, .int x2]) s 0 0 (va_A [(h_t, oR A_t c_t_many c_t_below c_t_above1 c_t_below1), (A_t 0, eI cI 242 c_t_now), (A_t 9, eI cZ 6 c_t_side), (A_t 10, eI cI 6 c_t_far)] sz)) 67 [(0, .ref h_t), (1, .int y1), (2, .int y2), (4, .int y4)] [] [(h_t, oR A_t d_t_many d_t_below d_t_above1 d_t_below1), (A_t 0, eI cI 242 d_t_now), (A_t 9, eI cZ 6 d_t_side), (A_t 10, eI cI 6 d_t_far)] := by
    intro n
    induction n with
    | zero =>
      intro y1 y2 y4 d_t_many d_t_below d_t_above1 d_t_below1 d_t_now d_t_side d_t_far w0 hf
      cases hf
    | succ n ih =>
      intro y1 y2 y4 d_t_many d_t_below d_t_above1 d_t_below1 d_t_now d_t_side d_t_far w0 hf hk
      unfold fX5_round_L67 at hf
      refine g_iload Γ 3 dX5_round_67 rfl ?_
      refine g_bipush (v := 6) Γ dX5_round_69 (by decide) ?_
      refine g_icmp_ge Γ 224 dX5_round_71 (by decide) (fun c23 => ?_) (fun c23 => ?_)
      · have hf := ya_if1 c23 hf
        cases hf
        refine g_lv [0, 1, 2] rfl ?_
        exact hk
      · have hf := ya_if2 c23 hf
        refine g_iconst (v := 0) Γ dX5_round_74 (by decide) ?_
        refine g_istore (lv' := [(5, .int 0), (0, .ref h_t), (1, .int y1), (2, .int y2), (4, .int y4)]) Γ dX5_round_75 (by decide) rfl ?_
        obtain ⟨v86, e87, hf⟩ := ya_ob hf
        refine g_lv [1, 2, 3, 4, 0] rfl ?_
        refine loop77 N _ _ _ _ _ _ _ _ _ _ _ _ e87  ?_
        obtain ⟨v88, e89, hf⟩ := ya_lt_inv hf
        refine g_iinc (lv' := [(4, .int v88), (0, .ref h_t), (1, .int y1), (2, .int y2)]) Γ 3 dX5_round_218 rfl (by rw [e89]; rfl) (by decide) rfl ?_
        refine g_goto Γ 67 dX5_round_221 (by decide) ?_
        refine g_lv [1, 2, 3, 0] rfl ?_
        exact ih _ _ _ _ _ _ _ _ _ _ _ hf hk
  have loop259 : ∀ (n : Nat) (y1 : Int32) (y2 : Int32) (y4 : Int32) (y6 : Int32) (y7 : Int32) (d_t_many : Int32) (d_t_below : Int64) (d_t_above1 : Int64) (d_t_below1 : Int64) (d_t_now : Nat → Int32) (d_t_side : Nat → Int32) (d_t_far : Nat → Int32) (w0 : Int32), fX5_round_L259 N n y1 y2 y4 y6 y7 d_t_now d_t_far = some w0 → yG p l e (headSpec wsX5_round rmX5_round).room s m (List.toArray [.ref h_t, .int x1, .int x2]) below meth c D (va_A [(h_t, oR A_t c_t_many c_t_below c_t_above1 c_t_below1), (A_t 0, eI cI 242 c_t_now), (A_t 9, eI cZ 6 c_t_side), (A_t 10, eI cI 6 c_t_far)] sz) 8 0 0 (MQ below (yQi D (yT cI cJ cZ cW cR) r [(h_t, oR A_t c_t_many c_t_below c_t_above1 c_t_below1), (A_t 0, eI cI 242 c_t_now), (A_t 9, eI cZ 6 zc_t_side), (A_t 10, eI cI 6 zc_t_far)] (va_A [(h_t, oR A_t c_t_many c_t_below c_t_above1 c_t_below1), (A_t 0, eI cI 242 c_t_now), (A_t 9, eI cZ 6 c_t_side), (A_t 10, eI cI 6 c_t_far)] sz)) (List.toArray [.ref h_t, .int x1, .int x2]) s 0 0 (va_A [(h_t, oR A_t c_t_many c_t_below c_t_above1 c_t_below1), (A_t 0, eI cI 242 c_t_now), (A_t 9, eI cZ 6 c_t_side), (A_t 10, eI cI 6 c_t_far)] sz)) 291 [(0, .ref h_t), (1, .int y1), (2, .int y2), (4, .int y4), (6, .int y6), (7, .int w0)] [] [(h_t, oR A_t d_t_many d_t_below d_t_above1 d_t_below1), (A_t 0, eI cI 242 d_t_now), (A_t 9, eI cZ 6 d_t_side), (A_t 10, eI cI 6 d_t_far)] → yG p l e (headSpec wsX5_round rmX5_round).room s m (List.toArray [.ref h_t, .int x1, .int x2]) below meth c D (va_A [(h_t, oR A_t c_t_many c_t_below c_t_above1 c_t_below1), (A_t 0, eI cI 242 c_t_now), (A_t 9, eI cZ 6 c_t_side), (A_t 10, eI cI 6 c_t_far)] sz) 8 0 0 (MQ below (yQi D (yT cI cJ cZ cW cR) r [(h_t, oR A_t c_t_many c_t_below c_t_above1 c_t_below1), (A_t 0, eI cI 242 c_t_now), (A_t 9, eI cZ 6 zc_t_side), (A_t 10, eI cI 6 zc_t_far)] (va_A [(h_t, oR A_t c_t_many c_t_below c_t_above1 c_t_below1), (A_t 0, eI cI 242 c_t_now), (A_t 9, eI cZ 6 c_t_side), (A_t 10, eI cI 6 c_t_far)] sz)) (List.toArray [.ref h_t, .int x1, .int x2]) s 0 0 (va_A [(h_t, oR A_t c_t_many c_t_below c_t_above1 c_t_below1), (A_t 0, eI cI 242 c_t_now), (A_t 9, eI cZ 6 c_t_side), (A_t 10, eI cI 6 c_t_far)] sz)) 259 [(0, .ref h_t), (1, .int y1), (2, .int y2), (4, .int y4), (6, .int y6), (7, .int y7)] [] [(h_t, oR A_t d_t_many d_t_below d_t_above1 d_t_below1), (A_t 0, eI cI 242 d_t_now), (A_t 9, eI cZ 6 d_t_side), (A_t 10, eI cI 6 d_t_far)] := by
    intro n
    induction n with
    | zero =>
      intro y1 y2 y4 y6 y7 d_t_many d_t_below d_t_above1 d_t_below1 d_t_now d_t_side d_t_far w0 hf
      cases hf
    | succ n ih =>
      intro y1 y2 y4 y6 y7 d_t_many d_t_below d_t_above1 d_t_below1 d_t_now d_t_side d_t_far w0 hf hk
      unfold fX5_round_L259 at hf
      refine g_aload_n Γ 0 dX5_round_259 rfl ?_
      refine g_iload Γ 5 dX5_round_260 rfl ?_
      obtain ⟨v98, e99, hf⟩ := ya_ob hf
      refine g_vi (q := (RX5, TX5, 19)) (wr := [(A_t 9, eI cZ 6 d_t_side), (A_t 10, eI cI 6 d_t_far)]) (ws' := [(A_t 9, eI cZ 6 d_t_side), (A_t 10, eI cI 6 d_t_far), (h_t, oR A_t d_t_many d_t_below d_t_above1 d_t_below1), (A_t 0, eI cI 242 d_t_now)]) Γ (fun sz => mX5_isRead (l := l) (D := D) (sz := sz) (cI := cI) (cJ := cJ) (cZ := cZ) (cW := cW) (cR := cR) (h_t := h_t) (A_t := A_t) (hf := e99)) eX5_isRead gX5_round_X5_isRead rfl rfl 0 rfl rfl rfl (Nat.le_of_ble_eq_true rfl) ⟨Nat.le_of_ble_eq_true rfl, Nat.le_of_ble_eq_true rfl⟩ dX5_round_262 [0, 1] [2, 3] rfl rfl rfl rfl (by decide) rfl ?_
      refine g_if_ne Γ 285 dX5_round_265 (by decide) (fun c100 => ?_) (fun c100 => ?_)
      · have hf := ya_if2 c100 hf
        obtain ⟨v101, e102, hf⟩ := ya_lt_inv hf
        refine g_iinc (lv' := [(7, .int v101), (0, .ref h_t), (1, .int y1), (2, .int y2), (4, .int y4), (6, .int y6)]) Γ 5 dX5_round_285 rfl (by rw [e102]; rfl) (by decide) rfl ?_
        refine g_goto Γ 259 dX5_round_288 (by decide) ?_
        refine g_lv [1, 2, 3, 4, 5, 0] rfl ?_
        refine g_ws (ws' := [(h_t, oR A_t d_t_many d_t_below d_t_above1 d_t_below1), (A_t 0, eI cI 242 d_t_now), (A_t 9, eI cZ 6 d_t_side), (A_t 10, eI cI 6 d_t_far)]) [2, 3, 0, 1] rfl rfl ?_
        exact ih _ _ _ _ _ _ _ _ _ _ _ _ _ hf hk
      · have hf := ya_if1 c100 hf
        refine g_iload Γ 5 dX5_round_268 rfl ?_
        refine g_iload_n Γ 1 dX5_round_270 rfl ?_
        refine g_icmp_eq Γ 285 dX5_round_271 (by decide) (fun c103 => ?_) (fun c103 => ?_)
        · have hf := ya_if1 c103 hf
          obtain ⟨v104, e105, hf⟩ := ya_lt_inv hf
          refine g_iinc (lv' := [(7, .int v104), (0, .ref h_t), (1, .int y1), (2, .int y2), (4, .int y4), (6, .int y6)]) Γ 5 dX5_round_285 rfl (by rw [e105]; rfl) (by decide) rfl ?_
          refine g_goto Γ 259 dX5_round_288 (by decide) ?_
          refine g_lv [1, 2, 3, 4, 5, 0] rfl ?_
          refine g_ws (ws' := [(h_t, oR A_t d_t_many d_t_below d_t_above1 d_t_below1), (A_t 0, eI cI 242 d_t_now), (A_t 9, eI cZ 6 d_t_side), (A_t 10, eI cI 6 d_t_far)]) [2, 3, 0, 1] rfl rfl ?_
          exact ih _ _ _ _ _ _ _ _ _ _ _ _ _ hf hk
        · have hf := ya_if2 c103 hf
          refine g_aload_n Γ 0 dX5_round_274 rfl ?_
          refine g_iload Γ 5 dX5_round_275 rfl ?_
          refine g_iload Γ 3 dX5_round_277 rfl ?_
          obtain ⟨v106, e107, hf⟩ := ya_ob hf
          refine g_vi (q := (RX5, TX5, 19)) (wr := [(A_t 9, eI cZ 6 d_t_side)]) (ws' := [(A_t 9, eI cZ 6 d_t_side), (h_t, oR A_t d_t_many d_t_below d_t_above1 d_t_below1), (A_t 0, eI cI 242 d_t_now), (A_t 10, eI cI 6 d_t_far)]) Γ (fun sz => mX5_leads (l := l) (D := D) (sz := sz) (cI := cI) (cJ := cJ) (cZ := cZ) (cW := cW) (cR := cR) (h_t := h_t) (A_t := A_t) (hf := e107)) eX5_leads gX5_round_X5_leads rfl rfl 0 rfl rfl rfl (Nat.le_of_ble_eq_true rfl) ⟨Nat.le_of_ble_eq_true rfl, Nat.le_of_ble_eq_true rfl⟩ dX5_round_279 [2, 3, 1] [0] rfl rfl rfl rfl (by decide) rfl ?_
          refine g_if_ne Γ 291 dX5_round_282 (by decide) (fun c108 => ?_) (fun c108 => ?_)
          · have hf := ya_if2 c108 hf
            cases hf
            refine g_ws (ws' := [(h_t, oR A_t d_t_many d_t_below d_t_above1 d_t_below1), (A_t 0, eI cI 242 d_t_now), (A_t 9, eI cZ 6 d_t_side), (A_t 10, eI cI 6 d_t_far)]) [1, 2, 0, 3] rfl rfl ?_
            exact hk
          · have hf := ya_if1 c108 hf
            obtain ⟨v109, e110, hf⟩ := ya_lt_inv hf
            refine g_iinc (lv' := [(7, .int v109), (0, .ref h_t), (1, .int y1), (2, .int y2), (4, .int y4), (6, .int y6)]) Γ 5 dX5_round_285 rfl (by rw [e110]; rfl) (by decide) rfl ?_
            refine g_goto Γ 259 dX5_round_288 (by decide) ?_
            refine g_lv [1, 2, 3, 4, 5, 0] rfl ?_
            refine g_ws (ws' := [(h_t, oR A_t d_t_many d_t_below d_t_above1 d_t_below1), (A_t 0, eI cI 242 d_t_now), (A_t 9, eI cZ 6 d_t_side), (A_t 10, eI cI 6 d_t_far)]) [1, 2, 0, 3] rfl rfl ?_
            exact ih _ _ _ _ _ _ _ _ _ _ _ _ _ hf hk
  have loop238 : ∀ (n : Nat) (y1 : Int32) (y2 : Int32) (y4 : Int32) (y5 : Int32) (y6 : Int32) (d_t_many : Int32) (d_t_below : Int64) (d_t_above1 : Int64) (d_t_below1 : Int64) (d_t_now : Nat → Int32) (d_t_side : Nat → Int32) (d_t_far : Nat → Int32) (o : (Unit) ⊕ (Int32)), fX5_round_L238 N n y1 y2 y4 y5 y6 d_t_now d_t_far = some o → (∀ (w : Unit), o = .inl w → yG p l e (headSpec wsX5_round rmX5_round).room s m (List.toArray [.ref h_t, .int x1, .int x2]) below meth c D (va_A [(h_t, oR A_t c_t_many c_t_below c_t_above1 c_t_below1), (A_t 0, eI cI 242 c_t_now), (A_t 9, eI cZ 6 c_t_side), (A_t 10, eI cI 6 c_t_far)] sz) 8 0 0 (MQ below (yQi D (yT cI cJ cZ cW cR) r [(h_t, oR A_t c_t_many c_t_below c_t_above1 c_t_below1), (A_t 0, eI cI 242 c_t_now), (A_t 9, eI cZ 6 zc_t_side), (A_t 10, eI cI 6 zc_t_far)] (va_A [(h_t, oR A_t c_t_many c_t_below c_t_above1 c_t_below1), (A_t 0, eI cI 242 c_t_now), (A_t 9, eI cZ 6 c_t_side), (A_t 10, eI cI 6 c_t_far)] sz)) (List.toArray [.ref h_t, .int x1, .int x2]) s 0 0 (va_A [(h_t, oR A_t c_t_many c_t_below c_t_above1 c_t_below1), (A_t 0, eI cI 242 c_t_now), (A_t 9, eI cZ 6 c_t_side), (A_t 10, eI cI 6 c_t_far)] sz)) 254 [] [] [(h_t, oR A_t d_t_many d_t_below d_t_above1 d_t_below1), (A_t 0, eI cI 242 d_t_now), (A_t 9, eI cZ 6 d_t_side), (A_t 10, eI cI 6 d_t_far)]) → (∀ (w0 : Int32), o = .inr w0 → yG p l e (headSpec wsX5_round rmX5_round).room s m (List.toArray [.ref h_t, .int x1, .int x2]) below meth c D (va_A [(h_t, oR A_t c_t_many c_t_below c_t_above1 c_t_below1), (A_t 0, eI cI 242 c_t_now), (A_t 9, eI cZ 6 c_t_side), (A_t 10, eI cI 6 c_t_far)] sz) 8 0 0 (MQ below (yQi D (yT cI cJ cZ cW cR) r [(h_t, oR A_t c_t_many c_t_below c_t_above1 c_t_below1), (A_t 0, eI cI 242 c_t_now), (A_t 9, eI cZ 6 zc_t_side), (A_t 10, eI cI 6 zc_t_far)] (va_A [(h_t, oR A_t c_t_many c_t_below c_t_above1 c_t_below1), (A_t 0, eI cI 242 c_t_now), (A_t 9, eI cZ 6 c_t_side), (A_t 10, eI cI 6 c_t_far)] sz)) (List.toArray [.ref h_t, .int x1, .int x2]) s 0 0 (va_A [(h_t, oR A_t c_t_many c_t_below c_t_above1 c_t_below1), (A_t 0, eI cI 242 c_t_now), (A_t 9, eI cZ 6 c_t_side), (A_t 10, eI cI 6 c_t_far)] sz)) 332 [(5, .int w0)] [] [(h_t, oR A_t d_t_many d_t_below d_t_above1 d_t_below1), (A_t 0, eI cI 242 d_t_now), (A_t 9, eI cZ 6 d_t_side), (A_t 10, eI cI 6 d_t_far)]) → yG p l e (headSpec wsX5_round rmX5_round).room s m (List.toArray [.ref h_t, .int x1, .int x2]) below meth c D (va_A [(h_t, oR A_t c_t_many c_t_below c_t_above1 c_t_below1), (A_t 0, eI cI 242 c_t_now), (A_t 9, eI cZ 6 c_t_side), (A_t 10, eI cI 6 c_t_far)] sz) 8 0 0 (MQ below (yQi D (yT cI cJ cZ cW cR) r [(h_t, oR A_t c_t_many c_t_below c_t_above1 c_t_below1), (A_t 0, eI cI 242 c_t_now), (A_t 9, eI cZ 6 zc_t_side), (A_t 10, eI cI 6 zc_t_far)] (va_A [(h_t, oR A_t c_t_many c_t_below c_t_above1 c_t_below1), (A_t 0, eI cI 242 c_t_now), (A_t 9, eI cZ 6 c_t_side), (A_t 10, eI cI 6 c_t_far)] sz)) (List.toArray [.ref h_t, .int x1, .int x2]) s 0 0 (va_A [(h_t, oR A_t c_t_many c_t_below c_t_above1 c_t_below1), (A_t 0, eI cI 242 c_t_now), (A_t 9, eI cZ 6 c_t_side), (A_t 10, eI cI 6 c_t_far)] sz)) 238 [(0, .ref h_t), (1, .int y1), (2, .int y2), (4, .int y4), (5, .int y5), (6, .int y6)] [] [(h_t, oR A_t d_t_many d_t_below d_t_above1 d_t_below1), (A_t 0, eI cI 242 d_t_now), (A_t 9, eI cZ 6 d_t_side), (A_t 10, eI cI 6 d_t_far)] := by
    intro n
    induction n with
    | zero =>
      intro y1 y2 y4 y5 y6 d_t_many d_t_below d_t_above1 d_t_below1 d_t_now d_t_side d_t_far o hf
      cases hf
    | succ n ih =>
      intro y1 y2 y4 y5 y6 d_t_many d_t_below d_t_above1 d_t_below1 d_t_now d_t_side d_t_far o hf hk1 hk2
      unfold fX5_round_L238 at hf
      refine g_iload Γ 5 dX5_round_238 rfl ?_
      refine g_iload_n Γ 2 dX5_round_240 rfl ?_
      refine g_icmp_ge Γ 332 dX5_round_241 (by decide) (fun c94 => ?_) (fun c94 => ?_)
      · have hf := ya_if1 c94 hf
        cases hf
        refine g_lv [4] rfl ?_
        exact hk2 _ rfl
      · have hf := ya_if2 c94 hf
        refine g_aload_n Γ 0 dX5_round_244 rfl ?_
        refine g_get Γ fX5_round_42 0 rfl rfl dX5_round_245 ?_
        refine g_iload Γ 3 dX5_round_248 rfl ?_
        obtain ⟨v95, e96, hf⟩ := ya_ob hf
        refine g_iald Γ e96 3 0 rfl rfl dX5_round_250 ?_
        refine g_if_ne Γ 256 dX5_round_251 (by decide) (fun c97 => ?_) (fun c97 => ?_)
        · have hf := ya_if2 c97 hf
          refine g_iconst (v := 0) Γ dX5_round_256 (by decide) ?_
          refine g_istore (lv' := [(7, .int 0), (0, .ref h_t), (1, .int y1), (2, .int y2), (4, .int y4), (5, .int y5), (6, .int y6)]) Γ dX5_round_257 (by decide) rfl ?_
          obtain ⟨v111, e112, hf⟩ := ya_ob hf
          refine g_lv [1, 2, 3, 4, 6, 0] rfl ?_
          refine loop259 N _ _ _ _ _ _ _ _ _ _ _ _ _ e112  ?_
          refine g_aload_n Γ 0 dX5_round_291 rfl ?_
          refine g_iload Γ 5 dX5_round_292 rfl ?_
          refine g_iconst (v := 0) Γ dX5_round_294 (by decide) ?_
          obtain ⟨v113, e114, hf⟩ := ya_ob hf
          refine g_vi (q := (RX5, TX5, 19)) (wr := [(A_t 9, eI cZ 6 d_t_side), (A_t 10, eI cI 6 d_t_far)]) (ws' := [(A_t 9, eI cZ 6 d_t_side), (A_t 10, eI cI 6 d_t_far), (h_t, oR A_t d_t_many d_t_below d_t_above1 d_t_below1), (A_t 0, eI cI 242 d_t_now)]) Γ (fun sz => mX5_get (l := l) (D := D) (sz := sz) (cI := cI) (cJ := cJ) (cZ := cZ) (cW := cW) (cR := cR) (h_t := h_t) (A_t := A_t) (hf := e114)) eX5_get gX5_round_X5_get rfl rfl 0 rfl rfl rfl (Nat.le_of_ble_eq_true rfl) ⟨Nat.le_of_ble_eq_true rfl, Nat.le_of_ble_eq_true rfl⟩ dX5_round_295 [0, 1] [2, 3] rfl rfl rfl rfl (by decide) rfl ?_
          refine g_iload Γ 3 dX5_round_298 rfl ?_
          refine g_icmp_ne Γ 313 dX5_round_300 (by decide) (fun c115 => ?_) (fun c115 => ?_)
          · have hf := ya_if2 c115 hf
            refine g_aload_n Γ 0 dX5_round_313 rfl ?_
            refine g_iload Γ 5 dX5_round_314 rfl ?_
            refine g_iconst (v := 0) Γ dX5_round_316 (by decide) ?_
            obtain ⟨v116, e117, hf⟩ := ya_ob hf
            refine g_vi (q := (RX5, TX5, 19)) (wr := [(A_t 9, eI cZ 6 d_t_side), (A_t 10, eI cI 6 d_t_far)]) (ws' := [(A_t 9, eI cZ 6 d_t_side), (A_t 10, eI cI 6 d_t_far), (h_t, oR A_t d_t_many d_t_below d_t_above1 d_t_below1), (A_t 0, eI cI 242 d_t_now)]) Γ (fun sz => mX5_get (l := l) (D := D) (sz := sz) (cI := cI) (cJ := cJ) (cZ := cZ) (cW := cW) (cR := cR) (h_t := h_t) (A_t := A_t) (hf := e117)) eX5_get gX5_round_X5_get rfl rfl 0 rfl rfl rfl (Nat.le_of_ble_eq_true rfl) ⟨Nat.le_of_ble_eq_true rfl, Nat.le_of_ble_eq_true rfl⟩ dX5_round_317 [2, 3] [0, 1] rfl rfl rfl rfl (by decide) rfl ?_
            refine g_istore (lv' := [(4, .int v116), (0, .ref h_t), (1, .int y1), (2, .int y2), (6, .int y6), (7, .int v111)]) Γ dX5_round_320 (by decide) rfl ?_
            refine g_iload Γ 5 dX5_round_322 rfl ?_
            refine g_istore (lv' := [(5, .int v111), (4, .int v116), (0, .ref h_t), (1, .int y1), (2, .int y2), (6, .int y6), (7, .int v111)]) Γ dX5_round_324 (by decide) rfl ?_
            obtain ⟨v118, e119, hf⟩ := ya_lt_inv hf
            refine g_iinc (lv' := [(6, .int v118), (5, .int v111), (4, .int v116), (0, .ref h_t), (1, .int y1), (2, .int y2), (7, .int v111)]) Γ 5 dX5_round_326 rfl (by rw [e119]; rfl) (by decide) rfl ?_
            refine g_goto Γ 238 dX5_round_329 (by decide) ?_
            refine g_lv [3, 4, 5, 2, 1, 0] rfl ?_
            refine g_ws (ws' := [(h_t, oR A_t d_t_many d_t_below d_t_above1 d_t_below1), (A_t 0, eI cI 242 d_t_now), (A_t 9, eI cZ 6 d_t_side), (A_t 10, eI cI 6 d_t_far)]) [2, 3, 0, 1] rfl rfl ?_
            exact ih _ _ _ _ _ _ _ _ _ _ _ _ _ hf hk1 hk2
          · have hf := ya_if1 c115 hf
            refine g_aload_n Γ 0 dX5_round_303 rfl ?_
            refine g_iload Γ 5 dX5_round_304 rfl ?_
            refine g_iconst (v := 1) Γ dX5_round_306 (by decide) ?_
            obtain ⟨v120, e121, hf⟩ := ya_ob hf
            refine g_vi (q := (RX5, TX5, 19)) (wr := [(A_t 9, eI cZ 6 d_t_side), (A_t 10, eI cI 6 d_t_far)]) (ws' := [(A_t 9, eI cZ 6 d_t_side), (A_t 10, eI cI 6 d_t_far), (h_t, oR A_t d_t_many d_t_below d_t_above1 d_t_below1), (A_t 0, eI cI 242 d_t_now)]) Γ (fun sz => mX5_get (l := l) (D := D) (sz := sz) (cI := cI) (cJ := cJ) (cZ := cZ) (cW := cW) (cR := cR) (h_t := h_t) (A_t := A_t) (hf := e121)) eX5_get gX5_round_X5_get rfl rfl 0 rfl rfl rfl (Nat.le_of_ble_eq_true rfl) ⟨Nat.le_of_ble_eq_true rfl, Nat.le_of_ble_eq_true rfl⟩ dX5_round_307 [2, 3] [0, 1] rfl rfl rfl rfl (by decide) rfl ?_
            refine g_goto Γ 320 dX5_round_310 (by decide) ?_
            refine g_istore (lv' := [(4, .int v120), (0, .ref h_t), (1, .int y1), (2, .int y2), (6, .int y6), (7, .int v111)]) Γ dX5_round_320 (by decide) rfl ?_
            refine g_iload Γ 5 dX5_round_322 rfl ?_
            refine g_istore (lv' := [(5, .int v111), (4, .int v120), (0, .ref h_t), (1, .int y1), (2, .int y2), (6, .int y6), (7, .int v111)]) Γ dX5_round_324 (by decide) rfl ?_
            obtain ⟨v122, e123, hf⟩ := ya_lt_inv hf
            refine g_iinc (lv' := [(6, .int v122), (5, .int v111), (4, .int v120), (0, .ref h_t), (1, .int y1), (2, .int y2), (7, .int v111)]) Γ 5 dX5_round_326 rfl (by rw [e123]; rfl) (by decide) rfl ?_
            refine g_goto Γ 238 dX5_round_329 (by decide) ?_
            refine g_lv [3, 4, 5, 2, 1, 0] rfl ?_
            refine g_ws (ws' := [(h_t, oR A_t d_t_many d_t_below d_t_above1 d_t_below1), (A_t 0, eI cI 242 d_t_now), (A_t 9, eI cZ 6 d_t_side), (A_t 10, eI cI 6 d_t_far)]) [2, 3, 0, 1] rfl rfl ?_
            exact ih _ _ _ _ _ _ _ _ _ _ _ _ _ hf hk1 hk2
        · have hf := ya_if1 c97 hf
          cases hf
          refine g_lv [] rfl ?_
          exact hk1 _ rfl
  show yG p l e (headSpec wsX5_round rmX5_round).room s m (List.toArray [.ref h_t, .int x1, .int x2]) below meth c D (va_A [(h_t, oR A_t c_t_many c_t_below c_t_above1 c_t_below1), (A_t 0, eI cI 242 c_t_now), (A_t 9, eI cZ 6 c_t_side), (A_t 10, eI cI 6 c_t_far)] sz) 8 0 0 (MQ below (yQi D (yT cI cJ cZ cW cR) r [(h_t, oR A_t c_t_many c_t_below c_t_above1 c_t_below1), (A_t 0, eI cI 242 c_t_now), (A_t 9, eI cZ 6 zc_t_side), (A_t 10, eI cI 6 zc_t_far)] (va_A [(h_t, oR A_t c_t_many c_t_below c_t_above1 c_t_below1), (A_t 0, eI cI 242 c_t_now), (A_t 9, eI cZ 6 c_t_side), (A_t 10, eI cI 6 c_t_far)] sz)) (List.toArray [.ref h_t, .int x1, .int x2]) s 0 0 (va_A [(h_t, oR A_t c_t_many c_t_below c_t_above1 c_t_below1), (A_t 0, eI cI 242 c_t_now), (A_t 9, eI cZ 6 c_t_side), (A_t 10, eI cI 6 c_t_far)] sz)) 0 [(0, .ref h_t), (1, .int x1), (2, .int x2)] [] [(h_t, oR A_t c_t_many c_t_below c_t_above1 c_t_below1), (A_t 0, eI cI 242 c_t_now), (A_t 9, eI cZ 6 c_t_side), (A_t 10, eI cI 6 c_t_far)]
  unfold fX5_round at hf
  refine g_aload_n Γ 0 dX5_round_0 rfl ?_
  refine g_iload_n Γ 1 dX5_round_1 rfl ?_
  obtain ⟨v1, e2, hf⟩ := ya_ob hf
  refine g_vi (q := (RX5, TX5, 19)) (wr := [(A_t 9, eI cZ 6 c_t_side), (A_t 10, eI cI 6 c_t_far)]) (ws' := [(A_t 9, eI cZ 6 c_t_side), (A_t 10, eI cI 6 c_t_far), (h_t, oR A_t c_t_many c_t_below c_t_above1 c_t_below1), (A_t 0, eI cI 242 c_t_now)]) Γ (fun sz => mX5_isFlow (l := l) (D := D) (sz := sz) (cI := cI) (cJ := cJ) (cZ := cZ) (cW := cW) (cR := cR) (h_t := h_t) (A_t := A_t) (hf := e2)) eX5_isFlow gX5_round_X5_isFlow rfl rfl 0 rfl rfl rfl (Nat.le_of_ble_eq_true rfl) ⟨Nat.le_of_ble_eq_true rfl, Nat.le_of_ble_eq_true rfl⟩ dX5_round_2 [0, 1] [2, 3] rfl rfl rfl rfl (by decide) rfl ?_
  refine g_if_eq Γ 20 dX5_round_5 (by decide) (fun c3 => ?_) (fun c3 => ?_)
  · have hf := ya_if1 c3 hf
    refine g_iconst (v := (-1)) Γ dX5_round_20 (by decide) ?_
    cases hf
    exact g_iret Γ hr dX5_round_21 [2, 3, 0, 1] rfl rfl
  · have hf := ya_if2 c3 hf
    refine g_aload_n Γ 0 dX5_round_8 rfl ?_
    refine g_iload_n Γ 1 dX5_round_9 rfl ?_
    obtain ⟨⟨v4, v5⟩, e6, hf⟩ := ya_ob hf
    refine g_vi (q := (RX5, TX5, 19)) (wr := [(A_t 10, eI cI 6 c_t_far)]) (ws' := [(A_t 10, eI cI 6 c_t_far), (h_t, oR A_t c_t_many c_t_below c_t_above1 c_t_below1), (A_t 0, eI cI 242 c_t_now), (A_t 9, eI cZ 6 v5)]) Γ (fun sz => mX5_isSeen (l := l) (D := D) (sz := sz) (cI := cI) (cJ := cJ) (cZ := cZ) (cW := cW) (cR := cR) (h_t := h_t) (A_t := A_t) (hf := e6)) eX5_isSeen gX5_round_X5_isSeen rfl rfl 0 rfl rfl rfl (Nat.le_of_ble_eq_true rfl) ⟨Nat.le_of_ble_eq_true rfl, Nat.le_of_ble_eq_true rfl⟩ dX5_round_10 [2, 3, 0] [1] rfl rfl rfl rfl (by decide) rfl ?_
    refine g_if_ne Γ 20 dX5_round_13 (by decide) (fun c7 => ?_) (fun c7 => ?_)
    · have hf := ya_if2 c7 hf
      refine g_iconst (v := (-1)) Γ dX5_round_20 (by decide) ?_
      cases hf
      exact g_iret Γ hr dX5_round_21 [1, 2, 3, 0] rfl rfl
    · have hf := ya_if1 c7 hf
      refine g_iload_n Γ 2 dX5_round_16 rfl ?_
      refine g_if_ge Γ 22 dX5_round_17 (by decide) (fun c8 => ?_) (fun c8 => ?_)
      · have hf := ya_if1 c8 hf
        refine g_aload_n Γ 0 dX5_round_22 rfl ?_
        refine g_iload_n Γ 1 dX5_round_23 rfl ?_
        refine g_iconst (v := 0) Γ dX5_round_24 (by decide) ?_
        obtain ⟨v9, e10, hf⟩ := ya_ob hf
        refine g_vi (q := (RX5, TX5, 19)) (wr := [(A_t 10, eI cI 6 c_t_far), (A_t 9, eI cZ 6 v5)]) (ws' := [(A_t 10, eI cI 6 c_t_far), (A_t 9, eI cZ 6 v5), (h_t, oR A_t c_t_many c_t_below c_t_above1 c_t_below1), (A_t 0, eI cI 242 c_t_now)]) Γ (fun sz => mX5_get (l := l) (D := D) (sz := sz) (cI := cI) (cJ := cJ) (cZ := cZ) (cW := cW) (cR := cR) (h_t := h_t) (A_t := A_t) (hf := e10)) eX5_get gX5_round_X5_get rfl rfl 0 rfl rfl rfl (Nat.le_of_ble_eq_true rfl) ⟨Nat.le_of_ble_eq_true rfl, Nat.le_of_ble_eq_true rfl⟩ dX5_round_25 [1, 2] [0, 3] rfl rfl rfl rfl (by decide) rfl ?_
        refine g_istore_n (lv' := [(3, .int v9), (0, .ref h_t), (1, .int x1), (2, .int x2)]) Γ dX5_round_28 (by decide) rfl ?_
        refine g_iconst (v := 0) Γ dX5_round_29 (by decide) ?_
        refine g_istore (lv' := [(4, .int 0), (3, .int v9), (0, .ref h_t), (1, .int x1), (2, .int x2)]) Γ dX5_round_30 (by decide) rfl ?_
        obtain ⟨v21, e22, hf⟩ := ya_ob hf
        refine g_lv [2, 3, 4, 1, 0] rfl ?_
        refine g_ws (ws' := [(h_t, oR A_t c_t_many c_t_below c_t_above1 c_t_below1), (A_t 0, eI cI 242 c_t_now), (A_t 9, eI cZ 6 v5), (A_t 10, eI cI 6 c_t_far)]) [2, 3, 1, 0] rfl rfl ?_
        refine loop32 N _ _ _ _ _ _ _ _ _ _ _ _ e22  ?_
        refine g_iconst (v := 0) Γ dX5_round_64 (by decide) ?_
        refine g_istore (lv' := [(4, .int 0), (0, .ref h_t), (1, .int x1), (2, .int x2)]) Γ dX5_round_65 (by decide) rfl ?_
        obtain ⟨v90, e91, hf⟩ := ya_ob hf
        refine g_lv [1, 2, 3, 0] rfl ?_
        refine loop67 N _ _ _ _ _ _ _ _ _ _ _ e91  ?_
        refine g_aload_n Γ 0 dX5_round_224 rfl ?_
        refine g_iload_n Γ 1 dX5_round_225 rfl ?_
        refine g_iconst (v := 1) Γ dX5_round_226 (by decide) ?_
        obtain ⟨v92, e93, hf⟩ := ya_ob hf
        refine g_vi (q := (RX5, TX5, 19)) (wr := [(A_t 9, eI cZ 6 v5), (A_t 10, eI cI 6 v90)]) (ws' := [(A_t 9, eI cZ 6 v5), (A_t 10, eI cI 6 v90), (h_t, oR A_t c_t_many c_t_below c_t_above1 c_t_below1), (A_t 0, eI cI 242 c_t_now)]) Γ (fun sz => mX5_get (l := l) (D := D) (sz := sz) (cI := cI) (cJ := cJ) (cZ := cZ) (cW := cW) (cR := cR) (h_t := h_t) (A_t := A_t) (hf := e93)) eX5_get gX5_round_X5_get rfl rfl 0 rfl rfl rfl (Nat.le_of_ble_eq_true rfl) ⟨Nat.le_of_ble_eq_true rfl, Nat.le_of_ble_eq_true rfl⟩ dX5_round_227 [0, 1] [2, 3] rfl rfl rfl rfl (by decide) rfl ?_
        refine g_istore (lv' := [(4, .int v92), (0, .ref h_t), (1, .int x1), (2, .int x2)]) Γ dX5_round_230 (by decide) rfl ?_
        refine g_iload_n Γ 2 dX5_round_232 rfl ?_
        refine g_istore (lv' := [(5, .int x1), (4, .int v92), (0, .ref h_t), (1, .int x1), (2, .int x2)]) Γ dX5_round_233 (by decide) rfl ?_
        refine g_iconst (v := 0) Γ dX5_round_235 (by decide) ?_
        refine g_istore (lv' := [(6, .int 0), (5, .int x1), (4, .int v92), (0, .ref h_t), (1, .int x1), (2, .int x2)]) Γ dX5_round_236 (by decide) rfl ?_
        obtain ⟨o124, e125, hf⟩ := ya_ob hf
        refine g_lv [3, 4, 5, 2, 1, 0] rfl ?_
        refine g_ws (ws' := [(h_t, oR A_t c_t_many c_t_below c_t_above1 c_t_below1), (A_t 0, eI cI 242 c_t_now), (A_t 9, eI cZ 6 v5), (A_t 10, eI cI 6 v90)]) [2, 3, 0, 1] rfl rfl ?_
        refine loop238 N _ _ _ _ _ _ _ _ _ _ _ _ o124 e125 ?_ ?_
        · intro _ ho; subst ho
          refine g_iconst (v := (-1)) Γ dX5_round_254 (by decide) ?_
          cases hf
          exact g_iret Γ hr dX5_round_255 [0, 1, 2, 3] rfl rfl
        · intro v126 ho; subst ho
          refine g_iload Γ 0 dX5_round_332 rfl ?_
          cases hf
          exact g_iret Γ hr dX5_round_334 [0, 1, 2, 3] rfl rfl
      · have hf := ya_if2 c8 hf
        refine g_iconst (v := (-1)) Γ dX5_round_20 (by decide) ?_
        cases hf
        exact g_iret Γ hr dX5_round_21 [1, 2, 3, 0] rfl rfl

set_option maxRecDepth 20000 in
theorem ggX5_isSpare_X5_heaps : GoodIn wsX5_isSpare wsX5_heaps := goodIn_r _ [6, 1, 7, 8, 9, 5, 10, 11, 12, 13, 14, 15, 16, 17, 18, 19, 20, 21, 22, 23, 24, 25, 26, 27, 28, 29, 30, 31, 32, 33, 34, 35, 36, 37, 38] rfl (by decide +kernel)
set_option maxRecDepth 20000 in
theorem gX5_isSpare_X5_heaps : GoodIn wsX5_isSpare (wsV RX5 98 RX5 yX5_heaps wsX5_heaps) := goodIn_app (goodIn_of _ (by decide +kernel)) ggX5_isSpare_X5_heaps
set_option maxRecDepth 20000 in
theorem ggX5_isSpare_X5_isRead : GoodIn wsX5_isSpare wsX5_isRead := goodIn_r _ [15, 16, 17, 18, 5, 19, 11, 20, 21, 22, 23, 24, 25, 26, 27, 28, 29, 30, 31, 32, 33, 34, 35, 36, 37, 38] rfl (by decide +kernel)
set_option maxRecDepth 20000 in
theorem gX5_isSpare_X5_isRead : GoodIn wsX5_isSpare (wsV RX5 91 RX5 yX5_isRead wsX5_isRead) := goodIn_app (goodIn_of _ (by decide +kernel)) ggX5_isSpare_X5_isRead
set_option maxRecDepth 20000 in
theorem ggX5_isSpare_X5_get : GoodIn wsX5_isSpare wsX5_get := goodIn_r _ [19, 11, 20, 21, 22, 23, 24, 25, 26, 27, 28, 29, 30, 31, 32, 33, 34, 35, 36, 37, 38] rfl (by decide +kernel)
set_option maxRecDepth 20000 in
theorem gX5_isSpare_X5_get : GoodIn wsX5_isSpare (wsV RX5 86 RX5 yX5_get wsX5_get) := goodIn_app (goodIn_of _ (by decide +kernel)) ggX5_isSpare_X5_get
theorem dX5_isSpare_0 : decode cX5_isSpare 0 = .ok (.aload_n 0, 1) := by decide +kernel
theorem dX5_isSpare_1 : decode cX5_isSpare 1 = .ok (.invokevirtual 98, 3) := by decide +kernel
theorem dX5_isSpare_4 : decode cX5_isSpare 4 = .ok (.aload_n 0, 1) := by decide +kernel
theorem dX5_isSpare_5 : decode cX5_isSpare 5 = .ok (.iload_n 1, 1) := by decide +kernel
theorem dX5_isSpare_6 : decode cX5_isSpare 6 = .ok (.invokevirtual 91, 3) := by decide +kernel
theorem dX5_isSpare_9 : decode cX5_isSpare 9 = .ok (.ifCond .eq 32, 3) := by decide +kernel
theorem dX5_isSpare_12 : decode cX5_isSpare 12 = .ok (.aload_n 0, 1) := by decide +kernel
theorem dX5_isSpare_13 : decode cX5_isSpare 13 = .ok (.getfield 16, 3) := by decide +kernel
theorem dX5_isSpare_16 : decode cX5_isSpare 16 = .ok (.aload_n 0, 1) := by decide +kernel
theorem dX5_isSpare_17 : decode cX5_isSpare 17 = .ok (.iload_n 1, 1) := by decide +kernel
theorem dX5_isSpare_18 : decode cX5_isSpare 18 = .ok (.iconst 0, 1) := by decide +kernel
theorem dX5_isSpare_19 : decode cX5_isSpare 19 = .ok (.invokevirtual 86, 3) := by decide +kernel
theorem dX5_isSpare_22 : decode cX5_isSpare 22 = .ok (.iaload, 1) := by decide +kernel
theorem dX5_isSpare_23 : decode cX5_isSpare 23 = .ok (.aload_n 0, 1) := by decide +kernel
theorem dX5_isSpare_24 : decode cX5_isSpare 24 = .ok (.getfield 16, 3) := by decide +kernel
theorem dX5_isSpare_27 : decode cX5_isSpare 27 = .ok (.aload_n 0, 1) := by decide +kernel
theorem dX5_isSpare_28 : decode cX5_isSpare 28 = .ok (.iload_n 1, 1) := by decide +kernel
theorem dX5_isSpare_29 : decode cX5_isSpare 29 = .ok (.iconst 1, 1) := by decide +kernel
theorem dX5_isSpare_30 : decode cX5_isSpare 30 = .ok (.invokevirtual 86, 3) := by decide +kernel
theorem dX5_isSpare_33 : decode cX5_isSpare 33 = .ok (.iaload, 1) := by decide +kernel
theorem dX5_isSpare_34 : decode cX5_isSpare 34 = .ok (.if_icmp .eq 7, 3) := by decide +kernel
theorem dX5_isSpare_37 : decode cX5_isSpare 37 = .ok (.iconst 1, 1) := by decide +kernel
theorem dX5_isSpare_38 : decode cX5_isSpare 38 = .ok (.goto 4, 3) := by decide +kernel
theorem dX5_isSpare_41 : decode cX5_isSpare 41 = .ok (.iconst 0, 1) := by decide +kernel
theorem dX5_isSpare_42 : decode cX5_isSpare 42 = .ok (.ireturn, 1) := by decide +kernel
/-! ===== FlowMetersModel.isSpare(I)Z ===== -/
def fX5_isSpare (N : Nat) (c_t_now : Nat → Int32) (c_t_heapOf : Nat → Int32) (x1 : Int32) : Option (Int32 × (Nat → Int32)) :=
  (fX5_heaps N c_t_now c_t_heapOf).bind fun v1 =>
  (fX5_isRead c_t_now x1).bind fun v3 =>
  (if v3 = 0 then
    some (0, v1)
  else
    (fX5_get c_t_now x1 0).bind fun v6 =>
    (ya_rd v1 6 v6).bind fun v8 =>
    (fX5_get c_t_now x1 1).bind fun v10 =>
    (ya_rd v1 6 v10).bind fun v12 =>
    (if v8 = v12 then
      some (0, v1)
    else
      some (1, v1)))
theorem fX5_isSpare_16 : yF wsX5_isSpare RX5 16 5 3 RX5 TX5 19 := ⟨rfl, by decide, by decide +kernel, by decide +kernel⟩
abbrev rmX5_isSpare : Room := { frames := 3, cells := 0, slots := 0, locals := 68 }
theorem eX5_isSpare : yY yX5_isSpare wsX5_isSpare cX5_isSpare 2 (some .boolean) rmX5_isSpare 1 := ⟨⟨_, rfl⟩, rfl, rfl, by decide, by decide, by decide +kernel⟩
set_option maxHeartbeats 4000000 in
set_option maxRecDepth 100000 in
theorem mX5_isSpare {l : Launch} {D : va_G} {sz : Nat} {cI cJ cZ cW cR : ClassId} {N : Nat} {h_t : Nat} {A_t : Nat → Nat} {c_t_many : Int32} {c_t_below : Int64} {c_t_above1 : Int64} {c_t_below1 : Int64} {c_t_now : Nat → Int32} {c_t_heapOf : Nat → Int32} {x1 : Int32} {r : Int32} {zc_t_heapOf : Nat → Int32} (hf : fX5_isSpare N c_t_now c_t_heapOf x1 = some (r, zc_t_heapOf)) : Met l yX5_isSpare wsX5_isSpare rmX5_isSpare (yP D (yT cI cJ cZ cW cR) [(h_t, oR A_t c_t_many c_t_below c_t_above1 c_t_below1), (A_t 0, eI cI 242 c_t_now), (A_t 2, eI cI 6 c_t_heapOf)] sz [.ref h_t, .int x1]) (yQi D (yT cI cJ cZ cW cR) r [(h_t, oR A_t c_t_many c_t_below c_t_above1 c_t_below1), (A_t 0, eI cI 242 c_t_now), (A_t 2, eI cI 6 zc_t_heapOf)] (va_A [(h_t, oR A_t c_t_many c_t_below c_t_above1 c_t_below1), (A_t 0, eI cI 242 c_t_now), (A_t 2, eI cI 6 c_t_heapOf)] sz)) 0 0 (va_A [(h_t, oR A_t c_t_many c_t_below c_t_above1 c_t_below1), (A_t 0, eI cI 242 c_t_now), (A_t 2, eI cI 6 c_t_heapOf)] sz) := by
  refine yM (cc := cX5_isSpare) (maxL := 2) (ret := (some .boolean)) RX5 (by decide) rfl rfl (Nat.le_of_ble_eq_true rfl) ?_
  intro p e s m below meth c Γ hr
  show yG p l e (headSpec wsX5_isSpare rmX5_isSpare).room s m (List.toArray [.ref h_t, .int x1]) below meth c D (va_A [(h_t, oR A_t c_t_many c_t_below c_t_above1 c_t_below1), (A_t 0, eI cI 242 c_t_now), (A_t 2, eI cI 6 c_t_heapOf)] sz) 2 0 0 (MQ below (yQi D (yT cI cJ cZ cW cR) r [(h_t, oR A_t c_t_many c_t_below c_t_above1 c_t_below1), (A_t 0, eI cI 242 c_t_now), (A_t 2, eI cI 6 zc_t_heapOf)] (va_A [(h_t, oR A_t c_t_many c_t_below c_t_above1 c_t_below1), (A_t 0, eI cI 242 c_t_now), (A_t 2, eI cI 6 c_t_heapOf)] sz)) (List.toArray [.ref h_t, .int x1]) s 0 0 (va_A [(h_t, oR A_t c_t_many c_t_below c_t_above1 c_t_below1), (A_t 0, eI cI 242 c_t_now), (A_t 2, eI cI 6 c_t_heapOf)] sz)) 0 [(0, .ref h_t), (1, .int x1)] [] [(h_t, oR A_t c_t_many c_t_below c_t_above1 c_t_below1), (A_t 0, eI cI 242 c_t_now), (A_t 2, eI cI 6 c_t_heapOf)]
  unfold fX5_isSpare at hf
  refine g_aload_n Γ 0 dX5_isSpare_0 rfl ?_
  obtain ⟨v1, e2, hf⟩ := ya_ob hf
  refine g_vv (q := (RX5, TX5, 19)) (wr := []) (ws' := [(h_t, oR A_t c_t_many c_t_below c_t_above1 c_t_below1), (A_t 0, eI cI 242 c_t_now), (A_t 2, eI cI 6 v1)]) Γ (fun sz => mX5_heaps (l := l) (D := D) (sz := sz) (cI := cI) (cJ := cJ) (cZ := cZ) (cW := cW) (cR := cR) (h_t := h_t) (A_t := A_t) (hf := e2)) eX5_heaps gX5_isSpare_X5_heaps rfl rfl 0 rfl rfl rfl (Nat.le_of_ble_eq_true rfl) ⟨Nat.le_of_ble_eq_true rfl, Nat.le_of_ble_eq_true rfl⟩ dX5_isSpare_1 [0, 1, 2] [] rfl rfl rfl rfl (by decide) rfl ?_
  refine g_aload_n Γ 0 dX5_isSpare_4 rfl ?_
  refine g_iload_n Γ 1 dX5_isSpare_5 rfl ?_
  obtain ⟨v3, e4, hf⟩ := ya_ob hf
  refine g_vi (q := (RX5, TX5, 19)) (wr := [(A_t 2, eI cI 6 v1)]) (ws' := [(A_t 2, eI cI 6 v1), (h_t, oR A_t c_t_many c_t_below c_t_above1 c_t_below1), (A_t 0, eI cI 242 c_t_now)]) Γ (fun sz => mX5_isRead (l := l) (D := D) (sz := sz) (cI := cI) (cJ := cJ) (cZ := cZ) (cW := cW) (cR := cR) (h_t := h_t) (A_t := A_t) (hf := e4)) eX5_isRead gX5_isSpare_X5_isRead rfl rfl 0 rfl rfl rfl (Nat.le_of_ble_eq_true rfl) ⟨Nat.le_of_ble_eq_true rfl, Nat.le_of_ble_eq_true rfl⟩ dX5_isSpare_6 [0, 1] [2] rfl rfl rfl rfl (by decide) rfl ?_
  refine g_if_eq Γ 41 dX5_isSpare_9 (by decide) (fun c5 => ?_) (fun c5 => ?_)
  · have hf := ya_if1 c5 hf
    refine g_iconst (v := 0) Γ dX5_isSpare_41 (by decide) ?_
    cases hf
    exact g_zret Γ hr (show ya_bo 0 = some 0 from rfl) dX5_isSpare_42 [1, 2, 0] rfl rfl
  · have hf := ya_if2 c5 hf
    refine g_aload_n Γ 0 dX5_isSpare_12 rfl ?_
    refine g_get Γ fX5_isSpare_16 1 rfl rfl dX5_isSpare_13 ?_
    refine g_aload_n Γ 0 dX5_isSpare_16 rfl ?_
    refine g_iload_n Γ 1 dX5_isSpare_17 rfl ?_
    refine g_iconst (v := 0) Γ dX5_isSpare_18 (by decide) ?_
    obtain ⟨v6, e7, hf⟩ := ya_ob hf
    refine g_vi (q := (RX5, TX5, 19)) (wr := [(A_t 2, eI cI 6 v1)]) (ws' := [(A_t 2, eI cI 6 v1), (h_t, oR A_t c_t_many c_t_below c_t_above1 c_t_below1), (A_t 0, eI cI 242 c_t_now)]) Γ (fun sz => mX5_get (l := l) (D := D) (sz := sz) (cI := cI) (cJ := cJ) (cZ := cZ) (cW := cW) (cR := cR) (h_t := h_t) (A_t := A_t) (hf := e7)) eX5_get gX5_isSpare_X5_get rfl rfl 0 rfl rfl rfl (Nat.le_of_ble_eq_true rfl) ⟨Nat.le_of_ble_eq_true rfl, Nat.le_of_ble_eq_true rfl⟩ dX5_isSpare_19 [1, 2] [0] rfl rfl rfl rfl (by decide) rfl ?_
    obtain ⟨v8, e9, hf⟩ := ya_ob hf
    refine g_iald Γ e9 0 0 rfl rfl dX5_isSpare_22 ?_
    refine g_aload_n Γ 0 dX5_isSpare_23 rfl ?_
    refine g_get Γ fX5_isSpare_16 1 rfl rfl dX5_isSpare_24 ?_
    refine g_aload_n Γ 0 dX5_isSpare_27 rfl ?_
    refine g_iload_n Γ 1 dX5_isSpare_28 rfl ?_
    refine g_iconst (v := 1) Γ dX5_isSpare_29 (by decide) ?_
    obtain ⟨v10, e11, hf⟩ := ya_ob hf
    refine g_vi (q := (RX5, TX5, 19)) (wr := [(A_t 2, eI cI 6 v1)]) (ws' := [(A_t 2, eI cI 6 v1), (h_t, oR A_t c_t_many c_t_below c_t_above1 c_t_below1), (A_t 0, eI cI 242 c_t_now)]) Γ (fun sz => mX5_get (l := l) (D := D) (sz := sz) (cI := cI) (cJ := cJ) (cZ := cZ) (cW := cW) (cR := cR) (h_t := h_t) (A_t := A_t) (hf := e11)) eX5_get gX5_isSpare_X5_get rfl rfl 0 rfl rfl rfl (Nat.le_of_ble_eq_true rfl) ⟨Nat.le_of_ble_eq_true rfl, Nat.le_of_ble_eq_true rfl⟩ dX5_isSpare_30 [1, 2] [0] rfl rfl rfl rfl (by decide) rfl ?_
    obtain ⟨v12, e13, hf⟩ := ya_ob hf
    refine g_iald Γ e13 0 0 rfl rfl dX5_isSpare_33 ?_
    refine g_icmp_eq Γ 41 dX5_isSpare_34 (by decide) (fun c14 => ?_) (fun c14 => ?_)
    · have hf := ya_if1 c14 hf
      refine g_iconst (v := 0) Γ dX5_isSpare_41 (by decide) ?_
      cases hf
      exact g_zret Γ hr (show ya_bo 0 = some 0 from rfl) dX5_isSpare_42 [1, 2, 0] rfl rfl
    · have hf := ya_if2 c14 hf
      refine g_iconst (v := 1) Γ dX5_isSpare_37 (by decide) ?_
      refine g_goto Γ 42 dX5_isSpare_38 (by decide) ?_
      cases hf
      exact g_zret Γ hr (show ya_bo 1 = some 1 from rfl) dX5_isSpare_42 [1, 2, 0] rfl rfl

set_option maxRecDepth 20000 in
theorem ggX5_spare_X5_isFlow : GoodIn wsX5_spare wsX5_isFlow := goodIn_r _ [5, 6, 7, 8, 4, 9, 10, 11, 12, 13, 31, 32, 33, 34, 35, 36, 37, 38, 39, 40, 41, 42, 43, 44, 45, 46, 47, 48, 49] rfl (by decide +kernel)
set_option maxRecDepth 20000 in
theorem gX5_spare_X5_isFlow : GoodIn wsX5_spare (wsV RX5 83 RX5 yX5_isFlow wsX5_isFlow) := goodIn_app (goodIn_of _ (by decide +kernel)) ggX5_spare_X5_isFlow
set_option maxRecDepth 20000 in
theorem ggX5_spare_X5_isSpare : GoodIn wsX5_spare wsX5_isSpare := goodIn_r _ [17, 18, 19, 20, 21, 4, 22, 6, 7, 8, 9, 10, 23, 24, 25, 26, 27, 28, 29, 30, 31, 32, 33, 34, 35, 36, 37, 38, 39, 40, 41, 42, 43, 44, 45, 46, 47, 48, 49] rfl (by decide +kernel)
set_option maxRecDepth 20000 in
theorem gX5_spare_X5_isSpare : GoodIn wsX5_spare (wsV RX5 146 RX5 yX5_isSpare wsX5_isSpare) := goodIn_app (goodIn_of _ (by decide +kernel)) ggX5_spare_X5_isSpare
theorem dX5_spare_0 : decode cX5_spare 0 = .ok (.aload_n 0, 1) := by decide +kernel
theorem dX5_spare_1 : decode cX5_spare 1 = .ok (.iload_n 1, 1) := by decide +kernel
theorem dX5_spare_2 : decode cX5_spare 2 = .ok (.invokevirtual 83, 3) := by decide +kernel
theorem dX5_spare_5 : decode cX5_spare 5 = .ok (.ifCond .ne 7, 3) := by decide +kernel
theorem dX5_spare_8 : decode cX5_spare 8 = .ok (.iconst (-1), 1) := by decide +kernel
theorem dX5_spare_9 : decode cX5_spare 9 = .ok (.goto 16, 3) := by decide +kernel
theorem dX5_spare_12 : decode cX5_spare 12 = .ok (.aload_n 0, 1) := by decide +kernel
theorem dX5_spare_13 : decode cX5_spare 13 = .ok (.iload_n 1, 1) := by decide +kernel
theorem dX5_spare_14 : decode cX5_spare 14 = .ok (.invokevirtual 146, 3) := by decide +kernel
theorem dX5_spare_17 : decode cX5_spare 17 = .ok (.ifCond .eq 7, 3) := by decide +kernel
theorem dX5_spare_20 : decode cX5_spare 20 = .ok (.iconst 1, 1) := by decide +kernel
theorem dX5_spare_21 : decode cX5_spare 21 = .ok (.goto 4, 3) := by decide +kernel
theorem dX5_spare_24 : decode cX5_spare 24 = .ok (.iconst 0, 1) := by decide +kernel
theorem dX5_spare_25 : decode cX5_spare 25 = .ok (.ireturn, 1) := by decide +kernel
/-! ===== FlowMetersModel.spare(I)I ===== -/
def fX5_spare (N : Nat) (c_t_now : Nat → Int32) (c_t_heapOf : Nat → Int32) (x1 : Int32) : Option (Int32 × (Nat → Int32)) :=
  (fX5_isFlow c_t_now x1).bind fun v1 =>
  (if v1 = 0 then
    some ((-1), c_t_heapOf)
  else
    (fX5_isSpare N c_t_now c_t_heapOf x1).bind fun (v4, v5) =>
    (if v4 = 0 then
      some (0, v5)
    else
      some (1, v5)))
abbrev rmX5_spare : Room := { frames := 4, cells := 0, slots := 0, locals := 89 }
theorem eX5_spare : yY yX5_spare wsX5_spare cX5_spare 2 (some .int) rmX5_spare 1 := ⟨⟨_, rfl⟩, rfl, rfl, by decide, by decide, by decide +kernel⟩
set_option maxHeartbeats 4000000 in
set_option maxRecDepth 100000 in
theorem mX5_spare {l : Launch} {D : va_G} {sz : Nat} {cI cJ cZ cW cR : ClassId} {N : Nat} {h_t : Nat} {A_t : Nat → Nat} {c_t_many : Int32} {c_t_below : Int64} {c_t_above1 : Int64} {c_t_below1 : Int64} {c_t_now : Nat → Int32} {c_t_heapOf : Nat → Int32} {x1 : Int32} {r : Int32} {zc_t_heapOf : Nat → Int32} (hf : fX5_spare N c_t_now c_t_heapOf x1 = some (r, zc_t_heapOf)) : Met l yX5_spare wsX5_spare rmX5_spare (yP D (yT cI cJ cZ cW cR) [(h_t, oR A_t c_t_many c_t_below c_t_above1 c_t_below1), (A_t 0, eI cI 242 c_t_now), (A_t 2, eI cI 6 c_t_heapOf)] sz [.ref h_t, .int x1]) (yQi D (yT cI cJ cZ cW cR) r [(h_t, oR A_t c_t_many c_t_below c_t_above1 c_t_below1), (A_t 0, eI cI 242 c_t_now), (A_t 2, eI cI 6 zc_t_heapOf)] (va_A [(h_t, oR A_t c_t_many c_t_below c_t_above1 c_t_below1), (A_t 0, eI cI 242 c_t_now), (A_t 2, eI cI 6 c_t_heapOf)] sz)) 0 0 (va_A [(h_t, oR A_t c_t_many c_t_below c_t_above1 c_t_below1), (A_t 0, eI cI 242 c_t_now), (A_t 2, eI cI 6 c_t_heapOf)] sz) := by
  refine yM (cc := cX5_spare) (maxL := 2) (ret := (some .int)) RX5 (by decide) rfl rfl (Nat.le_of_ble_eq_true rfl) ?_
  intro p e s m below meth c Γ hr
  show yG p l e (headSpec wsX5_spare rmX5_spare).room s m (List.toArray [.ref h_t, .int x1]) below meth c D (va_A [(h_t, oR A_t c_t_many c_t_below c_t_above1 c_t_below1), (A_t 0, eI cI 242 c_t_now), (A_t 2, eI cI 6 c_t_heapOf)] sz) 2 0 0 (MQ below (yQi D (yT cI cJ cZ cW cR) r [(h_t, oR A_t c_t_many c_t_below c_t_above1 c_t_below1), (A_t 0, eI cI 242 c_t_now), (A_t 2, eI cI 6 zc_t_heapOf)] (va_A [(h_t, oR A_t c_t_many c_t_below c_t_above1 c_t_below1), (A_t 0, eI cI 242 c_t_now), (A_t 2, eI cI 6 c_t_heapOf)] sz)) (List.toArray [.ref h_t, .int x1]) s 0 0 (va_A [(h_t, oR A_t c_t_many c_t_below c_t_above1 c_t_below1), (A_t 0, eI cI 242 c_t_now), (A_t 2, eI cI 6 c_t_heapOf)] sz)) 0 [(0, .ref h_t), (1, .int x1)] [] [(h_t, oR A_t c_t_many c_t_below c_t_above1 c_t_below1), (A_t 0, eI cI 242 c_t_now), (A_t 2, eI cI 6 c_t_heapOf)]
  unfold fX5_spare at hf
  refine g_aload_n Γ 0 dX5_spare_0 rfl ?_
  refine g_iload_n Γ 1 dX5_spare_1 rfl ?_
  obtain ⟨v1, e2, hf⟩ := ya_ob hf
  refine g_vi (q := (RX5, TX5, 19)) (wr := [(A_t 2, eI cI 6 c_t_heapOf)]) (ws' := [(A_t 2, eI cI 6 c_t_heapOf), (h_t, oR A_t c_t_many c_t_below c_t_above1 c_t_below1), (A_t 0, eI cI 242 c_t_now)]) Γ (fun sz => mX5_isFlow (l := l) (D := D) (sz := sz) (cI := cI) (cJ := cJ) (cZ := cZ) (cW := cW) (cR := cR) (h_t := h_t) (A_t := A_t) (hf := e2)) eX5_isFlow gX5_spare_X5_isFlow rfl rfl 0 rfl rfl rfl (Nat.le_of_ble_eq_true rfl) ⟨Nat.le_of_ble_eq_true rfl, Nat.le_of_ble_eq_true rfl⟩ dX5_spare_2 [0, 1] [2] rfl rfl rfl rfl (by decide) rfl ?_
  refine g_if_ne Γ 12 dX5_spare_5 (by decide) (fun c3 => ?_) (fun c3 => ?_)
  · have hf := ya_if2 c3 hf
    refine g_aload_n Γ 0 dX5_spare_12 rfl ?_
    refine g_iload_n Γ 1 dX5_spare_13 rfl ?_
    obtain ⟨⟨v4, v5⟩, e6, hf⟩ := ya_ob hf
    refine g_vi (q := (RX5, TX5, 19)) (wr := []) (ws' := [(h_t, oR A_t c_t_many c_t_below c_t_above1 c_t_below1), (A_t 0, eI cI 242 c_t_now), (A_t 2, eI cI 6 v5)]) Γ (fun sz => mX5_isSpare (l := l) (D := D) (sz := sz) (cI := cI) (cJ := cJ) (cZ := cZ) (cW := cW) (cR := cR) (h_t := h_t) (A_t := A_t) (hf := e6)) eX5_isSpare gX5_spare_X5_isSpare rfl rfl 0 rfl rfl rfl (Nat.le_of_ble_eq_true rfl) ⟨Nat.le_of_ble_eq_true rfl, Nat.le_of_ble_eq_true rfl⟩ dX5_spare_14 [1, 2, 0] [] rfl rfl rfl rfl (by decide) rfl ?_
    refine g_if_eq Γ 24 dX5_spare_17 (by decide) (fun c7 => ?_) (fun c7 => ?_)
    · have hf := ya_if1 c7 hf
      refine g_iconst (v := 0) Γ dX5_spare_24 (by decide) ?_
      cases hf
      exact g_iret Γ hr dX5_spare_25 [0, 1, 2] rfl rfl
    · have hf := ya_if2 c7 hf
      refine g_iconst (v := 1) Γ dX5_spare_20 (by decide) ?_
      refine g_goto Γ 25 dX5_spare_21 (by decide) ?_
      cases hf
      exact g_iret Γ hr dX5_spare_25 [0, 1, 2] rfl rfl
  · have hf := ya_if1 c3 hf
    refine g_iconst (v := (-1)) Γ dX5_spare_8 (by decide) ?_
    refine g_goto Γ 25 dX5_spare_9 (by decide) ?_
    cases hf
    exact g_iret Γ hr dX5_spare_25 [1, 2, 0] rfl rfl

