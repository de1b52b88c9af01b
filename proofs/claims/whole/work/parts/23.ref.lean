set_option maxRecDepth 20000 in
theorem ggX5_fallOf_X5_solves : GoodIn wsX5_fallOf wsX5_solves := goodIn_r _ [8, 9, 10, 11, 12, 13, 14, 1, 15, 16, 17, 18, 7, 19, 20, 21, 22, 23, 24, 25, 26, 27, 28, 29, 30, 31, 32, 33, 34, 35, 36, 37, 38, 39, 40, 41, 42, 43, 44, 60, 61, 62, 63, 64, 65, 66, 67, 68, 69, 70, 71, 72, 73, 74, 75, 76, 77, 78] rfl (by decide +kernel)
set_option maxRecDepth 20000 in
theorem gX5_fallOf_X5_solves : GoodIn wsX5_fallOf (wsV RX5 117 RX5 yX5_solves wsX5_solves) := goodIn_app (goodIn_of _ (by decide +kernel)) ggX5_fallOf_X5_solves
set_option maxRecDepth 20000 in
theorem ggX5_fallOf_X5_testOf : GoodIn wsX5_fallOf wsX5_testOf := goodIn_r _ [48, 15, 10, 20, 21, 22, 7, 23, 24, 25, 26, 27, 28, 29, 30, 31, 32, 60, 61, 62, 63, 64, 65, 66, 67, 68, 69, 70, 71, 72, 73, 74, 75, 76, 77, 78] rfl (by decide +kernel)
set_option maxRecDepth 20000 in
theorem gX5_fallOf_X5_testOf : GoodIn wsX5_fallOf (wsV RX5 128 RX5 yX5_testOf wsX5_testOf) := goodIn_app (goodIn_of _ (by decide +kernel)) ggX5_fallOf_X5_testOf
set_option maxRecDepth 20000 in
theorem ggX5_fallOf_X5_told : GoodIn wsX5_fallOf wsX5_told := goodIn_r _ [51, 52, 53, 54, 7, 55] rfl (by decide +kernel)
set_option maxRecDepth 20000 in
theorem gX5_fallOf_X5_told : GoodIn wsX5_fallOf (va_wsS RX5 124 yX5_told wsX5_told) := goodIn_app (goodIn_of _ (by decide +kernel)) ggX5_fallOf_X5_told
set_option maxRecDepth 20000 in
theorem ggX5_fallOf_X5_set : GoodIn wsX5_fallOf wsX5_set := goodIn_r _ [59, 24, 60, 61, 62, 63, 64, 65, 66, 67, 68, 69, 70, 71, 72, 73, 74, 75, 76, 77, 78] rfl (by decide +kernel)
set_option maxRecDepth 20000 in
theorem gX5_fallOf_X5_set : GoodIn wsX5_fallOf (wsV RX5 79 RX5 yX5_set wsX5_set) := goodIn_app (goodIn_of _ (by decide +kernel)) ggX5_fallOf_X5_set
theorem dX5_fallOf_0 : decode cX5_fallOf 0 = .ok (.aload_n 0, 1) := by decide +kernel
theorem dX5_fallOf_1 : decode cX5_fallOf 1 = .ok (.invokevirtual 117, 3) := by decide +kernel
theorem dX5_fallOf_4 : decode cX5_fallOf 4 = .ok (.aload_n 0, 1) := by decide +kernel
theorem dX5_fallOf_5 : decode cX5_fallOf 5 = .ok (.invokevirtual 128, 3) := by decide +kernel
theorem dX5_fallOf_8 : decode cX5_fallOf 8 = .ok (.aload_n 0, 1) := by decide +kernel
theorem dX5_fallOf_9 : decode cX5_fallOf 9 = .ok (.getfield 104, 3) := by decide +kernel
theorem dX5_fallOf_12 : decode cX5_fallOf 12 = .ok (.iconst 0, 1) := by decide +kernel
theorem dX5_fallOf_13 : decode cX5_fallOf 13 = .ok (.invokestatic 124, 3) := by decide +kernel
theorem dX5_fallOf_16 : decode cX5_fallOf 16 = .ok (.lstore_n 2, 1) := by decide +kernel
theorem dX5_fallOf_17 : decode cX5_fallOf 17 = .ok (.aload_n 0, 1) := by decide +kernel
theorem dX5_fallOf_18 : decode cX5_fallOf 18 = .ok (.invokevirtual 128, 3) := by decide +kernel
theorem dX5_fallOf_21 : decode cX5_fallOf 21 = .ok (.aload_n 0, 1) := by decide +kernel
theorem dX5_fallOf_22 : decode cX5_fallOf 22 = .ok (.getfield 104, 3) := by decide +kernel
theorem dX5_fallOf_25 : decode cX5_fallOf 25 = .ok (.iconst 1, 1) := by decide +kernel
theorem dX5_fallOf_26 : decode cX5_fallOf 26 = .ok (.invokestatic 124, 3) := by decide +kernel
theorem dX5_fallOf_29 : decode cX5_fallOf 29 = .ok (.lstore 4, 2) := by decide +kernel
theorem dX5_fallOf_31 : decode cX5_fallOf 31 = .ok (.aload_n 0, 1) := by decide +kernel
theorem dX5_fallOf_32 : decode cX5_fallOf 32 = .ok (.iload_n 1, 1) := by decide +kernel
theorem dX5_fallOf_33 : decode cX5_fallOf 33 = .ok (.iconst 2, 1) := by decide +kernel
theorem dX5_fallOf_34 : decode cX5_fallOf 34 = .ok (.iconst 0, 1) := by decide +kernel
theorem dX5_fallOf_35 : decode cX5_fallOf 35 = .ok (.invokevirtual 79, 3) := by decide +kernel
theorem dX5_fallOf_38 : decode cX5_fallOf 38 = .ok (.aload_n 0, 1) := by decide +kernel
theorem dX5_fallOf_39 : decode cX5_fallOf 39 = .ok (.invokevirtual 117, 3) := by decide +kernel
theorem dX5_fallOf_42 : decode cX5_fallOf 42 = .ok (.aload_n 0, 1) := by decide +kernel
theorem dX5_fallOf_43 : decode cX5_fallOf 43 = .ok (.invokevirtual 128, 3) := by decide +kernel
theorem dX5_fallOf_46 : decode cX5_fallOf 46 = .ok (.aload_n 0, 1) := by decide +kernel
theorem dX5_fallOf_47 : decode cX5_fallOf 47 = .ok (.getfield 104, 3) := by decide +kernel
theorem dX5_fallOf_50 : decode cX5_fallOf 50 = .ok (.iconst 0, 1) := by decide +kernel
theorem dX5_fallOf_51 : decode cX5_fallOf 51 = .ok (.invokestatic 124, 3) := by decide +kernel
theorem dX5_fallOf_54 : decode cX5_fallOf 54 = .ok (.lstore 6, 2) := by decide +kernel
theorem dX5_fallOf_56 : decode cX5_fallOf 56 = .ok (.aload_n 0, 1) := by decide +kernel
theorem dX5_fallOf_57 : decode cX5_fallOf 57 = .ok (.invokevirtual 128, 3) := by decide +kernel
theorem dX5_fallOf_60 : decode cX5_fallOf 60 = .ok (.aload_n 0, 1) := by decide +kernel
theorem dX5_fallOf_61 : decode cX5_fallOf 61 = .ok (.getfield 104, 3) := by decide +kernel
theorem dX5_fallOf_64 : decode cX5_fallOf 64 = .ok (.iconst 1, 1) := by decide +kernel
theorem dX5_fallOf_65 : decode cX5_fallOf 65 = .ok (.invokestatic 124, 3) := by decide +kernel
theorem dX5_fallOf_68 : decode cX5_fallOf 68 = .ok (.lstore 8, 2) := by decide +kernel
theorem dX5_fallOf_70 : decode cX5_fallOf 70 = .ok (.aload_n 0, 1) := by decide +kernel
theorem dX5_fallOf_71 : decode cX5_fallOf 71 = .ok (.iload_n 1, 1) := by decide +kernel
theorem dX5_fallOf_72 : decode cX5_fallOf 72 = .ok (.iconst 2, 1) := by decide +kernel
theorem dX5_fallOf_73 : decode cX5_fallOf 73 = .ok (.iconst 1, 1) := by decide +kernel
theorem dX5_fallOf_74 : decode cX5_fallOf 74 = .ok (.invokevirtual 79, 3) := by decide +kernel
theorem dX5_fallOf_77 : decode cX5_fallOf 77 = .ok (.aload_n 0, 1) := by decide +kernel
theorem dX5_fallOf_78 : decode cX5_fallOf 78 = .ok (.lload_n 2, 1) := by decide +kernel
theorem dX5_fallOf_79 : decode cX5_fallOf 79 = .ok (.lload 8, 2) := by decide +kernel
theorem dX5_fallOf_81 : decode cX5_fallOf 81 = .ok (.lmul, 1) := by decide +kernel
theorem dX5_fallOf_82 : decode cX5_fallOf 82 = .ok (.lload 4, 2) := by decide +kernel
theorem dX5_fallOf_84 : decode cX5_fallOf 84 = .ok (.lload 6, 2) := by decide +kernel
theorem dX5_fallOf_86 : decode cX5_fallOf 86 = .ok (.lmul, 1) := by decide +kernel
theorem dX5_fallOf_87 : decode cX5_fallOf 87 = .ok (.lsub, 1) := by decide +kernel
theorem dX5_fallOf_88 : decode cX5_fallOf 88 = .ok (.lload 4, 2) := by decide +kernel
theorem dX5_fallOf_90 : decode cX5_fallOf 90 = .ok (.lload 8, 2) := by decide +kernel
theorem dX5_fallOf_92 : decode cX5_fallOf 92 = .ok (.lmul, 1) := by decide +kernel
theorem dX5_fallOf_93 : decode cX5_fallOf 93 = .ok (.iconst 0, 1) := by decide +kernel
theorem dX5_fallOf_94 : decode cX5_fallOf 94 = .ok (.invokestatic 124, 3) := by decide +kernel
theorem dX5_fallOf_97 : decode cX5_fallOf 97 = .ok (.putfield 149, 3) := by decide +kernel
theorem dX5_fallOf_100 : decode cX5_fallOf 100 = .ok (.aload_n 0, 1) := by decide +kernel
theorem dX5_fallOf_101 : decode cX5_fallOf 101 = .ok (.lload_n 2, 1) := by decide +kernel
theorem dX5_fallOf_102 : decode cX5_fallOf 102 = .ok (.lload 8, 2) := by decide +kernel
theorem dX5_fallOf_104 : decode cX5_fallOf 104 = .ok (.lmul, 1) := by decide +kernel
theorem dX5_fallOf_105 : decode cX5_fallOf 105 = .ok (.lload 4, 2) := by decide +kernel
theorem dX5_fallOf_107 : decode cX5_fallOf 107 = .ok (.lload 6, 2) := by decide +kernel
theorem dX5_fallOf_109 : decode cX5_fallOf 109 = .ok (.lmul, 1) := by decide +kernel
theorem dX5_fallOf_110 : decode cX5_fallOf 110 = .ok (.lsub, 1) := by decide +kernel
theorem dX5_fallOf_111 : decode cX5_fallOf 111 = .ok (.lload 4, 2) := by decide +kernel
theorem dX5_fallOf_113 : decode cX5_fallOf 113 = .ok (.lload 8, 2) := by decide +kernel
theorem dX5_fallOf_115 : decode cX5_fallOf 115 = .ok (.lmul, 1) := by decide +kernel
theorem dX5_fallOf_116 : decode cX5_fallOf 116 = .ok (.iconst 1, 1) := by decide +kernel
theorem dX5_fallOf_117 : decode cX5_fallOf 117 = .ok (.invokestatic 124, 3) := by decide +kernel
theorem dX5_fallOf_120 : decode cX5_fallOf 120 = .ok (.putfield 152, 3) := by decide +kernel
theorem dX5_fallOf_123 : decode cX5_fallOf 123 = .ok (.return_, 1) := by decide +kernel
/-! ===== FlowMetersModel.fallOf(I)V ===== -/
def fX5_fallOf (N : Nat) (c_t_below : Int64) (c_t_above1 : Int64) (c_t_below1 : Int64) (c_t_now : Nat → Int32) (c_t_heapOf : Nat → Int32) (c_t_partOf : Nat → Int32) (c_t_place : Nat → Int32) (c_t_matrix : Nat → Int64) (c_t_right : Nat → Int64) (c_t_force : Nat → Int64) (c_t_work : Nat → Int64) (x1 : Int32) : Option (Int64 × Int64 × Int64 × (Nat → Int32) × (Nat → Int32) × (Nat → Int32) × (Nat → Int32) × (Nat → Int64) × (Nat → Int64) × (Nat → Int64) × (Nat → Int64)) :=
  (fX5_solves N c_t_below c_t_now c_t_heapOf c_t_partOf c_t_place c_t_matrix c_t_right c_t_force c_t_work).bind fun (v1, v2, v3, v4, v5, v6, v7, v8) =>
  (fX5_testOf N c_t_now v2 v7).bind fun v10 =>
  (fX5_told N v10 v1 0).bind fun v12 =>
  (fX5_testOf N c_t_now v2 v7).bind fun v14 =>
  (fX5_told N v14 v1 1).bind fun v16 =>
  (fX5_set c_t_now x1 2 0).bind fun v18 =>
  (fX5_solves N v1 v18 v2 v3 v4 v5 v6 v7 v8).bind fun (v20, v21, v22, v23, v24, v25, v26, v27) =>
  (fX5_testOf N v18 v21 v26).bind fun v29 =>
  (fX5_told N v29 v20 0).bind fun v31 =>
  (fX5_testOf N v18 v21 v26).bind fun v33 =>
  (fX5_told N v33 v20 1).bind fun v35 =>
  (fX5_set v18 x1 2 1).bind fun v37 =>
  (fX5_told N ((v12 * v35) - (v16 * v31)) (v16 * v35) 0).bind fun v39 =>
  (fX5_told N ((v12 * v35) - (v16 * v31)) (v16 * v35) 1).bind fun v41 =>
  some (v20, v39, v41, v37, v21, v22, v23, v24, v25, v26, v27)
theorem fX5_fallOf_104 : yF wsX5_fallOf RX5 104 5 10 RX5 TX5 19 := ⟨rfl, by decide, by decide +kernel, by decide +kernel⟩
theorem fX5_fallOf_149 : yF wsX5_fallOf RX5 149 5 13 RX5 TX5 19 := ⟨rfl, by decide, by decide +kernel, by decide +kernel⟩
theorem fX5_fallOf_152 : yF wsX5_fallOf RX5 152 5 14 RX5 TX5 19 := ⟨rfl, by decide, by decide +kernel, by decide +kernel⟩
abbrev rmX5_fallOf : Room := { frames := 9, cells := 0, slots := 0, locals := 336 }
theorem eX5_fallOf : yY yX5_fallOf wsX5_fallOf cX5_fallOf 10 none rmX5_fallOf 1 := ⟨⟨_, rfl⟩, rfl, rfl, by decide, by decide, by decide +kernel⟩
set_option maxHeartbeats 4000000 in
set_option maxRecDepth 100000 in
theorem mX5_fallOf {l : Launch} {D : va_G} {sz : Nat} {cI cJ cZ cW cR : ClassId} {N : Nat} {h_t : Nat} {A_t : Nat → Nat} {c_t_many : Int32} {c_t_below : Int64} {c_t_above1 : Int64} {c_t_below1 : Int64} {c_t_now : Nat → Int32} {c_t_heapOf : Nat → Int32} {c_t_partOf : Nat → Int32} {c_t_place : Nat → Int32} {c_t_matrix : Nat → Int64} {c_t_right : Nat → Int64} {c_t_force : Nat → Int64} {c_t_work : Nat → Int64} {x1 : Int32} {zc_t_below : Int64} {zc_t_above1 : Int64} {zc_t_below1 : Int64} {zc_t_now : Nat → Int32} {zc_t_heapOf : Nat → Int32} {zc_t_partOf : Nat → Int32} {zc_t_place : Nat → Int32} {zc_t_matrix : Nat → Int64} {zc_t_right : Nat → Int64} {zc_t_force : Nat → Int64} {zc_t_work : Nat → Int64} (hf : fX5_fallOf N c_t_below c_t_above1 c_t_below1 c_t_now c_t_heapOf c_t_partOf c_t_place c_t_matrix c_t_right c_t_force c_t_work x1 = some (zc_t_below, zc_t_above1, zc_t_below1, zc_t_now, zc_t_heapOf, zc_t_partOf, zc_t_place, zc_t_matrix, zc_t_right, zc_t_force, zc_t_work)) : Met l yX5_fallOf wsX5_fallOf rmX5_fallOf (yP D (yT cI cJ cZ cW cR) [(h_t, oR A_t c_t_many c_t_below c_t_above1 c_t_below1), (A_t 0, eI cI 242 c_t_now), (A_t 2, eI cI 6 c_t_heapOf), (A_t 3, eI cI 6 c_t_partOf), (A_t 4, eI cI 6 c_t_place), (A_t 5, eJ cJ 36 c_t_matrix), (A_t 6, eJ cJ 6 c_t_right), (A_t 7, eJ cJ 6 c_t_force), (A_t 8, eJ cJ 216 c_t_work)] sz [.ref h_t, .int x1]) (yQv D (yT cI cJ cZ cW cR) [(h_t, oR A_t c_t_many zc_t_below zc_t_above1 zc_t_below1), (A_t 0, eI cI 242 zc_t_now), (A_t 2, eI cI 6 zc_t_heapOf), (A_t 3, eI cI 6 zc_t_partOf), (A_t 4, eI cI 6 zc_t_place), (A_t 5, eJ cJ 36 zc_t_matrix), (A_t 6, eJ cJ 6 zc_t_right), (A_t 7, eJ cJ 6 zc_t_force), (A_t 8, eJ cJ 216 zc_t_work)] (va_A [(h_t, oR A_t c_t_many c_t_below c_t_above1 c_t_below1), (A_t 0, eI cI 242 c_t_now), (A_t 2, eI cI 6 c_t_heapOf), (A_t 3, eI cI 6 c_t_partOf), (A_t 4, eI cI 6 c_t_place), (A_t 5, eJ cJ 36 c_t_matrix), (A_t 6, eJ cJ 6 c_t_right), (A_t 7, eJ cJ 6 c_t_force), (A_t 8, eJ cJ 216 c_t_work)] sz)) 0 0 (va_A [(h_t, oR A_t c_t_many c_t_below c_t_above1 c_t_below1), (A_t 0, eI cI 242 c_t_now), (A_t 2, eI cI 6 c_t_heapOf), (A_t 3, eI cI 6 c_t_partOf), (A_t 4, eI cI 6 c_t_place), (A_t 5, eJ cJ 36 c_t_matrix), (A_t 6, eJ cJ 6 c_t_right), (A_t 7, eJ cJ 6 c_t_force), (A_t 8, eJ cJ 216 c_t_work)] sz) := by
  refine yM (cc := cX5_fallOf) (maxL := 10) (ret := none) RX5 (by decide) rfl rfl (Nat.le_of_ble_eq_true rfl) ?_
  intro p e s m below meth c Γ hr
  show yG p l e (headSpec wsX5_fallOf rmX5_fallOf).room s m (List.toArray [.ref h_t, .int x1]) below meth c D (va_A [(h_t, oR A_t c_t_many c_t_below c_t_above1 c_t_below1), (A_t 0, eI cI 242 c_t_now), (A_t 2, eI cI 6 c_t_heapOf), (A_t 3, eI cI 6 c_t_partOf), (A_t 4, eI cI 6 c_t_place), (A_t 5, eJ cJ 36 c_t_matrix), (A_t 6, eJ cJ 6 c_t_right), (A_t 7, eJ cJ 6 c_t_force), (A_t 8, eJ cJ 216 c_t_work)] sz) 10 0 0 (MQ below (yQv D (yT cI cJ cZ cW cR) [(h_t, oR A_t c_t_many zc_t_below zc_t_above1 zc_t_below1), (A_t 0, eI cI 242 zc_t_now), (A_t 2, eI cI 6 zc_t_heapOf), (A_t 3, eI cI 6 zc_t_partOf), (A_t 4, eI cI 6 zc_t_place), (A_t 5, eJ cJ 36 zc_t_matrix), (A_t 6, eJ cJ 6 zc_t_right), (A_t 7, eJ cJ 6 zc_t_force), (A_t 8, eJ cJ 216 zc_t_work)] (va_A [(h_t, oR A_t c_t_many c_t_below c_t_above1 c_t_below1), (A_t 0, eI cI 242 c_t_now), (A_t 2, eI cI 6 c_t_heapOf), (A_t 3, eI cI 6 c_t_partOf), (A_t 4, eI cI 6 c_t_place), (A_t 5, eJ cJ 36 c_t_matrix), (A_t 6, eJ cJ 6 c_t_right), (A_t 7, eJ cJ 6 c_t_force), (A_t 8, eJ cJ 216 c_t_work)] sz)) (List.toArray [.ref h_t, .int x1]) s 0 0 (va_A [(h_t, oR A_t c_t_many c_t_below c_t_above1 c_t_below1), (A_t 0, eI cI 242 c_t_now), (A_t 2, eI cI 6 c_t_heapOf), (A_t 3, eI cI 6 c_t_partOf), (A_t 4, eI cI 6 c_t_place), (A_t 5, eJ cJ 36 c_t_matrix), (A_t 6, eJ cJ 6 c_t_right), (A_t 7, eJ cJ 6 c_t_force), (A_t 8, eJ cJ 216 c_t_work)] sz)) 0 [(0, .ref h_t), (1, .int x1)] [] [(h_t, oR A_t c_t_many c_t_below c_t_above1 c_t_below1), (A_t 0, eI cI 242 c_t_now), (A_t 2, eI cI 6 c_t_heapOf), (A_t 3, eI cI 6 c_t_partOf), (A_t 4, eI cI 6 c_t_place), (A_t 5, eJ cJ 36 c_t_matrix), (A_t 6, eJ cJ 6 c_t_right), (A_t 7, eJ cJ 6 c_t_force), (A_t 8, eJ cJ 216 c_t_work)]
  unfold fX5_fallOf at hf
  refine g_aload_n Γ 0 dX5_fallOf_0 rfl ?_
  obtain ⟨⟨v1, v2, v3, v4, v5, v6, v7, v8⟩, e9, hf⟩ := ya_ob hf
  refine g_vv (q := (RX5, TX5, 19)) (wr := []) (ws' := [(h_t, oR A_t c_t_many v1 c_t_above1 c_t_below1), (A_t 0, eI cI 242 c_t_now), (A_t 2, eI cI 6 v2), (A_t 3, eI cI 6 v3), (A_t 4, eI cI 6 v4), (A_t 5, eJ cJ 36 v5), (A_t 6, eJ cJ 6 v6), (A_t 7, eJ cJ 6 v7), (A_t 8, eJ cJ 216 v8)]) Γ (fun sz => mX5_solves (l := l) (D := D) (sz := sz) (cI := cI) (cJ := cJ) (cZ := cZ) (cW := cW) (cR := cR) (h_t := h_t) (A_t := A_t) (hf := e9)) eX5_solves gX5_fallOf_X5_solves rfl rfl 0 rfl rfl rfl (Nat.le_of_ble_eq_true rfl) ⟨Nat.le_of_ble_eq_true rfl, Nat.le_of_ble_eq_true rfl⟩ dX5_fallOf_1 [0, 1, 2, 3, 4, 5, 6, 7, 8] [] rfl rfl rfl rfl (by decide) rfl ?_
  refine g_aload_n Γ 0 dX5_fallOf_4 rfl ?_
  obtain ⟨v10, e11, hf⟩ := ya_ob hf
  refine g_vl (q := (RX5, TX5, 19)) (wr := [(A_t 3, eI cI 6 v3), (A_t 4, eI cI 6 v4), (A_t 5, eJ cJ 36 v5), (A_t 6, eJ cJ 6 v6), (A_t 8, eJ cJ 216 v8)]) (ws' := [(A_t 3, eI cI 6 v3), (A_t 4, eI cI 6 v4), (A_t 5, eJ cJ 36 v5), (A_t 6, eJ cJ 6 v6), (A_t 8, eJ cJ 216 v8), (h_t, oR A_t c_t_many v1 c_t_above1 c_t_below1), (A_t 0, eI cI 242 c_t_now), (A_t 2, eI cI 6 v2), (A_t 7, eJ cJ 6 v7)]) Γ (fun sz => mX5_testOf (l := l) (D := D) (sz := sz) (cI := cI) (cJ := cJ) (cZ := cZ) (cW := cW) (cR := cR) (h_t := h_t) (A_t := A_t) (hf := e11)) eX5_testOf gX5_fallOf_X5_testOf rfl rfl 0 rfl rfl rfl (Nat.le_of_ble_eq_true rfl) ⟨Nat.le_of_ble_eq_true rfl, Nat.le_of_ble_eq_true rfl⟩ dX5_fallOf_5 [0, 1, 2, 7] [3, 4, 5, 6, 8] rfl rfl rfl rfl (by decide) rfl ?_
  refine g_aload_n Γ 0 dX5_fallOf_8 rfl ?_
  refine g_get Γ fX5_fallOf_104 5 rfl rfl dX5_fallOf_9 ?_
  refine g_iconst (v := 0) Γ dX5_fallOf_12 (by decide) ?_
  obtain ⟨v12, e13, hf⟩ := ya_ob hf
  refine g_sl (wr := [(A_t 3, eI cI 6 v3), (A_t 4, eI cI 6 v4), (A_t 5, eJ cJ 36 v5), (A_t 6, eJ cJ 6 v6), (A_t 8, eJ cJ 216 v8), (h_t, oR A_t c_t_many v1 c_t_above1 c_t_below1), (A_t 0, eI cI 242 c_t_now), (A_t 2, eI cI 6 v2), (A_t 7, eJ cJ 6 v7)]) (ws' := [(A_t 3, eI cI 6 v3), (A_t 4, eI cI 6 v4), (A_t 5, eJ cJ 36 v5), (A_t 6, eJ cJ 6 v6), (A_t 8, eJ cJ 216 v8), (h_t, oR A_t c_t_many v1 c_t_above1 c_t_below1), (A_t 0, eI cI 242 c_t_now), (A_t 2, eI cI 6 v2), (A_t 7, eJ cJ 6 v7)]) Γ (fun sz => mX5_told (l := l) (D := D) (sz := sz) (cI := cI) (cJ := cJ) (cZ := cZ) (cW := cW) (cR := cR)  (hf := e13)) eX5_told ggX5_fallOf_X5_told (by decide +kernel) (by decide +kernel) (by decide +kernel) rfl rfl (Nat.le_of_ble_eq_true rfl) ⟨Nat.le_of_ble_eq_true rfl, Nat.le_of_ble_eq_true rfl⟩ dX5_fallOf_13 [] [0, 1, 2, 3, 4, 5, 6, 7, 8] rfl rfl rfl rfl (by decide) rfl ?_
  refine g_lstore_n (lv' := [(2, .long v12), (0, .ref h_t), (1, .int x1)]) Γ dX5_fallOf_16 (by decide) rfl ?_
  refine g_aload_n Γ 1 dX5_fallOf_17 rfl ?_
  obtain ⟨v14, e15, hf⟩ := ya_ob hf
  refine g_vl (q := (RX5, TX5, 19)) (wr := [(A_t 3, eI cI 6 v3), (A_t 4, eI cI 6 v4), (A_t 5, eJ cJ 36 v5), (A_t 6, eJ cJ 6 v6), (A_t 8, eJ cJ 216 v8)]) (ws' := [(A_t 3, eI cI 6 v3), (A_t 4, eI cI 6 v4), (A_t 5, eJ cJ 36 v5), (A_t 6, eJ cJ 6 v6), (A_t 8, eJ cJ 216 v8), (h_t, oR A_t c_t_many v1 c_t_above1 c_t_below1), (A_t 0, eI cI 242 c_t_now), (A_t 2, eI cI 6 v2), (A_t 7, eJ cJ 6 v7)]) Γ (fun sz => mX5_testOf (l := l) (D := D) (sz := sz) (cI := cI) (cJ := cJ) (cZ := cZ) (cW := cW) (cR := cR) (h_t := h_t) (A_t := A_t) (hf := e15)) eX5_testOf gX5_fallOf_X5_testOf rfl rfl 0 rfl rfl rfl (Nat.le_of_ble_eq_true rfl) ⟨Nat.le_of_ble_eq_true rfl, Nat.le_of_ble_eq_true rfl⟩ dX5_fallOf_18 [5, 6, 7, 8] [0, 1, 2, 3, 4] rfl rfl rfl rfl (by decide) rfl ?_
  refine g_aload_n Γ 1 dX5_fallOf_21 rfl ?_
  refine g_get Γ fX5_fallOf_104 5 rfl rfl dX5_fallOf_22 ?_
  refine g_iconst (v := 1) Γ dX5_fallOf_25 (by decide) ?_
  obtain ⟨v16, e17, hf⟩ := ya_ob hf
  refine g_sl (wr := [(A_t 3, eI cI 6 v3), (A_t 4, eI cI 6 v4), (A_t 5, eJ cJ 36 v5), (A_t 6, eJ cJ 6 v6), (A_t 8, eJ cJ 216 v8), (h_t, oR A_t c_t_many v1 c_t_above1 c_t_below1), (A_t 0, eI cI 242 c_t_now), (A_t 2, eI cI 6 v2), (A_t 7, eJ cJ 6 v7)]) (ws' := [(A_t 3, eI cI 6 v3), (A_t 4, eI cI 6 v4), (A_t 5, eJ cJ 36 v5), (A_t 6, eJ cJ 6 v6), (A_t 8, eJ cJ 216 v8), (h_t, oR A_t c_t_many v1 c_t_above1 c_t_below1), (A_t 0, eI cI 242 c_t_now), (A_t 2, eI cI 6 v2), (A_t 7, eJ cJ 6 v7)]) Γ (fun sz => mX5_told (l := l) (D := D) (sz := sz) (cI := cI) (cJ := cJ) (cZ := cZ) (cW := cW) (cR := cR)  (hf := e17)) eX5_told ggX5_fallOf_X5_told (by decide +kernel) (by decide +kernel) (by decide +kernel) rfl rfl (Nat.le_of_ble_eq_true rfl) ⟨Nat.le_of_ble_eq_true rfl, Nat.le_of_ble_eq_true rfl⟩ dX5_fallOf_26 [] [0, 1, 2, 3, 4, 5, 6, 7, 8] rfl rfl rfl rfl (by decide) rfl ?_
  refine g_lstore (lv' := [(4, .long v16), (2, .long v12), (0, .ref h_t), (1, .int x1)]) Γ dX5_fallOf_29 (by decide) rfl ?_
  refine g_aload_n Γ 2 dX5_fallOf_31 rfl ?_
  refine g_iload_n Γ 3 dX5_fallOf_32 rfl ?_
  refine g_iconst (v := 2) Γ dX5_fallOf_33 (by decide) ?_
  refine g_iconst (v := 0) Γ dX5_fallOf_34 (by decide) ?_
  obtain ⟨v18, e19, hf⟩ := ya_ob hf
  refine g_vv (q := (RX5, TX5, 19)) (wr := [(A_t 3, eI cI 6 v3), (A_t 4, eI cI 6 v4), (A_t 5, eJ cJ 36 v5), (A_t 6, eJ cJ 6 v6), (A_t 8, eJ cJ 216 v8), (A_t 2, eI cI 6 v2), (A_t 7, eJ cJ 6 v7)]) (ws' := [(A_t 3, eI cI 6 v3), (A_t 4, eI cI 6 v4), (A_t 5, eJ cJ 36 v5), (A_t 6, eJ cJ 6 v6), (A_t 8, eJ cJ 216 v8), (A_t 2, eI cI 6 v2), (A_t 7, eJ cJ 6 v7), (h_t, oR A_t c_t_many v1 c_t_above1 c_t_below1), (A_t 0, eI cI 242 v18)]) Γ (fun sz => mX5_set (l := l) (D := D) (sz := sz) (cI := cI) (cJ := cJ) (cZ := cZ) (cW := cW) (cR := cR) (h_t := h_t) (A_t := A_t) (hf := e19)) eX5_set gX5_fallOf_X5_set rfl rfl 0 rfl rfl rfl (Nat.le_of_ble_eq_true rfl) ⟨Nat.le_of_ble_eq_true rfl, Nat.le_of_ble_eq_true rfl⟩ dX5_fallOf_35 [5, 6] [0, 1, 2, 3, 4, 7, 8] rfl rfl rfl rfl (by decide) rfl ?_
  refine g_aload_n Γ 2 dX5_fallOf_38 rfl ?_
  obtain ⟨⟨v20, v21, v22, v23, v24, v25, v26, v27⟩, e28, hf⟩ := ya_ob hf
  refine g_vv (q := (RX5, TX5, 19)) (wr := []) (ws' := [(h_t, oR A_t c_t_many v20 c_t_above1 c_t_below1), (A_t 0, eI cI 242 v18), (A_t 2, eI cI 6 v21), (A_t 3, eI cI 6 v22), (A_t 4, eI cI 6 v23), (A_t 5, eJ cJ 36 v24), (A_t 6, eJ cJ 6 v25), (A_t 7, eJ cJ 6 v26), (A_t 8, eJ cJ 216 v27)]) Γ (fun sz => mX5_solves (l := l) (D := D) (sz := sz) (cI := cI) (cJ := cJ) (cZ := cZ) (cW := cW) (cR := cR) (h_t := h_t) (A_t := A_t) (hf := e28)) eX5_solves gX5_fallOf_X5_solves rfl rfl 0 rfl rfl rfl (Nat.le_of_ble_eq_true rfl) ⟨Nat.le_of_ble_eq_true rfl, Nat.le_of_ble_eq_true rfl⟩ dX5_fallOf_39 [7, 8, 5, 0, 1, 2, 3, 6, 4] [] rfl rfl rfl rfl (by decide) rfl ?_
  refine g_aload_n Γ 2 dX5_fallOf_42 rfl ?_
  obtain ⟨v29, e30, hf⟩ := ya_ob hf
  refine g_vl (q := (RX5, TX5, 19)) (wr := [(A_t 3, eI cI 6 v22), (A_t 4, eI cI 6 v23), (A_t 5, eJ cJ 36 v24), (A_t 6, eJ cJ 6 v25), (A_t 8, eJ cJ 216 v27)]) (ws' := [(A_t 3, eI cI 6 v22), (A_t 4, eI cI 6 v23), (A_t 5, eJ cJ 36 v24), (A_t 6, eJ cJ 6 v25), (A_t 8, eJ cJ 216 v27), (h_t, oR A_t c_t_many v20 c_t_above1 c_t_below1), (A_t 0, eI cI 242 v18), (A_t 2, eI cI 6 v21), (A_t 7, eJ cJ 6 v26)]) Γ (fun sz => mX5_testOf (l := l) (D := D) (sz := sz) (cI := cI) (cJ := cJ) (cZ := cZ) (cW := cW) (cR := cR) (h_t := h_t) (A_t := A_t) (hf := e30)) eX5_testOf gX5_fallOf_X5_testOf rfl rfl 0 rfl rfl rfl (Nat.le_of_ble_eq_true rfl) ⟨Nat.le_of_ble_eq_true rfl, Nat.le_of_ble_eq_true rfl⟩ dX5_fallOf_43 [0, 1, 2, 7] [3, 4, 5, 6, 8] rfl rfl rfl rfl (by decide) rfl ?_
  refine g_aload_n Γ 2 dX5_fallOf_46 rfl ?_
  refine g_get Γ fX5_fallOf_104 5 rfl rfl dX5_fallOf_47 ?_
  refine g_iconst (v := 0) Γ dX5_fallOf_50 (by decide) ?_
  obtain ⟨v31, e32, hf⟩ := ya_ob hf
  refine g_sl (wr := [(A_t 3, eI cI 6 v22), (A_t 4, eI cI 6 v23), (A_t 5, eJ cJ 36 v24), (A_t 6, eJ cJ 6 v25), (A_t 8, eJ cJ 216 v27), (h_t, oR A_t c_t_many v20 c_t_above1 c_t_below1), (A_t 0, eI cI 242 v18), (A_t 2, eI cI 6 v21), (A_t 7, eJ cJ 6 v26)]) (ws' := [(A_t 3, eI cI 6 v22), (A_t 4, eI cI 6 v23), (A_t 5, eJ cJ 36 v24), (A_t 6, eJ cJ 6 v25), (A_t 8, eJ cJ 216 v27), (h_t, oR A_t c_t_many v20 c_t_above1 c_t_below1), (A_t 0, eI cI 242 v18), (A_t 2, eI cI 6 v21), (A_t 7, eJ cJ 6 v26)]) Γ (fun sz => mX5_told (l := l) (D := D) (sz := sz) (cI := cI) (cJ := cJ) (cZ := cZ) (cW := cW) (cR := cR)  (hf := e32)) eX5_told ggX5_fallOf_X5_told (by decide +kernel) (by decide +kernel) (by decide +kernel) rfl rfl (Nat.le_of_ble_eq_true rfl) ⟨Nat.le_of_ble_eq_true rfl, Nat.le_of_ble_eq_true rfl⟩ dX5_fallOf_51 [] [0, 1, 2, 3, 4, 5, 6, 7, 8] rfl rfl rfl rfl (by decide) rfl ?_
  refine g_lstore (lv' := [(6, .long v31), (4, .long v16), (2, .long v12), (0, .ref h_t), (1, .int x1)]) Γ dX5_fallOf_54 (by decide) rfl ?_
  refine g_aload_n Γ 3 dX5_fallOf_56 rfl ?_
  obtain ⟨v33, e34, hf⟩ := ya_ob hf
  refine g_vl (q := (RX5, TX5, 19)) (wr := [(A_t 3, eI cI 6 v22), (A_t 4, eI cI 6 v23), (A_t 5, eJ cJ 36 v24), (A_t 6, eJ cJ 6 v25), (A_t 8, eJ cJ 216 v27)]) (ws' := [(A_t 3, eI cI 6 v22), (A_t 4, eI cI 6 v23), (A_t 5, eJ cJ 36 v24), (A_t 6, eJ cJ 6 v25), (A_t 8, eJ cJ 216 v27), (h_t, oR A_t c_t_many v20 c_t_above1 c_t_below1), (A_t 0, eI cI 242 v18), (A_t 2, eI cI 6 v21), (A_t 7, eJ cJ 6 v26)]) Γ (fun sz => mX5_testOf (l := l) (D := D) (sz := sz) (cI := cI) (cJ := cJ) (cZ := cZ) (cW := cW) (cR := cR) (h_t := h_t) (A_t := A_t) (hf := e34)) eX5_testOf gX5_fallOf_X5_testOf rfl rfl 0 rfl rfl rfl (Nat.le_of_ble_eq_true rfl) ⟨Nat.le_of_ble_eq_true rfl, Nat.le_of_ble_eq_true rfl⟩ dX5_fallOf_57 [5, 6, 7, 8] [0, 1, 2, 3, 4] rfl rfl rfl rfl (by decide) rfl ?_
  refine g_aload_n Γ 3 dX5_fallOf_60 rfl ?_
  refine g_get Γ fX5_fallOf_104 5 rfl rfl dX5_fallOf_61 ?_
  refine g_iconst (v := 1) Γ dX5_fallOf_64 (by decide) ?_
  obtain ⟨v35, e36, hf⟩ := ya_ob hf
  refine g_sl (wr := [(A_t 3, eI cI 6 v22), (A_t 4, eI cI 6 v23), (A_t 5, eJ cJ 36 v24), (A_t 6, eJ cJ 6 v25), (A_t 8, eJ cJ 216 v27), (h_t, oR A_t c_t_many v20 c_t_above1 c_t_below1), (A_t 0, eI cI 242 v18), (A_t 2, eI cI 6 v21), (A_t 7, eJ cJ 6 v26)]) (ws' := [(A_t 3, eI cI 6 v22), (A_t 4, eI cI 6 v23), (A_t 5, eJ cJ 36 v24), (A_t 6, eJ cJ 6 v25), (A_t 8, eJ cJ 216 v27), (h_t, oR A_t c_t_many v20 c_t_above1 c_t_below1), (A_t 0, eI cI 242 v18), (A_t 2, eI cI 6 v21), (A_t 7, eJ cJ 6 v26)]) Γ (fun sz => mX5_told (l := l) (D := D) (sz := sz) (cI := cI) (cJ := cJ) (cZ := cZ) (cW := cW) (cR := cR)  (hf := e36)) eX5_told ggX5_fallOf_X5_told (by decide +kernel) (by decide +kernel) (by decide +kernel) rfl rfl (Nat.le_of_ble_eq_true rfl) ⟨Nat.le_of_ble_eq_true rfl, Nat.le_of_ble_eq_true rfl⟩ dX5_fallOf_65 [] [0, 1, 2, 3, 4, 5, 6, 7, 8] rfl rfl rfl rfl (by decide) rfl ?_
  refine g_lstore (lv' := [(8, .long v35), (6, .long v31), (4, .long v16), (2, .long v12), (0, .ref h_t), (1, .int x1)]) Γ dX5_fallOf_68 (by decide) rfl ?_
  refine g_aload_n Γ 4 dX5_fallOf_70 rfl ?_
  refine g_iload_n Γ 5 dX5_fallOf_71 rfl ?_
  refine g_iconst (v := 2) Γ dX5_fallOf_72 (by decide) ?_
  refine g_iconst (v := 1) Γ dX5_fallOf_73 (by decide) ?_
  obtain ⟨v37, e38, hf⟩ := ya_ob hf
  refine g_vv (q := (RX5, TX5, 19)) (wr := [(A_t 3, eI cI 6 v22), (A_t 4, eI cI 6 v23), (A_t 5, eJ cJ 36 v24), (A_t 6, eJ cJ 6 v25), (A_t 8, eJ cJ 216 v27), (A_t 2, eI cI 6 v21), (A_t 7, eJ cJ 6 v26)]) (ws' := [(A_t 3, eI cI 6 v22), (A_t 4, eI cI 6 v23), (A_t 5, eJ cJ 36 v24), (A_t 6, eJ cJ 6 v25), (A_t 8, eJ cJ 216 v27), (A_t 2, eI cI 6 v21), (A_t 7, eJ cJ 6 v26), (h_t, oR A_t c_t_many v20 c_t_above1 c_t_below1), (A_t 0, eI cI 242 v37)]) Γ (fun sz => mX5_set (l := l) (D := D) (sz := sz) (cI := cI) (cJ := cJ) (cZ := cZ) (cW := cW) (cR := cR) (h_t := h_t) (A_t := A_t) (hf := e38)) eX5_set gX5_fallOf_X5_set rfl rfl 0 rfl rfl rfl (Nat.le_of_ble_eq_true rfl) ⟨Nat.le_of_ble_eq_true rfl, Nat.le_of_ble_eq_true rfl⟩ dX5_fallOf_74 [5, 6] [0, 1, 2, 3, 4, 7, 8] rfl rfl rfl rfl (by decide) rfl ?_
  refine g_aload_n Γ 4 dX5_fallOf_77 rfl ?_
  refine g_lload_n Γ 3 dX5_fallOf_78 rfl ?_
  refine g_lload Γ 0 dX5_fallOf_79 rfl ?_
  refine g_lmul Γ dX5_fallOf_81 ?_
  refine g_lload Γ 2 dX5_fallOf_82 rfl ?_
  refine g_lload Γ 1 dX5_fallOf_84 rfl ?_
  refine g_lmul Γ dX5_fallOf_86 ?_
  refine g_lsub Γ dX5_fallOf_87 ?_
  refine g_lload Γ 2 dX5_fallOf_88 rfl ?_
  refine g_lload Γ 0 dX5_fallOf_90 rfl ?_
  refine g_lmul Γ dX5_fallOf_92 ?_
  refine g_iconst (v := 0) Γ dX5_fallOf_93 (by decide) ?_
  obtain ⟨v39, e40, hf⟩ := ya_ob hf
  refine g_sl (wr := [(A_t 3, eI cI 6 v22), (A_t 4, eI cI 6 v23), (A_t 5, eJ cJ 36 v24), (A_t 6, eJ cJ 6 v25), (A_t 8, eJ cJ 216 v27), (A_t 2, eI cI 6 v21), (A_t 7, eJ cJ 6 v26), (h_t, oR A_t c_t_many v20 c_t_above1 c_t_below1), (A_t 0, eI cI 242 v37)]) (ws' := [(A_t 3, eI cI 6 v22), (A_t 4, eI cI 6 v23), (A_t 5, eJ cJ 36 v24), (A_t 6, eJ cJ 6 v25), (A_t 8, eJ cJ 216 v27), (A_t 2, eI cI 6 v21), (A_t 7, eJ cJ 6 v26), (h_t, oR A_t c_t_many v20 c_t_above1 c_t_below1), (A_t 0, eI cI 242 v37)]) Γ (fun sz => mX5_told (l := l) (D := D) (sz := sz) (cI := cI) (cJ := cJ) (cZ := cZ) (cW := cW) (cR := cR)  (hf := e40)) eX5_told ggX5_fallOf_X5_told (by decide +kernel) (by decide +kernel) (by decide +kernel) rfl rfl (Nat.le_of_ble_eq_true rfl) ⟨Nat.le_of_ble_eq_true rfl, Nat.le_of_ble_eq_true rfl⟩ dX5_fallOf_94 [] [0, 1, 2, 3, 4, 5, 6, 7, 8] rfl rfl rfl rfl (by decide) rfl ?_
  refine g_put (ws' := [(A_t 3, eI cI 6 v22), (A_t 4, eI cI 6 v23), (A_t 5, eJ cJ 36 v24), (A_t 6, eJ cJ 6 v25), (A_t 8, eJ cJ 216 v27), (A_t 2, eI cI 6 v21), (A_t 7, eJ cJ 6 v26), (h_t, oR A_t c_t_many v20 v39 c_t_below1), (A_t 0, eI cI 242 v37)]) Γ fX5_fallOf_149 tyX5_ok nmX5 7 rfl rfl rfl rfl (Nat.le_of_ble_eq_true rfl) dX5_fallOf_97 rfl ?_
  refine g_aload_n Γ 4 dX5_fallOf_100 rfl ?_
  refine g_lload_n Γ 3 dX5_fallOf_101 rfl ?_
  refine g_lload Γ 0 dX5_fallOf_102 rfl ?_
  refine g_lmul Γ dX5_fallOf_104 ?_
  refine g_lload Γ 2 dX5_fallOf_105 rfl ?_
  refine g_lload Γ 1 dX5_fallOf_107 rfl ?_
  refine g_lmul Γ dX5_fallOf_109 ?_
  refine g_lsub Γ dX5_fallOf_110 ?_
  refine g_lload Γ 2 dX5_fallOf_111 rfl ?_
  refine g_lload Γ 0 dX5_fallOf_113 rfl ?_
  refine g_lmul Γ dX5_fallOf_115 ?_
  refine g_iconst (v := 1) Γ dX5_fallOf_116 (by decide) ?_
  obtain ⟨v41, e42, hf⟩ := ya_ob hf
  refine g_sl (wr := [(A_t 3, eI cI 6 v22), (A_t 4, eI cI 6 v23), (A_t 5, eJ cJ 36 v24), (A_t 6, eJ cJ 6 v25), (A_t 8, eJ cJ 216 v27), (A_t 2, eI cI 6 v21), (A_t 7, eJ cJ 6 v26), (h_t, oR A_t c_t_many v20 v39 c_t_below1), (A_t 0, eI cI 242 v37)]) (ws' := [(A_t 3, eI cI 6 v22), (A_t 4, eI cI 6 v23), (A_t 5, eJ cJ 36 v24), (A_t 6, eJ cJ 6 v25), (A_t 8, eJ cJ 216 v27), (A_t 2, eI cI 6 v21), (A_t 7, eJ cJ 6 v26), (h_t, oR A_t c_t_many v20 v39 c_t_below1), (A_t 0, eI cI 242 v37)]) Γ (fun sz => mX5_told (l := l) (D := D) (sz := sz) (cI := cI) (cJ := cJ) (cZ := cZ) (cW := cW) (cR := cR)  (hf := e42)) eX5_told ggX5_fallOf_X5_told (by decide +kernel) (by decide +kernel) (by decide +kernel) rfl rfl (Nat.le_of_ble_eq_true rfl) ⟨Nat.le_of_ble_eq_true rfl, Nat.le_of_ble_eq_true rfl⟩ dX5_fallOf_117 [] [0, 1, 2, 3, 4, 5, 6, 7, 8] rfl rfl rfl rfl (by decide) rfl ?_
  refine g_put (ws' := [(A_t 3, eI cI 6 v22), (A_t 4, eI cI 6 v23), (A_t 5, eJ cJ 36 v24), (A_t 6, eJ cJ 6 v25), (A_t 8, eJ cJ 216 v27), (A_t 2, eI cI 6 v21), (A_t 7, eJ cJ 6 v26), (h_t, oR A_t c_t_many v20 v39 v41), (A_t 0, eI cI 242 v37)]) Γ fX5_fallOf_152 tyX5_ok nmX5 7 rfl rfl rfl rfl (Nat.le_of_ble_eq_true rfl) dX5_fallOf_120 rfl ?_
  cases hf
  exact g_vret Γ hr dX5_fallOf_123 [7, 8, 5, 0, 1, 2, 3, 6, 4] rfl rfl

set_option maxRecDepth 20000 in
theorem ggX5_fall_X5_isFlow : GoodIn wsX5_fall wsX5_isFlow := goodIn_r _ [8, 9, 10, 11, 7, 12, 13, 14, 15, 16, 78, 79, 80, 81, 82, 83, 84, 85, 86, 87, 88, 89, 90, 91, 92, 93, 94, 95, 96] rfl (by decide +kernel)
set_option maxRecDepth 20000 in
theorem gX5_fall_X5_isFlow : GoodIn wsX5_fall (wsV RX5 83 RX5 yX5_isFlow wsX5_isFlow) := goodIn_app (goodIn_of _ (by decide +kernel)) ggX5_fall_X5_isFlow
set_option maxRecDepth 20000 in
theorem ggX5_fall_X5_isWhat : GoodIn wsX5_fall wsX5_isWhat := goodIn_r _ [19] rfl (by decide +kernel)
set_option maxRecDepth 20000 in
theorem gX5_fall_X5_isWhat : GoodIn wsX5_fall (va_wsS RX5 114 yX5_isWhat wsX5_isWhat) := goodIn_app (goodIn_of _ (by decide +kernel)) ggX5_fall_X5_isWhat
set_option maxRecDepth 20000 in
theorem ggX5_fall_X5_isSpare : GoodIn wsX5_fall wsX5_isSpare := goodIn_r _ [23, 24, 25, 26, 27, 7, 28, 9, 10, 11, 12, 13, 29, 30, 31, 32, 33, 34, 35, 36, 78, 79, 80, 81, 82, 83, 84, 85, 86, 87, 88, 89, 90, 91, 92, 93, 94, 95, 96] rfl (by decide +kernel)
set_option maxRecDepth 20000 in
theorem gX5_fall_X5_isSpare : GoodIn wsX5_fall (wsV RX5 146 RX5 yX5_isSpare wsX5_isSpare) := goodIn_app (goodIn_of _ (by decide +kernel)) ggX5_fall_X5_isSpare
set_option maxRecDepth 20000 in
theorem ggX5_fall_X5_fallOf : GoodIn wsX5_fall wsX5_fallOf := goodIn_r _ [40, 41, 2, 3, 42, 43, 44, 7, 45, 46, 24, 47, 48, 49, 50, 51, 25, 26, 27, 28, 9, 10, 11, 12, 13, 29, 30, 31, 32, 33, 34, 35, 36, 52, 53, 54, 55, 56, 57, 58, 59, 60, 61, 62, 63, 64, 65, 66, 67, 68, 69, 70, 1, 71, 72, 73, 74, 75, 76, 77, 78, 79, 80, 81, 82, 83, 84, 85, 86, 87, 88, 89, 90, 91, 92, 93, 94, 95, 96] rfl (by decide +kernel)
set_option maxRecDepth 20000 in
theorem gX5_fall_X5_fallOf : GoodIn wsX5_fall (wsV RX5 155 RX5 yX5_fallOf wsX5_fallOf) := goodIn_app (goodIn_of _ (by decide +kernel)) ggX5_fall_X5_fallOf
theorem dX5_fall_0 : decode cX5_fall 0 = .ok (.aload_n 0, 1) := by decide +kernel
theorem dX5_fall_1 : decode cX5_fall 1 = .ok (.iload_n 1, 1) := by decide +kernel
theorem dX5_fall_2 : decode cX5_fall 2 = .ok (.invokevirtual 83, 3) := by decide +kernel
theorem dX5_fall_5 : decode cX5_fall 5 = .ok (.ifCond .eq 18, 3) := by decide +kernel
theorem dX5_fall_8 : decode cX5_fall 8 = .ok (.iload_n 2, 1) := by decide +kernel
theorem dX5_fall_9 : decode cX5_fall 9 = .ok (.invokestatic 114, 3) := by decide +kernel
theorem dX5_fall_12 : decode cX5_fall 12 = .ok (.ifCond .eq 11, 3) := by decide +kernel
theorem dX5_fall_15 : decode cX5_fall 15 = .ok (.aload_n 0, 1) := by decide +kernel
theorem dX5_fall_16 : decode cX5_fall 16 = .ok (.iload_n 1, 1) := by decide +kernel
theorem dX5_fall_17 : decode cX5_fall 17 = .ok (.invokevirtual 146, 3) := by decide +kernel
theorem dX5_fall_20 : decode cX5_fall 20 = .ok (.ifCond .ne 7, 3) := by decide +kernel
theorem dX5_fall_23 : decode cX5_fall 23 = .ok (.ldc2_w 112, 3) := by decide +kernel
theorem dX5_fall_26 : decode cX5_fall 26 = .ok (.lreturn, 1) := by decide +kernel
theorem dX5_fall_27 : decode cX5_fall 27 = .ok (.aload_n 0, 1) := by decide +kernel
theorem dX5_fall_28 : decode cX5_fall 28 = .ok (.iload_n 1, 1) := by decide +kernel
theorem dX5_fall_29 : decode cX5_fall 29 = .ok (.invokevirtual 155, 3) := by decide +kernel
theorem dX5_fall_32 : decode cX5_fall 32 = .ok (.iload_n 2, 1) := by decide +kernel
theorem dX5_fall_33 : decode cX5_fall 33 = .ok (.ifCond .ne 10, 3) := by decide +kernel
theorem dX5_fall_36 : decode cX5_fall 36 = .ok (.aload_n 0, 1) := by decide +kernel
theorem dX5_fall_37 : decode cX5_fall 37 = .ok (.getfield 149, 3) := by decide +kernel
theorem dX5_fall_40 : decode cX5_fall 40 = .ok (.goto 7, 3) := by decide +kernel
theorem dX5_fall_43 : decode cX5_fall 43 = .ok (.aload_n 0, 1) := by decide +kernel
theorem dX5_fall_44 : decode cX5_fall 44 = .ok (.getfield 152, 3) := by decide +kernel
theorem dX5_fall_47 : decode cX5_fall 47 = .ok (.lreturn, 1) := by decide +kernel
/-! ===== FlowMetersModel.fall(II)J ===== -/
def fX5_fall (N : Nat) (c_t_below : Int64) (c_t_above1 : Int64) (c_t_below1 : Int64) (c_t_now : Nat → Int32) (c_t_heapOf : Nat → Int32) (c_t_partOf : Nat → Int32) (c_t_place : Nat → Int32) (c_t_matrix : Nat → Int64) (c_t_right : Nat → Int64) (c_t_force : Nat → Int64) (c_t_work : Nat → Int64) (x1 : Int32) (x2 : Int32) : Option (Int64 × Int64 × Int64 × Int64 × (Nat → Int32) × (Nat → Int32) × (Nat → Int32) × (Nat → Int32) × (Nat → Int64) × (Nat → Int64) × (Nat → Int64) × (Nat → Int64)) :=
  (fX5_isFlow c_t_now x1).bind fun v1 =>
  (if v1 = 0 then
    some ((-1), c_t_below, c_t_above1, c_t_below1, c_t_now, c_t_heapOf, c_t_partOf, c_t_place, c_t_matrix, c_t_right, c_t_force, c_t_work)
  else
    (fX5_isWhat x2).bind fun v4 =>
    (if v4 = 0 then
      some ((-1), c_t_below, c_t_above1, c_t_below1, c_t_now, c_t_heapOf, c_t_partOf, c_t_place, c_t_matrix, c_t_right, c_t_force, c_t_work)
    else
      (fX5_isSpare N c_t_now c_t_heapOf x1).bind fun (v7, v8) =>
      (if v7 = 0 then
        some ((-1), c_t_below, c_t_above1, c_t_below1, c_t_now, v8, c_t_partOf, c_t_place, c_t_matrix, c_t_right, c_t_force, c_t_work)
      else
        (fX5_fallOf N c_t_below c_t_above1 c_t_below1 c_t_now v8 c_t_partOf c_t_place c_t_matrix c_t_right c_t_force c_t_work x1).bind fun (v11, v12, v13, v14, v15, v16, v17, v18, v19, v20, v21) =>
        (if x2 = 0 then
          some (v12, v11, v12, v13, v14, v15, v16, v17, v18, v19, v20, v21)
        else
          some (v13, v11, v12, v13, v14, v15, v16, v17, v18, v19, v20, v21)))))
theorem fX5_fall_152 : yF wsX5_fall RX5 152 5 14 RX5 TX5 19 := ⟨rfl, by decide, by decide +kernel, by decide +kernel⟩
theorem fX5_fall_149 : yF wsX5_fall RX5 149 5 13 RX5 TX5 19 := ⟨rfl, by decide, by decide +kernel, by decide +kernel⟩
abbrev rmX5_fall : Room := { frames := 10, cells := 0, slots := 0, locals := 365 }
theorem eX5_fall : yY yX5_fall wsX5_fall cX5_fall 3 (some .long) rmX5_fall 2 := ⟨⟨_, rfl⟩, rfl, rfl, by decide, by decide, by decide +kernel⟩
set_option maxHeartbeats 4000000 in
set_option maxRecDepth 100000 in
theorem mX5_fall {l : Launch} {D : va_G} {sz : Nat} {cI cJ cZ cW cR : ClassId} {N : Nat} {h_t : Nat} {A_t : Nat → Nat} {c_t_many : Int32} {c_t_below : Int64} {c_t_above1 : Int64} {c_t_below1 : Int64} {c_t_now : Nat → Int32} {c_t_heapOf : Nat → Int32} {c_t_partOf : Nat → Int32} {c_t_place : Nat → Int32} {c_t_matrix : Nat → Int64} {c_t_right : Nat → Int64} {c_t_force : Nat → Int64} {c_t_work : Nat → Int64} {x1 : Int32} {x2 : Int32} {r : Int64} {zc_t_below : Int64} {zc_t_above1 : Int64} {zc_t_below1 : Int64} {zc_t_now : Nat → Int32} {zc_t_heapOf : Nat → Int32} {zc_t_partOf : Nat → Int32} {zc_t_place : Nat → Int32} {zc_t_matrix : Nat → Int64} {zc_t_right : Nat → Int64} {zc_t_force : Nat → Int64} {zc_t_work : Nat → Int64} (hf : fX5_fall N c_t_below c_t_above1 c_t_below1 c_t_now c_t_heapOf c_t_partOf c_t_place c_t_matrix c_t_right c_t_force c_t_work x1 x2 = some (r, zc_t_below, zc_t_above1, zc_t_below1, zc_t_now, zc_t_heapOf, zc_t_partOf, zc_t_place, zc_t_matrix, zc_t_right, zc_t_force, zc_t_work)) : Met l yX5_fall wsX5_fall rmX5_fall (yP D (yT cI cJ cZ cW cR) [(h_t, oR A_t c_t_many c_t_below c_t_above1 c_t_below1), (A_t 0, eI cI 242 c_t_now), (A_t 2, eI cI 6 c_t_heapOf), (A_t 3, eI cI 6 c_t_partOf), (A_t 4, eI cI 6 c_t_place), (A_t 5, eJ cJ 36 c_t_matrix), (A_t 6, eJ cJ 6 c_t_right), (A_t 7, eJ cJ 6 c_t_force), (A_t 8, eJ cJ 216 c_t_work)] sz [.ref h_t, .int x1, .int x2]) (yQl D (yT cI cJ cZ cW cR) r [(h_t, oR A_t c_t_many zc_t_below zc_t_above1 zc_t_below1), (A_t 0, eI cI 242 zc_t_now), (A_t 2, eI cI 6 zc_t_heapOf), (A_t 3, eI cI 6 zc_t_partOf), (A_t 4, eI cI 6 zc_t_place), (A_t 5, eJ cJ 36 zc_t_matrix), (A_t 6, eJ cJ 6 zc_t_right), (A_t 7, eJ cJ 6 zc_t_force), (A_t 8, eJ cJ 216 zc_t_work)] (va_A [(h_t, oR A_t c_t_many c_t_below c_t_above1 c_t_below1), (A_t 0, eI cI 242 c_t_now), (A_t 2, eI cI 6 c_t_heapOf), (A_t 3, eI cI 6 c_t_partOf), (A_t 4, eI cI 6 c_t_place), (A_t 5, eJ cJ 36 c_t_matrix), (A_t 6, eJ cJ 6 c_t_right), (A_t 7, eJ cJ 6 c_t_force), (A_t 8, eJ cJ 216 c_t_work)] sz)) 0 0 (va_A [(h_t, oR A_t c_t_many c_t_below c_t_above1 c_t_below1), (A_t 0, eI cI 242 c_t_now), (A_t 2, eI cI 6 c_t_heapOf), (A_t 3, eI cI 6 c_t_partOf), (A_t 4, eI cI 6 c_t_place), (A_t 5, eJ cJ 36 c_t_matrix), (A_t 6, eJ cJ 6 c_t_right), (A_t 7, eJ cJ 6 c_t_force), (A_t 8, eJ cJ 216 c_t_work)] sz) := by
  refine yM (cc := cX5_fall) (maxL := 3) (ret := (some .long)) RX5 (by decide) rfl rfl (Nat.le_of_ble_eq_true rfl) ?_
  intro p e s m below meth c Γ hr
  show yG p l e (headSpec wsX5_fall rmX5_fall).room s m (List.toArray [.ref h_t, .int x1, .int x2]) below meth c D (va_A [(h_t, oR A_t c_t_many c_t_below c_t_above1 c_t_below1), (A_t 0, eI cI 242 c_t_now), (A_t 2, eI cI 6 c_t_heapOf), (A_t 3, eI cI 6 c_t_partOf), (A_t 4, eI cI 6 c_t_place), (A_t 5, eJ cJ 36 c_t_matrix), (A_t 6, eJ cJ 6 c_t_right), (A_t 7, eJ cJ 6 c_t_force), (A_t 8, eJ cJ 216 c_t_work)] sz) 3 0 0 (MQ below (yQl D (yT cI cJ cZ cW cR) r [(h_t, oR A_t c_t_many zc_t_below zc_t_above1 zc_t_below1), (A_t 0, eI cI 242 zc_t_now), (A_t 2, eI cI 6 zc_t_heapOf), (A_t 3, eI cI 6 zc_t_partOf), (A_t 4, eI cI 6 zc_t_place), (A_t 5, eJ cJ 36 zc_t_matrix), (A_t 6, eJ cJ 6 zc_t_right), (A_t 7, eJ cJ 6 zc_t_force), (A_t 8, eJ cJ 216 zc_t_work)] (va_A [(h_t, oR A_t c_t_many c_t_below c_t_above1 c_t_below1), (A_t 0, eI cI 242 c_t_now), (A_t 2, eI cI 6 c_t_heapOf), (A_t 3, eI cI 6 c_t_partOf), (A_t 4, eI cI 6 c_t_place), (A_t 5, eJ cJ 36 c_t_matrix), (A_t 6, eJ cJ 6 c_t_right), (A_t 7, eJ cJ 6 c_t_force), (A_t 8, eJ cJ 216 c_t_work)] sz)) (List.toArray [.ref h_t, .int x1, .int x2]) s 0 0 (va_A [(h_t, oR A_t c_t_many c_t_below c_t_above1 c_t_below1), (A_t 0, eI cI 242 c_t_now), (A_t 2, eI cI 6 c_t_heapOf), (A_t 3, eI cI 6 c_t_partOf), (A_t 4, eI cI 6 c_t_place), (A_t 5, eJ cJ 36 c_t_matrix), (A_t 6, eJ cJ 6 c_t_right), (A_t 7, eJ cJ 6 c_t_force), (A_t 8, eJ cJ 216 c_t_work)] sz)) 0 [(0, .ref h_t), (1, .int x1), (2, .int x2)] [] [(h_t, oR A_t c_t_many c_t_below c_t_above1 c_t_below1), (A_t 0, eI cI 242 c_t_now), (A_t 2, eI cI 6 c_t_heapOf), (A_t 3, eI cI 6 c_t_partOf), (A_t 4, eI cI 6 c_t_place), (A_t 5, eJ cJ 36 c_t_matrix), (A_t 6, eJ cJ 6 c_t_right), (A_t 7, eJ cJ 6 c_t_force), (A_t 8, eJ cJ 216 c_t_work)]
  unfold fX5_fall at hf
  refine g_aload_n Γ 0 dX5_fall_0 rfl ?_
  refine g_iload_n Γ 1 dX5_fall_1 rfl ?_
  obtain ⟨v1, e2, hf⟩ := ya_ob hf
  refine g_vi (q := (RX5, TX5, 19)) (wr := [(A_t 2, eI cI 6 c_t_heapOf), (A_t 3, eI cI 6 c_t_partOf), (A_t 4, eI cI 6 c_t_place), (A_t 5, eJ cJ 36 c_t_matrix), (A_t 6, eJ cJ 6 c_t_right), (A_t 7, eJ cJ 6 c_t_force), (A_t 8, eJ cJ 216 c_t_work)]) (ws' := [(A_t 2, eI cI 6 c_t_heapOf), (A_t 3, eI cI 6 c_t_partOf), (A_t 4, eI cI 6 c_t_place), (A_t 5, eJ cJ 36 c_t_matrix), (A_t 6, eJ cJ 6 c_t_right), (A_t 7, eJ cJ 6 c_t_force), (A_t 8, eJ cJ 216 c_t_work), (h_t, oR A_t c_t_many c_t_below c_t_above1 c_t_below1), (A_t 0, eI cI 242 c_t_now)]) Γ (fun sz => mX5_isFlow (l := l) (D := D) (sz := sz) (cI := cI) (cJ := cJ) (cZ := cZ) (cW := cW) (cR := cR) (h_t := h_t) (A_t := A_t) (hf := e2)) eX5_isFlow gX5_fall_X5_isFlow rfl rfl 0 rfl rfl rfl (Nat.le_of_ble_eq_true rfl) ⟨Nat.le_of_ble_eq_true rfl, Nat.le_of_ble_eq_true rfl⟩ dX5_fall_2 [0, 1] [2, 3, 4, 5, 6, 7, 8] rfl rfl rfl rfl (by decide) rfl ?_
  refine g_if_eq Γ 23 dX5_fall_5 (by decide) (fun c3 => ?_) (fun c3 => ?_)
  · have hf := ya_if1 c3 hf
    refine g_ldc2 (v := (-1)) Γ dX5_fall_23 (by decide +kernel) ?_
    cases hf
    exact g_lret Γ hr dX5_fall_26 [7, 8, 0, 1, 2, 3, 4, 5, 6] rfl rfl
  · have hf := ya_if2 c3 hf
    refine g_iload_n Γ 2 dX5_fall_8 rfl ?_
    obtain ⟨v4, e5, hf⟩ := ya_ob hf
    refine g_si (wr := [(A_t 2, eI cI 6 c_t_heapOf), (A_t 3, eI cI 6 c_t_partOf), (A_t 4, eI cI 6 c_t_place), (A_t 5, eJ cJ 36 c_t_matrix), (A_t 6, eJ cJ 6 c_t_right), (A_t 7, eJ cJ 6 c_t_force), (A_t 8, eJ cJ 216 c_t_work), (h_t, oR A_t c_t_many c_t_below c_t_above1 c_t_below1), (A_t 0, eI cI 242 c_t_now)]) (ws' := [(A_t 2, eI cI 6 c_t_heapOf), (A_t 3, eI cI 6 c_t_partOf), (A_t 4, eI cI 6 c_t_place), (A_t 5, eJ cJ 36 c_t_matrix), (A_t 6, eJ cJ 6 c_t_right), (A_t 7, eJ cJ 6 c_t_force), (A_t 8, eJ cJ 216 c_t_work), (h_t, oR A_t c_t_many c_t_below c_t_above1 c_t_below1), (A_t 0, eI cI 242 c_t_now)]) Γ (fun sz => mX5_isWhat (l := l) (D := D) (sz := sz) (cI := cI) (cJ := cJ) (cZ := cZ) (cW := cW) (cR := cR)  (hf := e5)) eX5_isWhat ggX5_fall_X5_isWhat (by decide +kernel) (by decide +kernel) (by decide +kernel) rfl rfl (Nat.le_of_ble_eq_true rfl) ⟨Nat.le_of_ble_eq_true rfl, Nat.le_of_ble_eq_true rfl⟩ dX5_fall_9 [] [0, 1, 2, 3, 4, 5, 6, 7, 8] rfl rfl rfl rfl (by decide) rfl ?_
    refine g_if_eq Γ 23 dX5_fall_12 (by decide) (fun c6 => ?_) (fun c6 => ?_)
    · have hf := ya_if1 c6 hf
      refine g_ldc2 (v := (-1)) Γ dX5_fall_23 (by decide +kernel) ?_
      cases hf
      exact g_lret Γ hr dX5_fall_26 [7, 8, 0, 1, 2, 3, 4, 5, 6] rfl rfl
    · have hf := ya_if2 c6 hf
      refine g_aload_n Γ 0 dX5_fall_15 rfl ?_
      refine g_iload_n Γ 1 dX5_fall_16 rfl ?_
      obtain ⟨⟨v7, v8⟩, e9, hf⟩ := ya_ob hf
      refine g_vi (q := (RX5, TX5, 19)) (wr := [(A_t 3, eI cI 6 c_t_partOf), (A_t 4, eI cI 6 c_t_place), (A_t 5, eJ cJ 36 c_t_matrix), (A_t 6, eJ cJ 6 c_t_right), (A_t 7, eJ cJ 6 c_t_force), (A_t 8, eJ cJ 216 c_t_work)]) (ws' := [(A_t 3, eI cI 6 c_t_partOf), (A_t 4, eI cI 6 c_t_place), (A_t 5, eJ cJ 36 c_t_matrix), (A_t 6, eJ cJ 6 c_t_right), (A_t 7, eJ cJ 6 c_t_force), (A_t 8, eJ cJ 216 c_t_work), (h_t, oR A_t c_t_many c_t_below c_t_above1 c_t_below1), (A_t 0, eI cI 242 c_t_now), (A_t 2, eI cI 6 v8)]) Γ (fun sz => mX5_isSpare (l := l) (D := D) (sz := sz) (cI := cI) (cJ := cJ) (cZ := cZ) (cW := cW) (cR := cR) (h_t := h_t) (A_t := A_t) (hf := e9)) eX5_isSpare gX5_fall_X5_isSpare rfl rfl 0 rfl rfl rfl (Nat.le_of_ble_eq_true rfl) ⟨Nat.le_of_ble_eq_true rfl, Nat.le_of_ble_eq_true rfl⟩ dX5_fall_17 [7, 8, 0] [1, 2, 3, 4, 5, 6] rfl rfl rfl rfl (by decide) rfl ?_
      refine g_if_ne Γ 27 dX5_fall_20 (by decide) (fun c10 => ?_) (fun c10 => ?_)
      · have hf := ya_if2 c10 hf
        refine g_aload_n Γ 0 dX5_fall_27 rfl ?_
        refine g_iload_n Γ 1 dX5_fall_28 rfl ?_
        obtain ⟨⟨v11, v12, v13, v14, v15, v16, v17, v18, v19, v20, v21⟩, e22, hf⟩ := ya_ob hf
        refine g_vv (q := (RX5, TX5, 19)) (wr := []) (ws' := [(h_t, oR A_t c_t_many v11 v12 v13), (A_t 0, eI cI 242 v14), (A_t 2, eI cI 6 v15), (A_t 3, eI cI 6 v16), (A_t 4, eI cI 6 v17), (A_t 5, eJ cJ 36 v18), (A_t 6, eJ cJ 6 v19), (A_t 7, eJ cJ 6 v20), (A_t 8, eJ cJ 216 v21)]) Γ (fun sz => mX5_fallOf (l := l) (D := D) (sz := sz) (cI := cI) (cJ := cJ) (cZ := cZ) (cW := cW) (cR := cR) (h_t := h_t) (A_t := A_t) (hf := e22)) eX5_fallOf gX5_fall_X5_fallOf rfl rfl 0 rfl rfl rfl (Nat.le_of_ble_eq_true rfl) ⟨Nat.le_of_ble_eq_true rfl, Nat.le_of_ble_eq_true rfl⟩ dX5_fall_29 [6, 7, 8, 0, 1, 2, 3, 4, 5] [] rfl rfl rfl rfl (by decide) rfl ?_
        refine g_iload_n Γ 2 dX5_fall_32 rfl ?_
        refine g_if_ne Γ 43 dX5_fall_33 (by decide) (fun c23 => ?_) (fun c23 => ?_)
        · have hf := ya_if2 c23 hf
          refine g_aload_n Γ 0 dX5_fall_43 rfl ?_
          refine g_get Γ fX5_fall_152 0 rfl rfl dX5_fall_44 ?_
          cases hf
          exact g_lret Γ hr dX5_fall_47 [0, 1, 2, 3, 4, 5, 6, 7, 8] rfl rfl
        · have hf := ya_if1 c23 hf
          refine g_aload_n Γ 0 dX5_fall_36 rfl ?_
          refine g_get Γ fX5_fall_149 0 rfl rfl dX5_fall_37 ?_
          refine g_goto Γ 47 dX5_fall_40 (by decide) ?_
          cases hf
          exact g_lret Γ hr dX5_fall_47 [0, 1, 2, 3, 4, 5, 6, 7, 8] rfl rfl
      · have hf := ya_if1 c10 hf
        refine g_ldc2 (v := (-1)) Γ dX5_fall_23 (by decide +kernel) ?_
        cases hf
        exact g_lret Γ hr dX5_fall_26 [6, 7, 8, 0, 1, 2, 3, 4, 5] rfl rfl

set_option maxRecDepth 20000 in
theorem ggX5_lie_X5_isFlow : GoodIn wsX5_lie wsX5_isFlow := goodIn_r _ [7, 8, 9, 10, 6, 11, 12, 13, 14, 15, 81, 82, 83, 84, 85, 86, 87, 88, 89, 90, 91, 92, 93, 94, 95, 96, 97, 98, 99] rfl (by decide +kernel)
set_option maxRecDepth 20000 in
theorem gX5_lie_X5_isFlow : GoodIn wsX5_lie (wsV RX5 83 RX5 yX5_isFlow wsX5_isFlow) := goodIn_app (goodIn_of _ (by decide +kernel)) ggX5_lie_X5_isFlow
set_option maxRecDepth 20000 in
theorem ggX5_lie_X5_isWhat : GoodIn wsX5_lie wsX5_isWhat := goodIn_r _ [18] rfl (by decide +kernel)
set_option maxRecDepth 20000 in
theorem gX5_lie_X5_isWhat : GoodIn wsX5_lie (va_wsS RX5 114 yX5_isWhat wsX5_isWhat) := goodIn_app (goodIn_of _ (by decide +kernel)) ggX5_lie_X5_isWhat
set_option maxRecDepth 20000 in
theorem ggX5_lie_X5_isSpare : GoodIn wsX5_lie wsX5_isSpare := goodIn_r _ [22, 23, 24, 25, 26, 6, 27, 8, 9, 10, 11, 12, 28, 29, 30, 31, 32, 33, 34, 35, 81, 82, 83, 84, 85, 86, 87, 88, 89, 90, 91, 92, 93, 94, 95, 96, 97, 98, 99] rfl (by decide +kernel)
set_option maxRecDepth 20000 in
theorem gX5_lie_X5_isSpare : GoodIn wsX5_lie (wsV RX5 146 RX5 yX5_isSpare wsX5_isSpare) := goodIn_app (goodIn_of _ (by decide +kernel)) ggX5_lie_X5_isSpare
set_option maxRecDepth 20000 in
theorem ggX5_lie_X5_set : GoodIn wsX5_lie wsX5_set := goodIn_r _ [39, 12, 81, 82, 83, 84, 85, 86, 87, 88, 89, 90, 91, 92, 93, 94, 95, 96, 97, 98, 99] rfl (by decide +kernel)
set_option maxRecDepth 20000 in
theorem gX5_lie_X5_set : GoodIn wsX5_lie (wsV RX5 79 RX5 yX5_set wsX5_set) := goodIn_app (goodIn_of _ (by decide +kernel)) ggX5_lie_X5_set
set_option maxRecDepth 20000 in
theorem ggX5_lie_X5_solves : GoodIn wsX5_lie wsX5_solves := goodIn_r _ [43, 44, 23, 45, 46, 47, 48, 2, 49, 24, 25, 26, 6, 27, 8, 9, 10, 11, 12, 28, 29, 30, 31, 32, 33, 34, 35, 50, 51, 52, 53, 54, 55, 56, 57, 58, 59, 60, 61, 81, 82, 83, 84, 85, 86, 87, 88, 89, 90, 91, 92, 93, 94, 95, 96, 97, 98, 99] rfl (by decide +kernel)
set_option maxRecDepth 20000 in
theorem gX5_lie_X5_solves : GoodIn wsX5_lie (wsV RX5 117 RX5 yX5_solves wsX5_solves) := goodIn_app (goodIn_of _ (by decide +kernel)) ggX5_lie_X5_solves
set_option maxRecDepth 20000 in
theorem ggX5_lie_X5_get : GoodIn wsX5_lie wsX5_get := goodIn_r _ [35, 12, 81, 82, 83, 84, 85, 86, 87, 88, 89, 90, 91, 92, 93, 94, 95, 96, 97, 98, 99] rfl (by decide +kernel)
set_option maxRecDepth 20000 in
theorem gX5_lie_X5_get : GoodIn wsX5_lie (wsV RX5 86 RX5 yX5_get wsX5_get) := goodIn_app (goodIn_of _ (by decide +kernel)) ggX5_lie_X5_get
set_option maxRecDepth 20000 in
theorem ggX5_lie_X5_valueOf : GoodIn wsX5_lie wsX5_valueOf := goodIn_r _ [65, 2, 66, 28, 29, 30, 6, 31, 32, 33, 34, 35, 12, 67, 68, 69, 70, 49, 23, 71, 72, 73, 74, 8, 9, 10, 11, 81, 82, 83, 84, 85, 86, 87, 88, 89, 90, 91, 92, 93, 94, 95, 96, 97, 98, 99] rfl (by decide +kernel)
set_option maxRecDepth 20000 in
theorem gX5_lie_X5_valueOf : GoodIn wsX5_lie (wsV RX5 139 RX5 yX5_valueOf wsX5_valueOf) := goodIn_app (goodIn_of _ (by decide +kernel)) ggX5_lie_X5_valueOf
set_option maxRecDepth 20000 in
theorem ggX5_lie_X5_told : GoodIn wsX5_lie wsX5_told := goodIn_r _ [77, 1, 78, 79, 6, 80] rfl (by decide +kernel)
set_option maxRecDepth 20000 in
theorem gX5_lie_X5_told : GoodIn wsX5_lie (va_wsS RX5 124 yX5_told wsX5_told) := goodIn_app (goodIn_of _ (by decide +kernel)) ggX5_lie_X5_told
theorem dX5_lie_0 : decode cX5_lie 0 = .ok (.aload_n 0, 1) := by decide +kernel
theorem dX5_lie_1 : decode cX5_lie 1 = .ok (.iload_n 1, 1) := by decide +kernel
theorem dX5_lie_2 : decode cX5_lie 2 = .ok (.invokevirtual 83, 3) := by decide +kernel
theorem dX5_lie_5 : decode cX5_lie 5 = .ok (.ifCond .eq 18, 3) := by decide +kernel
theorem dX5_lie_8 : decode cX5_lie 8 = .ok (.iload_n 2, 1) := by decide +kernel
theorem dX5_lie_9 : decode cX5_lie 9 = .ok (.invokestatic 114, 3) := by decide +kernel
theorem dX5_lie_12 : decode cX5_lie 12 = .ok (.ifCond .eq 11, 3) := by decide +kernel
theorem dX5_lie_15 : decode cX5_lie 15 = .ok (.aload_n 0, 1) := by decide +kernel
theorem dX5_lie_16 : decode cX5_lie 16 = .ok (.iload_n 1, 1) := by decide +kernel
theorem dX5_lie_17 : decode cX5_lie 17 = .ok (.invokevirtual 146, 3) := by decide +kernel
theorem dX5_lie_20 : decode cX5_lie 20 = .ok (.ifCond .ne 7, 3) := by decide +kernel
theorem dX5_lie_23 : decode cX5_lie 23 = .ok (.ldc2_w 112, 3) := by decide +kernel
theorem dX5_lie_26 : decode cX5_lie 26 = .ok (.lreturn, 1) := by decide +kernel
theorem dX5_lie_27 : decode cX5_lie 27 = .ok (.aload_n 0, 1) := by decide +kernel
theorem dX5_lie_28 : decode cX5_lie 28 = .ok (.iload_n 1, 1) := by decide +kernel
theorem dX5_lie_29 : decode cX5_lie 29 = .ok (.iconst 2, 1) := by decide +kernel
theorem dX5_lie_30 : decode cX5_lie 30 = .ok (.iconst 0, 1) := by decide +kernel
theorem dX5_lie_31 : decode cX5_lie 31 = .ok (.invokevirtual 79, 3) := by decide +kernel
theorem dX5_lie_34 : decode cX5_lie 34 = .ok (.aload_n 0, 1) := by decide +kernel
theorem dX5_lie_35 : decode cX5_lie 35 = .ok (.invokevirtual 117, 3) := by decide +kernel
theorem dX5_lie_38 : decode cX5_lie 38 = .ok (.aload_n 0, 1) := by decide +kernel
theorem dX5_lie_39 : decode cX5_lie 39 = .ok (.iload_n 1, 1) := by decide +kernel
theorem dX5_lie_40 : decode cX5_lie 40 = .ok (.iconst 3, 1) := by decide +kernel
theorem dX5_lie_41 : decode cX5_lie 41 = .ok (.invokevirtual 86, 3) := by decide +kernel
theorem dX5_lie_44 : decode cX5_lie 44 = .ok (.i2l, 1) := by decide +kernel
theorem dX5_lie_45 : decode cX5_lie 45 = .ok (.aload_n 0, 1) := by decide +kernel
theorem dX5_lie_46 : decode cX5_lie 46 = .ok (.getfield 104, 3) := by decide +kernel
theorem dX5_lie_49 : decode cX5_lie 49 = .ok (.lmul, 1) := by decide +kernel
theorem dX5_lie_50 : decode cX5_lie 50 = .ok (.aload_n 0, 1) := by decide +kernel
theorem dX5_lie_51 : decode cX5_lie 51 = .ok (.iload_n 1, 1) := by decide +kernel
theorem dX5_lie_52 : decode cX5_lie 52 = .ok (.invokevirtual 139, 3) := by decide +kernel
theorem dX5_lie_55 : decode cX5_lie 55 = .ok (.lsub, 1) := by decide +kernel
theorem dX5_lie_56 : decode cX5_lie 56 = .ok (.lstore_n 3, 1) := by decide +kernel
theorem dX5_lie_57 : decode cX5_lie 57 = .ok (.aload_n 0, 1) := by decide +kernel
theorem dX5_lie_58 : decode cX5_lie 58 = .ok (.getfield 104, 3) := by decide +kernel
theorem dX5_lie_61 : decode cX5_lie 61 = .ok (.lstore 5, 2) := by decide +kernel
theorem dX5_lie_63 : decode cX5_lie 63 = .ok (.aload_n 0, 1) := by decide +kernel
theorem dX5_lie_64 : decode cX5_lie 64 = .ok (.iload_n 1, 1) := by decide +kernel
theorem dX5_lie_65 : decode cX5_lie 65 = .ok (.iconst 2, 1) := by decide +kernel
theorem dX5_lie_66 : decode cX5_lie 66 = .ok (.iconst 1, 1) := by decide +kernel
theorem dX5_lie_67 : decode cX5_lie 67 = .ok (.invokevirtual 79, 3) := by decide +kernel
theorem dX5_lie_70 : decode cX5_lie 70 = .ok (.lload_n 3, 1) := by decide +kernel
theorem dX5_lie_71 : decode cX5_lie 71 = .ok (.lload 5, 2) := by decide +kernel
theorem dX5_lie_73 : decode cX5_lie 73 = .ok (.iload_n 2, 1) := by decide +kernel
theorem dX5_lie_74 : decode cX5_lie 74 = .ok (.invokestatic 124, 3) := by decide +kernel
theorem dX5_lie_77 : decode cX5_lie 77 = .ok (.lreturn, 1) := by decide +kernel
/-! ===== FlowMetersModel.lie(II)J ===== -/
def fX5_lie (N : Nat) (c_t_below : Int64) (c_t_now : Nat → Int32) (c_t_heapOf : Nat → Int32) (c_t_partOf : Nat → Int32) (c_t_place : Nat → Int32) (c_t_matrix : Nat → Int64) (c_t_right : Nat → Int64) (c_t_force : Nat → Int64) (c_t_work : Nat → Int64) (c_t_side : Nat → Int32) (x1 : Int32) (x2 : Int32) : Option (Int64 × Int64 × (Nat → Int32) × (Nat → Int32) × (Nat → Int32) × (Nat → Int32) × (Nat → Int64) × (Nat → Int64) × (Nat → Int64) × (Nat → Int64) × (Nat → Int32)) :=
  (fX5_isFlow c_t_now x1).bind fun v1 =>
  (if v1 = 0 then
    some ((-1), c_t_below, c_t_now, c_t_heapOf, c_t_partOf, c_t_place, c_t_matrix, c_t_right, c_t_force, c_t_work, c_t_side)
  else
    (fX5_isWhat x2).bind fun v4 =>
    (if v4 = 0 then
      some ((-1), c_t_below, c_t_now, c_t_heapOf, c_t_partOf, c_t_place, c_t_matrix, c_t_right, c_t_force, c_t_work, c_t_side)
    else
      (fX5_isSpare N c_t_now c_t_heapOf x1).bind fun (v7, v8) =>
      (if v7 = 0 then
        some ((-1), c_t_below, c_t_now, v8, c_t_partOf, c_t_place, c_t_matrix, c_t_right, c_t_force, c_t_work, c_t_side)
      else
        (fX5_set c_t_now x1 2 0).bind fun v11 =>
        (fX5_solves N c_t_below v11 v8 c_t_partOf c_t_place c_t_matrix c_t_right c_t_force c_t_work).bind fun (v13, v14, v15, v16, v17, v18, v19, v20) =>
        (fX5_get v11 x1 3).bind fun v22 =>
        (fX5_valueOf N v13 v11 v14 v19 c_t_side x1).bind fun (v24, v25) =>
        ya_lt (((Int32.toInt64 v22) * v13) - v24) fun v27 =>
        (fX5_set v11 x1 2 1).bind fun v29 =>
        (fX5_told N v27 v13 x2).bind fun v31 =>
        some (v31, v13, v29, v14, v15, v16, v17, v18, v19, v20, v25))))
theorem fX5_lie_104 : yF wsX5_lie RX5 104 5 10 RX5 TX5 19 := ⟨rfl, by decide, by decide +kernel, by decide +kernel⟩
abbrev rmX5_lie : Room := { frames := 9, cells := 0, slots := 0, locals := 336 }
theorem eX5_lie : yY yX5_lie wsX5_lie cX5_lie 7 (some .long) rmX5_lie 2 := ⟨⟨_, rfl⟩, rfl, rfl, by decide, by decide, by decide +kernel⟩
set_option maxHeartbeats 4000000 in
set_option maxRecDepth 100000 in
theorem mX5_lie {l : Launch} {D : va_G} {sz : Nat} {cI cJ cZ cW cR : ClassId} {N : Nat} {h_t : Nat} {A_t : Nat → Nat} {c_t_many : Int32} {c_t_below : Int64} {c_t_above1 : Int64} {c_t_below1 : Int64} {c_t_now : Nat → Int32} {c_t_heapOf : Nat → Int32} {c_t_partOf : Nat → Int32} {c_t_place : Nat → Int32} {c_t_matrix : Nat → Int64} {c_t_right : Nat → Int64} {c_t_force : Nat → Int64} {c_t_work : Nat → Int64} {c_t_side : Nat → Int32} {x1 : Int32} {x2 : Int32} {r : Int64} {zc_t_below : Int64} {zc_t_now : Nat → Int32} {zc_t_heapOf : Nat → Int32} {zc_t_partOf : Nat → Int32} {zc_t_place : Nat → Int32} {zc_t_matrix : Nat → Int64} {zc_t_right : Nat → Int64} {zc_t_force : Nat → Int64} {zc_t_work : Nat → Int64} {zc_t_side : Nat → Int32} (hf : fX5_lie N c_t_below c_t_now c_t_heapOf c_t_partOf c_t_place c_t_matrix c_t_right c_t_force c_t_work c_t_side x1 x2 = some (r, zc_t_below, zc_t_now, zc_t_heapOf, zc_t_partOf, zc_t_place, zc_t_matrix, zc_t_right, zc_t_force, zc_t_work, zc_t_side)) : Met l yX5_lie wsX5_lie rmX5_lie (yP D (yT cI cJ cZ cW cR) [(h_t, oR A_t c_t_many c_t_below c_t_above1 c_t_below1), (A_t 0, eI cI 242 c_t_now), (A_t 2, eI cI 6 c_t_heapOf), (A_t 3, eI cI 6 c_t_partOf), (A_t 4, eI cI 6 c_t_place), (A_t 5, eJ cJ 36 c_t_matrix), (A_t 6, eJ cJ 6 c_t_right), (A_t 7, eJ cJ 6 c_t_force), (A_t 8, eJ cJ 216 c_t_work), (A_t 9, eI cZ 6 c_t_side)] sz [.ref h_t, .int x1, .int x2]) (yQl D (yT cI cJ cZ cW cR) r [(h_t, oR A_t c_t_many zc_t_below c_t_above1 c_t_below1), (A_t 0, eI cI 242 zc_t_now), (A_t 2, eI cI 6 zc_t_heapOf), (A_t 3, eI cI 6 zc_t_partOf), (A_t 4, eI cI 6 zc_t_place), (A_t 5, eJ cJ 36 zc_t_matrix), (A_t 6, eJ cJ 6 zc_t_right), (A_t 7, eJ cJ 6 zc_t_force), (A_t 8, eJ cJ 216 zc_t_work), (A_t 9, eI cZ 6 zc_t_side)] (va_A [(h_t, oR A_t c_t_many c_t_below c_t_above1 c_t_below1), (A_t 0, eI cI 242 c_t_now), (A_t 2, eI cI 6 c_t_heapOf), (A_t 3, eI cI 6 c_t_partOf), (A_t 4, eI cI 6 c_t_place), (A_t 5, eJ cJ 36 c_t_matrix), (A_t 6, eJ cJ 6 c_t_right), (A_t 7, eJ cJ 6 c_t_force), (A_t 8, eJ cJ 216 c_t_work), (A_t 9, eI cZ 6 c_t_side)] sz)) 0 0 (va_A [(h_t, oR A_t c_t_many c_t_below c_t_above1 c_t_below1), (A_t 0, eI cI 242 c_t_now), (A_t 2, eI cI 6 c_t_heapOf), (A_t 3, eI cI 6 c_t_partOf), (A_t 4, eI cI 6 c_t_place), (A_t 5, eJ cJ 36 c_t_matrix), (A_t 6, eJ cJ 6 c_t_right), (A_t 7, eJ cJ 6 c_t_force), (A_t 8, eJ cJ 216 c_t_work), (A_t 9, eI cZ 6 c_t_side)] sz) := by
  refine yM (cc := cX5_lie) (maxL := 7) (ret := (some .long)) RX5 (by decide) rfl rfl (Nat.le_of_ble_eq_true rfl) ?_
  intro p e s m below meth c Γ hr
  show yG p l e (headSpec wsX5_lie rmX5_lie).room s m (List.toArray [.ref h_t, .int x1, .int x2]) below meth c D (va_A [(h_t, oR A_t c_t_many c_t_below c_t_above1 c_t_below1), (A_t 0, eI cI 242 c_t_now), (A_t 2, eI cI 6 c_t_heapOf), (A_t 3, eI cI 6 c_t_partOf), (A_t 4, eI cI 6 c_t_place), (A_t 5, eJ cJ 36 c_t_matrix), (A_t 6, eJ cJ 6 c_t_right), (A_t 7, eJ cJ 6 c_t_force), (A_t 8, eJ cJ 216 c_t_work), (A_t 9, eI cZ 6 c_t_side)] sz) 7 0 0 (MQ below (yQl D (yT cI cJ cZ cW cR) r [(h_t, oR A_t c_t_many zc_t_below c_t_above1 c_t_below1), (A_t 0, eI cI 242 zc_t_now), (A_t 2, eI cI 6 zc_t_heapOf), (A_t 3, eI cI 6 zc_t_partOf), (A_t 4, eI cI 6 zc_t_place), (A_t 5, eJ cJ 36 zc_t_matrix), (A_t 6, eJ cJ 6 zc_t_right), (A_t 7, eJ cJ 6 zc_t_force), (A_t 8, eJ cJ 216 zc_t_work), (A_t 9, eI cZ 6 zc_t_side)] (va_A [(h_t, oR A_t c_t_many c_t_below c_t_above1 c_t_below1), (A_t 0, eI cI 242 c_t_now), (A_t 2, eI cI 6 c_t_heapOf), (A_t 3, eI cI 6 c_t_partOf), (A_t 4, eI cI 6 c_t_place), (A_t 5, eJ cJ 36 c_t_matrix), (A_t 6, eJ cJ 6 c_t_right), (A_t 7, eJ cJ 6 c_t_force), (A_t 8, eJ cJ 216 c_t_work), (A_t 9, eI cZ 6 c_t_side)] sz)) (List.toArray [.ref h_t, .int x1, .int x2]) s 0 0 (va_A [(h_t, oR A_t c_t_many c_t_below c_t_above1 c_t_below1), (A_t 0, eI cI 242 c_t_now), (A_t 2, eI cI 6 c_t_heapOf), (A_t 3, eI cI 6 c_t_partOf), (A_t 4, eI cI 6 c_t_place), (A_t 5, eJ cJ 36 c_t_matrix), (A_t 6, eJ cJ 6 c_t_right), (A_t 7, eJ cJ 6 c_t_force), (A_t 8, eJ cJ 216 c_t_work), (A_t 9, eI cZ 6 c_t_side)] sz)) 0 [(0, .ref h_t), (1, .int x1), (2, .int x2)] [] [(h_t, oR A_t c_t_many c_t_below c_t_above1 c_t_below1), (A_t 0, eI cI 242 c_t_now), (A_t 2, eI cI 6 c_t_heapOf), (A_t 3, eI cI 6 c_t_partOf), (A_t 4, eI cI 6 c_t_place), (A_t 5, eJ cJ 36 c_t_matrix), (A_t 6, eJ cJ 6 c_t_right), (A_t 7, eJ cJ 6 c_t_force), (A_t 8, eJ cJ 216 c_t_work), (A_t 9, eI cZ 6 c_t_side)]
  unfold fX5_lie at hf
  refine g_aload_n Γ 0 dX5_lie_0 rfl ?_
  refine g_iload_n Γ 1 dX5_lie_1 rfl ?_
  obtain ⟨v1, e2, hf⟩ := ya_ob hf
  refine g_vi (q := (RX5, TX5, 19)) (wr := [(A_t 2, eI cI 6 c_t_heapOf), (A_t 3, eI cI 6 c_t_partOf), (A_t 4, eI cI 6 c_t_place), (A_t 5, eJ cJ 36 c_t_matrix), (A_t 6, eJ cJ 6 c_t_right), (A_t 7, eJ cJ 6 c_t_force), (A_t 8, eJ cJ 216 c_t_work), (A_t 9, eI cZ 6 c_t_side)]) (ws' := [(A_t 2, eI cI 6 c_t_heapOf), (A_t 3, eI cI 6 c_t_partOf), (A_t 4, eI cI 6 c_t_place), (A_t 5, eJ cJ 36 c_t_matrix), (A_t 6, eJ cJ 6 c_t_right), (A_t 7, eJ cJ 6 c_t_force), (A_t 8, eJ cJ 216 c_t_work), (A_t 9, eI cZ 6 c_t_side), (h_t, oR A_t c_t_many c_t_below c_t_above1 c_t_below1), (A_t 0, eI cI 242 c_t_now)]) Γ (fun sz => mX5_isFlow (l := l) (D := D) (sz := sz) (cI := cI) (cJ := cJ) (cZ := cZ) (cW := cW) (cR := cR) (h_t := h_t) (A_t := A_t) (hf := e2)) eX5_isFlow gX5_lie_X5_isFlow rfl rfl 0 rfl rfl rfl (Nat.le_of_ble_eq_true rfl) ⟨Nat.le_of_ble_eq_true rfl, Nat.le_of_ble_eq_true rfl⟩ dX5_lie_2 [0, 1] [2, 3, 4, 5, 6, 7, 8, 9] rfl rfl rfl rfl (by decide) rfl ?_
  refine g_if_eq Γ 23 dX5_lie_5 (by decide) (fun c3 => ?_) (fun c3 => ?_)
  · have hf := ya_if1 c3 hf
    refine g_ldc2 (v := (-1)) Γ dX5_lie_23 (by decide +kernel) ?_
    cases hf
    exact g_lret Γ hr dX5_lie_26 [8, 9, 0, 1, 2, 3, 4, 5, 6, 7] rfl rfl
  · have hf := ya_if2 c3 hf
    refine g_iload_n Γ 2 dX5_lie_8 rfl ?_
    obtain ⟨v4, e5, hf⟩ := ya_ob hf
    refine g_si (wr := [(A_t 2, eI cI 6 c_t_heapOf), (A_t 3, eI cI 6 c_t_partOf), (A_t 4, eI cI 6 c_t_place), (A_t 5, eJ cJ 36 c_t_matrix), (A_t 6, eJ cJ 6 c_t_right), (A_t 7, eJ cJ 6 c_t_force), (A_t 8, eJ cJ 216 c_t_work), (A_t 9, eI cZ 6 c_t_side), (h_t, oR A_t c_t_many c_t_below c_t_above1 c_t_below1), (A_t 0, eI cI 242 c_t_now)]) (ws' := [(A_t 2, eI cI 6 c_t_heapOf), (A_t 3, eI cI 6 c_t_partOf), (A_t 4, eI cI 6 c_t_place), (A_t 5, eJ cJ 36 c_t_matrix), (A_t 6, eJ cJ 6 c_t_right), (A_t 7, eJ cJ 6 c_t_force), (A_t 8, eJ cJ 216 c_t_work), (A_t 9, eI cZ 6 c_t_side), (h_t, oR A_t c_t_many c_t_below c_t_above1 c_t_below1), (A_t 0, eI cI 242 c_t_now)]) Γ (fun sz => mX5_isWhat (l := l) (D := D) (sz := sz) (cI := cI) (cJ := cJ) (cZ := cZ) (cW := cW) (cR := cR)  (hf := e5)) eX5_isWhat ggX5_lie_X5_isWhat (by decide +kernel) (by decide +kernel) (by decide +kernel) rfl rfl (Nat.le_of_ble_eq_true rfl) ⟨Nat.le_of_ble_eq_true rfl, Nat.le_of_ble_eq_true rfl⟩ dX5_lie_9 [] [0, 1, 2, 3, 4, 5, 6, 7, 8, 9] rfl rfl rfl rfl (by decide) rfl ?_
    refine g_if_eq Γ 23 dX5_lie_12 (by decide) (fun c6 => ?_) (fun c6 => ?_)
    · have hf := ya_if1 c6 hf
      refine g_ldc2 (v := (-1)) Γ dX5_lie_23 (by decide +kernel) ?_
      cases hf
      exact g_lret Γ hr dX5_lie_26 [8, 9, 0, 1, 2, 3, 4, 5, 6, 7] rfl rfl
    · have hf := ya_if2 c6 hf
      refine g_aload_n Γ 0 dX5_lie_15 rfl ?_
      refine g_iload_n Γ 1 dX5_lie_16 rfl ?_
      obtain ⟨⟨v7, v8⟩, e9, hf⟩ := ya_ob hf
      refine g_vi (q := (RX5, TX5, 19)) (wr := [(A_t 3, eI cI 6 c_t_partOf), (A_t 4, eI cI 6 c_t_place), (A_t 5, eJ cJ 36 c_t_matrix), (A_t 6, eJ cJ 6 c_t_right), (A_t 7, eJ cJ 6 c_t_force), (A_t 8, eJ cJ 216 c_t_work), (A_t 9, eI cZ 6 c_t_side)]) (ws' := [(A_t 3, eI cI 6 c_t_partOf), (A_t 4, eI cI 6 c_t_place), (A_t 5, eJ cJ 36 c_t_matrix), (A_t 6, eJ cJ 6 c_t_right), (A_t 7, eJ cJ 6 c_t_force), (A_t 8, eJ cJ 216 c_t_work), (A_t 9, eI cZ 6 c_t_side), (h_t, oR A_t c_t_many c_t_below c_t_above1 c_t_below1), (A_t 0, eI cI 242 c_t_now), (A_t 2, eI cI 6 v8)]) Γ (fun sz => mX5_isSpare (l := l) (D := D) (sz := sz) (cI := cI) (cJ := cJ) (cZ := cZ) (cW := cW) (cR := cR) (h_t := h_t) (A_t := A_t) (hf := e9)) eX5_isSpare gX5_lie_X5_isSpare rfl rfl 0 rfl rfl rfl (Nat.le_of_ble_eq_true rfl) ⟨Nat.le_of_ble_eq_true rfl, Nat.le_of_ble_eq_true rfl⟩ dX5_lie_17 [8, 9, 0] [1, 2, 3, 4, 5, 6, 7] rfl rfl rfl rfl (by decide) rfl ?_
      refine g_if_ne Γ 27 dX5_lie_20 (by decide) (fun c10 => ?_) (fun c10 => ?_)
      · have hf := ya_if2 c10 hf
        refine g_aload_n Γ 0 dX5_lie_27 rfl ?_
        refine g_iload_n Γ 1 dX5_lie_28 rfl ?_
        refine g_iconst (v := 2) Γ dX5_lie_29 (by decide) ?_
        refine g_iconst (v := 0) Γ dX5_lie_30 (by decide) ?_
        obtain ⟨v11, e12, hf⟩ := ya_ob hf
        refine g_vv (q := (RX5, TX5, 19)) (wr := [(A_t 3, eI cI 6 c_t_partOf), (A_t 4, eI cI 6 c_t_place), (A_t 5, eJ cJ 36 c_t_matrix), (A_t 6, eJ cJ 6 c_t_right), (A_t 7, eJ cJ 6 c_t_force), (A_t 8, eJ cJ 216 c_t_work), (A_t 9, eI cZ 6 c_t_side), (A_t 2, eI cI 6 v8)]) (ws' := [(A_t 3, eI cI 6 c_t_partOf), (A_t 4, eI cI 6 c_t_place), (A_t 5, eJ cJ 36 c_t_matrix), (A_t 6, eJ cJ 6 c_t_right), (A_t 7, eJ cJ 6 c_t_force), (A_t 8, eJ cJ 216 c_t_work), (A_t 9, eI cZ 6 c_t_side), (A_t 2, eI cI 6 v8), (h_t, oR A_t c_t_many c_t_below c_t_above1 c_t_below1), (A_t 0, eI cI 242 v11)]) Γ (fun sz => mX5_set (l := l) (D := D) (sz := sz) (cI := cI) (cJ := cJ) (cZ := cZ) (cW := cW) (cR := cR) (h_t := h_t) (A_t := A_t) (hf := e12)) eX5_set gX5_lie_X5_set rfl rfl 0 rfl rfl rfl (Nat.le_of_ble_eq_true rfl) ⟨Nat.le_of_ble_eq_true rfl, Nat.le_of_ble_eq_true rfl⟩ dX5_lie_31 [7, 8] [0, 1, 2, 3, 4, 5, 6, 9] rfl rfl rfl rfl (by decide) rfl ?_
        refine g_aload_n Γ 0 dX5_lie_34 rfl ?_
        obtain ⟨⟨v13, v14, v15, v16, v17, v18, v19, v20⟩, e21, hf⟩ := ya_ob hf
        refine g_vv (q := (RX5, TX5, 19)) (wr := [(A_t 9, eI cZ 6 c_t_side)]) (ws' := [(A_t 9, eI cZ 6 c_t_side), (h_t, oR A_t c_t_many v13 c_t_above1 c_t_below1), (A_t 0, eI cI 242 v11), (A_t 2, eI cI 6 v14), (A_t 3, eI cI 6 v15), (A_t 4, eI cI 6 v16), (A_t 5, eJ cJ 36 v17), (A_t 6, eJ cJ 6 v18), (A_t 7, eJ cJ 6 v19), (A_t 8, eJ cJ 216 v20)]) Γ (fun sz => mX5_solves (l := l) (D := D) (sz := sz) (cI := cI) (cJ := cJ) (cZ := cZ) (cW := cW) (cR := cR) (h_t := h_t) (A_t := A_t) (hf := e21)) eX5_solves gX5_lie_X5_solves rfl rfl 0 rfl rfl rfl (Nat.le_of_ble_eq_true rfl) ⟨Nat.le_of_ble_eq_true rfl, Nat.le_of_ble_eq_true rfl⟩ dX5_lie_35 [8, 9, 7, 0, 1, 2, 3, 4, 5] [6] rfl rfl rfl rfl (by decide) rfl ?_
        refine g_aload_n Γ 0 dX5_lie_38 rfl ?_
        refine g_iload_n Γ 1 dX5_lie_39 rfl ?_
        refine g_iconst (v := 3) Γ dX5_lie_40 (by decide) ?_
        obtain ⟨v22, e23, hf⟩ := ya_ob hf
        refine g_vi (q := (RX5, TX5, 19)) (wr := [(A_t 9, eI cZ 6 c_t_side), (A_t 2, eI cI 6 v14), (A_t 3, eI cI 6 v15), (A_t 4, eI cI 6 v16), (A_t 5, eJ cJ 36 v17), (A_t 6, eJ cJ 6 v18), (A_t 7, eJ cJ 6 v19), (A_t 8, eJ cJ 216 v20)]) (ws' := [(A_t 9, eI cZ 6 c_t_side), (A_t 2, eI cI 6 v14), (A_t 3, eI cI 6 v15), (A_t 4, eI cI 6 v16), (A_t 5, eJ cJ 36 v17), (A_t 6, eJ cJ 6 v18), (A_t 7, eJ cJ 6 v19), (A_t 8, eJ cJ 216 v20), (h_t, oR A_t c_t_many v13 c_t_above1 c_t_below1), (A_t 0, eI cI 242 v11)]) Γ (fun sz => mX5_get (l := l) (D := D) (sz := sz) (cI := cI) (cJ := cJ) (cZ := cZ) (cW := cW) (cR := cR) (h_t := h_t) (A_t := A_t) (hf := e23)) eX5_get gX5_lie_X5_get rfl rfl 0 rfl rfl rfl (Nat.le_of_ble_eq_true rfl) ⟨Nat.le_of_ble_eq_true rfl, Nat.le_of_ble_eq_true rfl⟩ dX5_lie_41 [1, 2] [0, 3, 4, 5, 6, 7, 8, 9] rfl rfl rfl rfl (by decide) rfl ?_
        refine g_i2l Γ dX5_lie_44 ?_
        refine g_aload_n Γ 0 dX5_lie_45 rfl ?_
        refine g_get Γ fX5_lie_104 8 rfl rfl dX5_lie_46 ?_
        refine g_lmul Γ dX5_lie_49 ?_
        refine g_aload_n Γ 0 dX5_lie_50 rfl ?_
        refine g_iload_n Γ 1 dX5_lie_51 rfl ?_
        obtain ⟨⟨v24, v25⟩, e26, hf⟩ := ya_ob hf
        refine g_vl (q := (RX5, TX5, 19)) (wr := [(A_t 3, eI cI 6 v15), (A_t 4, eI cI 6 v16), (A_t 5, eJ cJ 36 v17), (A_t 6, eJ cJ 6 v18), (A_t 8, eJ cJ 216 v20)]) (ws' := [(A_t 3, eI cI 6 v15), (A_t 4, eI cI 6 v16), (A_t 5, eJ cJ 36 v17), (A_t 6, eJ cJ 6 v18), (A_t 8, eJ cJ 216 v20), (h_t, oR A_t c_t_many v13 c_t_above1 c_t_below1), (A_t 0, eI cI 242 v11), (A_t 2, eI cI 6 v14), (A_t 7, eJ cJ 6 v19), (A_t 9, eI cZ 6 v25)]) Γ (fun sz => mX5_valueOf (l := l) (D := D) (sz := sz) (cI := cI) (cJ := cJ) (cZ := cZ) (cW := cW) (cR := cR) (h_t := h_t) (A_t := A_t) (hf := e26)) eX5_valueOf gX5_lie_X5_valueOf rfl rfl 0 rfl rfl rfl (Nat.le_of_ble_eq_true rfl) ⟨Nat.le_of_ble_eq_true rfl, Nat.le_of_ble_eq_true rfl⟩ dX5_lie_52 [8, 9, 1, 6, 0] [2, 3, 4, 5, 7] rfl rfl rfl rfl (by decide) rfl ?_
        refine g_lsub Γ dX5_lie_55 ?_
        obtain ⟨v27, e28, hf⟩ := ya_lt_inv hf
        refine g_nml e28 ?_
        refine g_lstore_n (lv' := [(3, .long v27), (0, .ref h_t), (1, .int x1), (2, .int x2)]) Γ dX5_lie_56 (by decide) rfl ?_
        refine g_aload_n Γ 1 dX5_lie_57 rfl ?_
        refine g_get Γ fX5_lie_104 5 rfl rfl dX5_lie_58 ?_
        refine g_lstore (lv' := [(5, .long v13), (3, .long v27), (0, .ref h_t), (1, .int x1), (2, .int x2)]) Γ dX5_lie_61 (by decide) rfl ?_
        refine g_aload_n Γ 2 dX5_lie_63 rfl ?_
        refine g_iload_n Γ 3 dX5_lie_64 rfl ?_
        refine g_iconst (v := 2) Γ dX5_lie_65 (by decide) ?_
        refine g_iconst (v := 1) Γ dX5_lie_66 (by decide) ?_
        obtain ⟨v29, e30, hf⟩ := ya_ob hf
        refine g_vv (q := (RX5, TX5, 19)) (wr := [(A_t 3, eI cI 6 v15), (A_t 4, eI cI 6 v16), (A_t 5, eJ cJ 36 v17), (A_t 6, eJ cJ 6 v18), (A_t 8, eJ cJ 216 v20), (A_t 2, eI cI 6 v14), (A_t 7, eJ cJ 6 v19), (A_t 9, eI cZ 6 v25)]) (ws' := [(A_t 3, eI cI 6 v15), (A_t 4, eI cI 6 v16), (A_t 5, eJ cJ 36 v17), (A_t 6, eJ cJ 6 v18), (A_t 8, eJ cJ 216 v20), (A_t 2, eI cI 6 v14), (A_t 7, eJ cJ 6 v19), (A_t 9, eI cZ 6 v25), (h_t, oR A_t c_t_many v13 c_t_above1 c_t_below1), (A_t 0, eI cI 242 v29)]) Γ (fun sz => mX5_set (l := l) (D := D) (sz := sz) (cI := cI) (cJ := cJ) (cZ := cZ) (cW := cW) (cR := cR) (h_t := h_t) (A_t := A_t) (hf := e30)) eX5_set gX5_lie_X5_set rfl rfl 0 rfl rfl rfl (Nat.le_of_ble_eq_true rfl) ⟨Nat.le_of_ble_eq_true rfl, Nat.le_of_ble_eq_true rfl⟩ dX5_lie_67 [5, 6] [0, 1, 2, 3, 4, 7, 8, 9] rfl rfl rfl rfl (by decide) rfl ?_
        refine g_lload_n Γ 1 dX5_lie_70 rfl ?_
        refine g_lload Γ 0 dX5_lie_71 rfl ?_
        refine g_iload_n Γ 4 dX5_lie_73 rfl ?_
        obtain ⟨v31, e32, hf⟩ := ya_ob hf
        refine g_sl (wr := [(A_t 3, eI cI 6 v15), (A_t 4, eI cI 6 v16), (A_t 5, eJ cJ 36 v17), (A_t 6, eJ cJ 6 v18), (A_t 8, eJ cJ 216 v20), (A_t 2, eI cI 6 v14), (A_t 7, eJ cJ 6 v19), (A_t 9, eI cZ 6 v25), (h_t, oR A_t c_t_many v13 c_t_above1 c_t_below1), (A_t 0, eI cI 242 v29)]) (ws' := [(A_t 3, eI cI 6 v15), (A_t 4, eI cI 6 v16), (A_t 5, eJ cJ 36 v17), (A_t 6, eJ cJ 6 v18), (A_t 8, eJ cJ 216 v20), (A_t 2, eI cI 6 v14), (A_t 7, eJ cJ 6 v19), (A_t 9, eI cZ 6 v25), (h_t, oR A_t c_t_many v13 c_t_above1 c_t_below1), (A_t 0, eI cI 242 v29)]) Γ (fun sz => mX5_told (l := l) (D := D) (sz := sz) (cI := cI) (cJ := cJ) (cZ := cZ) (cW := cW) (cR := cR)  (hf := e32)) eX5_told ggX5_lie_X5_told (by decide +kernel) (by decide +kernel) (by decide +kernel) rfl rfl (Nat.le_of_ble_eq_true rfl) ⟨Nat.le_of_ble_eq_true rfl, Nat.le_of_ble_eq_true rfl⟩ dX5_lie_74 [] [0, 1, 2, 3, 4, 5, 6, 7, 8, 9] rfl rfl rfl rfl (by decide) rfl ?_
        cases hf
        exact g_lret Γ hr dX5_lie_77 [8, 9, 5, 0, 1, 2, 3, 6, 4, 7] rfl rfl
      · have hf := ya_if1 c10 hf
        refine g_ldc2 (v := (-1)) Γ dX5_lie_23 (by decide +kernel) ?_
        cases hf
        exact g_lret Γ hr dX5_lie_26 [7, 8, 9, 0, 1, 2, 3, 4, 5, 6] rfl rfl

theorem dX5_isMore_0 : decode cX5_isMore 0 = .ok (.lload_n 0, 1) := by decide +kernel
theorem dX5_isMore_1 : decode cX5_isMore 1 = .ok (.lstore 8, 2) := by decide +kernel
theorem dX5_isMore_3 : decode cX5_isMore 3 = .ok (.lload_n 2, 1) := by decide +kernel
theorem dX5_isMore_4 : decode cX5_isMore 4 = .ok (.lstore 10, 2) := by decide +kernel
theorem dX5_isMore_6 : decode cX5_isMore 6 = .ok (.lload 4, 2) := by decide +kernel
theorem dX5_isMore_8 : decode cX5_isMore 8 = .ok (.lstore 12, 2) := by decide +kernel
theorem dX5_isMore_10 : decode cX5_isMore 10 = .ok (.lload 6, 2) := by decide +kernel
theorem dX5_isMore_12 : decode cX5_isMore 12 = .ok (.lstore 14, 2) := by decide +kernel
theorem dX5_isMore_14 : decode cX5_isMore 14 = .ok (.iconst 0, 1) := by decide +kernel
theorem dX5_isMore_15 : decode cX5_isMore 15 = .ok (.istore 16, 2) := by decide +kernel
theorem dX5_isMore_17 : decode cX5_isMore 17 = .ok (.lload 8, 2) := by decide +kernel
theorem dX5_isMore_19 : decode cX5_isMore 19 = .ok (.lload 10, 2) := by decide +kernel
theorem dX5_isMore_21 : decode cX5_isMore 21 = .ok (.ldiv, 1) := by decide +kernel
theorem dX5_isMore_22 : decode cX5_isMore 22 = .ok (.lstore 17, 2) := by decide +kernel
theorem dX5_isMore_24 : decode cX5_isMore 24 = .ok (.lload 12, 2) := by decide +kernel
theorem dX5_isMore_26 : decode cX5_isMore 26 = .ok (.lload 14, 2) := by decide +kernel
theorem dX5_isMore_28 : decode cX5_isMore 28 = .ok (.ldiv, 1) := by decide +kernel
theorem dX5_isMore_29 : decode cX5_isMore 29 = .ok (.lstore 19, 2) := by decide +kernel
theorem dX5_isMore_31 : decode cX5_isMore 31 = .ok (.lload 17, 2) := by decide +kernel
theorem dX5_isMore_33 : decode cX5_isMore 33 = .ok (.lload 19, 2) := by decide +kernel
theorem dX5_isMore_35 : decode cX5_isMore 35 = .ok (.lcmp, 1) := by decide +kernel
theorem dX5_isMore_36 : decode cX5_isMore 36 = .ok (.ifCond .eq 27, 3) := by decide +kernel
theorem dX5_isMore_39 : decode cX5_isMore 39 = .ok (.lload 17, 2) := by decide +kernel
theorem dX5_isMore_41 : decode cX5_isMore 41 = .ok (.lload 19, 2) := by decide +kernel
theorem dX5_isMore_43 : decode cX5_isMore 43 = .ok (.lcmp, 1) := by decide +kernel
theorem dX5_isMore_44 : decode cX5_isMore 44 = .ok (.ifCond .le 7, 3) := by decide +kernel
theorem dX5_isMore_47 : decode cX5_isMore 47 = .ok (.iconst 1, 1) := by decide +kernel
theorem dX5_isMore_48 : decode cX5_isMore 48 = .ok (.goto 4, 3) := by decide +kernel
theorem dX5_isMore_51 : decode cX5_isMore 51 = .ok (.iconst 0, 1) := by decide +kernel
theorem dX5_isMore_52 : decode cX5_isMore 52 = .ok (.iload 16, 2) := by decide +kernel
theorem dX5_isMore_54 : decode cX5_isMore 54 = .ok (.if_icmp .eq 7, 3) := by decide +kernel
theorem dX5_isMore_57 : decode cX5_isMore 57 = .ok (.iconst 1, 1) := by decide +kernel
theorem dX5_isMore_58 : decode cX5_isMore 58 = .ok (.goto 4, 3) := by decide +kernel
theorem dX5_isMore_61 : decode cX5_isMore 61 = .ok (.iconst 0, 1) := by decide +kernel
theorem dX5_isMore_62 : decode cX5_isMore 62 = .ok (.ireturn, 1) := by decide +kernel
theorem dX5_isMore_63 : decode cX5_isMore 63 = .ok (.lload 8, 2) := by decide +kernel
theorem dX5_isMore_65 : decode cX5_isMore 65 = .ok (.lload 17, 2) := by decide +kernel
theorem dX5_isMore_67 : decode cX5_isMore 67 = .ok (.lload 10, 2) := by decide +kernel
theorem dX5_isMore_69 : decode cX5_isMore 69 = .ok (.lmul, 1) := by decide +kernel
theorem dX5_isMore_70 : decode cX5_isMore 70 = .ok (.lsub, 1) := by decide +kernel
theorem dX5_isMore_71 : decode cX5_isMore 71 = .ok (.lstore 8, 2) := by decide +kernel
theorem dX5_isMore_73 : decode cX5_isMore 73 = .ok (.lload 12, 2) := by decide +kernel
theorem dX5_isMore_75 : decode cX5_isMore 75 = .ok (.lload 19, 2) := by decide +kernel
theorem dX5_isMore_77 : decode cX5_isMore 77 = .ok (.lload 14, 2) := by decide +kernel
theorem dX5_isMore_79 : decode cX5_isMore 79 = .ok (.lmul, 1) := by decide +kernel
theorem dX5_isMore_80 : decode cX5_isMore 80 = .ok (.lsub, 1) := by decide +kernel
theorem dX5_isMore_81 : decode cX5_isMore 81 = .ok (.lstore 12, 2) := by decide +kernel
theorem dX5_isMore_83 : decode cX5_isMore 83 = .ok (.lload 8, 2) := by decide +kernel
theorem dX5_isMore_85 : decode cX5_isMore 85 = .ok (.lconst 0, 1) := by decide +kernel
theorem dX5_isMore_86 : decode cX5_isMore 86 = .ok (.lcmp, 1) := by decide +kernel
theorem dX5_isMore_87 : decode cX5_isMore 87 = .ok (.ifCond .eq 10, 3) := by decide +kernel
theorem dX5_isMore_90 : decode cX5_isMore 90 = .ok (.lload 12, 2) := by decide +kernel
theorem dX5_isMore_92 : decode cX5_isMore 92 = .ok (.lconst 0, 1) := by decide +kernel
theorem dX5_isMore_93 : decode cX5_isMore 93 = .ok (.lcmp, 1) := by decide +kernel
theorem dX5_isMore_94 : decode cX5_isMore 94 = .ok (.ifCond .ne 43, 3) := by decide +kernel
theorem dX5_isMore_97 : decode cX5_isMore 97 = .ok (.iload 16, 2) := by decide +kernel
theorem dX5_isMore_99 : decode cX5_isMore 99 = .ok (.ifCond .eq 25, 3) := by decide +kernel
theorem dX5_isMore_102 : decode cX5_isMore 102 = .ok (.lload 8, 2) := by decide +kernel
theorem dX5_isMore_104 : decode cX5_isMore 104 = .ok (.lconst 0, 1) := by decide +kernel
theorem dX5_isMore_105 : decode cX5_isMore 105 = .ok (.lcmp, 1) := by decide +kernel
theorem dX5_isMore_106 : decode cX5_isMore 106 = .ok (.ifCond .ne 14, 3) := by decide +kernel
theorem dX5_isMore_109 : decode cX5_isMore 109 = .ok (.lload 12, 2) := by decide +kernel
theorem dX5_isMore_111 : decode cX5_isMore 111 = .ok (.lconst 0, 1) := by decide +kernel
theorem dX5_isMore_112 : decode cX5_isMore 112 = .ok (.lcmp, 1) := by decide +kernel
theorem dX5_isMore_113 : decode cX5_isMore 113 = .ok (.ifCond .eq 7, 3) := by decide +kernel
theorem dX5_isMore_116 : decode cX5_isMore 116 = .ok (.iconst 1, 1) := by decide +kernel
theorem dX5_isMore_117 : decode cX5_isMore 117 = .ok (.goto 19, 3) := by decide +kernel
theorem dX5_isMore_120 : decode cX5_isMore 120 = .ok (.iconst 0, 1) := by decide +kernel
theorem dX5_isMore_121 : decode cX5_isMore 121 = .ok (.goto 15, 3) := by decide +kernel
theorem dX5_isMore_124 : decode cX5_isMore 124 = .ok (.lload 8, 2) := by decide +kernel
theorem dX5_isMore_126 : decode cX5_isMore 126 = .ok (.lconst 0, 1) := by decide +kernel
theorem dX5_isMore_127 : decode cX5_isMore 127 = .ok (.lcmp, 1) := by decide +kernel
theorem dX5_isMore_128 : decode cX5_isMore 128 = .ok (.ifCond .eq 7, 3) := by decide +kernel
theorem dX5_isMore_131 : decode cX5_isMore 131 = .ok (.iconst 1, 1) := by decide +kernel
theorem dX5_isMore_132 : decode cX5_isMore 132 = .ok (.goto 4, 3) := by decide +kernel
theorem dX5_isMore_135 : decode cX5_isMore 135 = .ok (.iconst 0, 1) := by decide +kernel
theorem dX5_isMore_136 : decode cX5_isMore 136 = .ok (.ireturn, 1) := by decide +kernel
theorem dX5_isMore_137 : decode cX5_isMore 137 = .ok (.lload 8, 2) := by decide +kernel
theorem dX5_isMore_139 : decode cX5_isMore 139 = .ok (.lstore 21, 2) := by decide +kernel
theorem dX5_isMore_141 : decode cX5_isMore 141 = .ok (.lload 10, 2) := by decide +kernel
theorem dX5_isMore_143 : decode cX5_isMore 143 = .ok (.lstore 8, 2) := by decide +kernel
theorem dX5_isMore_145 : decode cX5_isMore 145 = .ok (.lload 21, 2) := by decide +kernel
theorem dX5_isMore_147 : decode cX5_isMore 147 = .ok (.lstore 10, 2) := by decide +kernel
theorem dX5_isMore_149 : decode cX5_isMore 149 = .ok (.lload 12, 2) := by decide +kernel
theorem dX5_isMore_151 : decode cX5_isMore 151 = .ok (.lstore 21, 2) := by decide +kernel
theorem dX5_isMore_153 : decode cX5_isMore 153 = .ok (.lload 14, 2) := by decide +kernel
theorem dX5_isMore_155 : decode cX5_isMore 155 = .ok (.lstore 12, 2) := by decide +kernel
theorem dX5_isMore_157 : decode cX5_isMore 157 = .ok (.lload 21, 2) := by decide +kernel
theorem dX5_isMore_159 : decode cX5_isMore 159 = .ok (.lstore 14, 2) := by decide +kernel
theorem dX5_isMore_161 : decode cX5_isMore 161 = .ok (.iload 16, 2) := by decide +kernel
theorem dX5_isMore_163 : decode cX5_isMore 163 = .ok (.ifCond .ne 7, 3) := by decide +kernel
theorem dX5_isMore_166 : decode cX5_isMore 166 = .ok (.iconst 1, 1) := by decide +kernel
theorem dX5_isMore_167 : decode cX5_isMore 167 = .ok (.goto 4, 3) := by decide +kernel
theorem dX5_isMore_170 : decode cX5_isMore 170 = .ok (.iconst 0, 1) := by decide +kernel
theorem dX5_isMore_171 : decode cX5_isMore 171 = .ok (.istore 16, 2) := by decide +kernel
theorem dX5_isMore_173 : decode cX5_isMore 173 = .ok (.goto (-156), 3) := by decide +kernel
/-! ===== FlowMetersModel.isMore(JJJJ)Z ===== -/
def fX5_isMore_L17 (N : Nat) (n : Nat) (y8 : Int64) (y10 : Int64) (y12 : Int64) (y14 : Int64) (y16 : Int32)  : Option ((Int32 × Int64 × Int64) ⊕ (Int64 × Int64 × Int32)) := match n with
  | 0 => none
  | n + 1 =>
    (ya_ldv y8 y10).bind fun v1 =>
      (ya_ldv y12 y14).bind fun v3 =>
      (if (lg_cmp v1 v3) = 0 then
        ya_lt (y8 - (v1 * y10)) fun v6 =>
        ya_lt (y12 - (v3 * y14)) fun v8 =>
        (if (lg_cmp v6 0) = 0 then
          some (.inr (v6, v8, y16))
        else
          (if (lg_cmp v8 0) = 0 then
            some (.inr (v6, v8, y16))
          else
            (if y16 = 0 then
              fX5_isMore_L17 N n y10 v6 y14 v8 1
            else
              fX5_isMore_L17 N n y10 v6 y14 v8 0)))
      else
        some (.inl (y16, v1, v3)))
def fX5_isMore (N : Nat)  (x0 : Int64) (x2 : Int64) (x4 : Int64) (x6 : Int64) : Option (Int32) :=
  (fX5_isMore_L17 N N x0 x2 x4 x6 0).bind fun o13 => match o13 with
    | .inl (v15, v16, v17) => (if (lg_cmp v16 v17) ≤ 0 then
      (if 0 = v15 then
        some 0
      else
        some 1)
    else
      (if 1 = v15 then
        some 0
      else
        some 1))
    | .inr (v21, v22, v23) => (if v23 = 0 then
      (if (lg_cmp v21 0) = 0 then
        some 0
      else
        some 1)
    else
      (if (lg_cmp v21 0) = 0 then
        (if (lg_cmp v22 0) = 0 then
          some 0
        else
          some 1)
      else
        some 0))
abbrev rmX5_isMore : Room := { frames := 0, cells := 0, slots := 0, locals := 0 }
theorem eX5_isMore : yY yX5_isMore wsX5_isMore cX5_isMore 23 (some .boolean) rmX5_isMore 4 := ⟨⟨_, rfl⟩, rfl, rfl, by decide, by decide, by decide +kernel⟩
set_option maxHeartbeats 4000000 in
set_option maxRecDepth 100000 in
theorem mX5_isMore {l : Launch} {D : va_G} {sz : Nat} {cI cJ cZ cW cR : ClassId} {N : Nat} {x0 : Int64} {x2 : Int64} {x4 : Int64} {x6 : Int64} {r : Int32} (hf : fX5_isMore N x0 x2 x4 x6 = some r) : Met l yX5_isMore wsX5_isMore rmX5_isMore (yP D (yT cI cJ cZ cW cR) [] sz [.long x0, .long x2, .long x4, .long x6]) (yQi D (yT cI cJ cZ cW cR) r [] (va_A [] sz)) 0 0 (va_A [] sz) := by
  refine yM (cc := cX5_isMore) (maxL := 23) (ret := (some .boolean)) RX5 (by decide) rfl rfl (Nat.le_of_ble_eq_true rfl) ?_
  intro p e s m below meth c Γ hr
  have loop17 : ∀ (n : Nat) (y8 : Int64) (y10 : Int64) (y12 : Int64) (y14 : Int64) (y16 : Int32)  (o : (Int32 × Int64 × Int64) ⊕ (Int64 × Int64 × Int32)), fX5_isMore_L17 N n y8 y10 y12 y14 y16 = some o → (∀ (w0 : Int32) (w1 : Int64) (w2 : Int64), o = .inl (w0, w1, w2) → yG p l e (headSpec wsX5_isMore rmX5_isMore).room s m (List.toArray [.long x0, .long x2, .long x4, .long x6]) below meth c D (va_A [] sz) 23 0 0 (MQ below (yQi D (yT cI cJ cZ cW cR) r [] (va_A [] sz)) (List.toArray [.long x0, .long x2, .long x4, .long x6]) s 0 0 (va_A [] sz)) 39 [(16, .int w0), (17, .long w1), (19, .long w2)] [] []) → (∀ (w0 : Int64) (w1 : Int64) (w2 : Int32), o = .inr (w0, w1, w2) → yG p l e (headSpec wsX5_isMore rmX5_isMore).room s m (List.toArray [.long x0, .long x2, .long x4, .long x6]) below meth c D (va_A [] sz) 23 0 0 (MQ below (yQi D (yT cI cJ cZ cW cR) r [] (va_A [] sz)) (List.toArray [.long x0, .long x2, .long x4, .long x6]) s 0 0 (va_A [] sz)) 97 [(8, .long w0), (12, .long w1), (16, .int w2)] [] []) → yG p l e (headSpec wsX5_isMore rmX5_isMore).room s m (List.toArray [.long x0, .long x2, .long x4, .long x6]) below meth c D (va_A [] sz) 23 0 0 (MQ below (yQi D (yT cI cJ cZ cW cR) r [] (va_A [] sz)) (List.toArray [.long x0, .long x2, .long x4, .long x6]) s 0 0 (va_A [] sz)) 17 [(8, .long y8), (10, .long y10), (12, .long y12), (14, .long y14), (16, .int y16)] [] [] := by
    intro n
    induction n with
    | zero =>
      intro y8 y10 y12 y14 y16 o hf
      cases hf
    | succ n ih =>
      intro y8 y10 y12 y14 y16 o hf hk1 hk2
      unfold fX5_isMore_L17 at hf
      refine g_lload Γ 0 dX5_isMore_17 rfl ?_
      refine g_lload Γ 1 dX5_isMore_19 rfl ?_
      obtain ⟨v1, e2, hf⟩ := ya_ob hf
      refine g_ldiv Γ e2 dX5_isMore_21 ?_
      refine g_lstore (lv' := [(17, .long v1), (8, .long y8), (10, .long y10), (12, .long y12), (14, .long y14), (16, .int y16)]) Γ dX5_isMore_22 (by decide) rfl ?_
      refine g_lload Γ 3 dX5_isMore_24 rfl ?_
      refine g_lload Γ 4 dX5_isMore_26 rfl ?_
      obtain ⟨v3, e4, hf⟩ := ya_ob hf
      refine g_ldiv Γ e4 dX5_isMore_28 ?_
      refine g_lstore (lv' := [(19, .long v3), (17, .long v1), (8, .long y8), (10, .long y10), (12, .long y12), (14, .long y14), (16, .int y16)]) Γ dX5_isMore_29 (by decide) rfl ?_
      refine g_lload Γ 1 dX5_isMore_31 rfl ?_
      refine g_lload Γ 0 dX5_isMore_33 rfl ?_
      refine g_lcmp Γ dX5_isMore_35 ?_
      refine g_if_eq Γ 63 dX5_isMore_36 (by decide) (fun c5 => ?_) (fun c5 => ?_)
      · have hf := ya_if1 c5 hf
        refine g_lload Γ 2 dX5_isMore_63 rfl ?_
        refine g_lload Γ 1 dX5_isMore_65 rfl ?_
        refine g_lload Γ 3 dX5_isMore_67 rfl ?_
        refine g_lmul Γ dX5_isMore_69 ?_
        refine g_lsub Γ dX5_isMore_70 ?_
        obtain ⟨v6, e7, hf⟩ := ya_lt_inv hf
        refine g_nml e7 ?_
        refine g_lstore (lv' := [(8, .long v6), (19, .long v3), (17, .long v1), (10, .long y10), (12, .long y12), (14, .long y14), (16, .int y16)]) Γ dX5_isMore_71 (by decide) rfl ?_
        refine g_lload Γ 4 dX5_isMore_73 rfl ?_
        refine g_lload Γ 1 dX5_isMore_75 rfl ?_
        refine g_lload Γ 5 dX5_isMore_77 rfl ?_
        refine g_lmul Γ dX5_isMore_79 ?_
        refine g_lsub Γ dX5_isMore_80 ?_
        obtain ⟨v8, e9, hf⟩ := ya_lt_inv hf
        refine g_nml e9 ?_
        refine g_lstore (lv' := [(12, .long v8), (8, .long v6), (19, .long v3), (17, .long v1), (10, .long y10), (14, .long y14), (16, .int y16)]) Γ dX5_isMore_81 (by decide) rfl ?_
        refine g_lload Γ 1 dX5_isMore_83 rfl ?_
        refine g_lconst (v := 0) Γ dX5_isMore_85 (by decide) ?_
        refine g_lcmp Γ dX5_isMore_86 ?_
        refine g_if_eq Γ 97 dX5_isMore_87 (by decide) (fun c10 => ?_) (fun c10 => ?_)
        · have hf := ya_if1 c10 hf
          cases hf
          refine g_lv [1, 0, 6] rfl ?_
          exact hk2 _ _ _ rfl
        · have hf := ya_if2 c10 hf
          refine g_lload Γ 0 dX5_isMore_90 rfl ?_
          refine g_lconst (v := 0) Γ dX5_isMore_92 (by decide) ?_
          refine g_lcmp Γ dX5_isMore_93 ?_
          refine g_if_ne Γ 137 dX5_isMore_94 (by decide) (fun c11 => ?_) (fun c11 => ?_)
          · have hf := ya_if2 c11 hf
            refine g_lload Γ 1 dX5_isMore_137 rfl ?_
            refine g_lstore (lv' := [(21, .long v6), (12, .long v8), (8, .long v6), (19, .long v3), (17, .long v1), (10, .long y10), (14, .long y14), (16, .int y16)]) Γ dX5_isMore_139 (by decide) rfl ?_
            refine g_lload Γ 5 dX5_isMore_141 rfl ?_
            refine g_lstore (lv' := [(8, .long y10), (21, .long v6), (12, .long v8), (19, .long v3), (17, .long v1), (10, .long y10), (14, .long y14), (16, .int y16)]) Γ dX5_isMore_143 (by decide) rfl ?_
            refine g_lload Γ 1 dX5_isMore_145 rfl ?_
            refine g_lstore (lv' := [(10, .long v6), (8, .long y10), (21, .long v6), (12, .long v8), (19, .long v3), (17, .long v1), (14, .long y14), (16, .int y16)]) Γ dX5_isMore_147 (by decide) rfl ?_
            refine g_lload Γ 3 dX5_isMore_149 rfl ?_
            refine g_lstore (lv' := [(21, .long v8), (10, .long v6), (8, .long y10), (12, .long v8), (19, .long v3), (17, .long v1), (14, .long y14), (16, .int y16)]) Γ dX5_isMore_151 (by decide) rfl ?_
            refine g_lload Γ 6 dX5_isMore_153 rfl ?_
            refine g_lstore (lv' := [(12, .long y14), (21, .long v8), (10, .long v6), (8, .long y10), (19, .long v3), (17, .long v1), (14, .long y14), (16, .int y16)]) Γ dX5_isMore_155 (by decide) rfl ?_
            refine g_lload Γ 1 dX5_isMore_157 rfl ?_
            refine g_lstore (lv' := [(14, .long v8), (12, .long y14), (21, .long v8), (10, .long v6), (8, .long y10), (19, .long v3), (17, .long v1), (16, .int y16)]) Γ dX5_isMore_159 (by decide) rfl ?_
            refine g_iload Γ 7 dX5_isMore_161 rfl ?_
            refine g_if_ne Γ 170 dX5_isMore_163 (by decide) (fun c12 => ?_) (fun c12 => ?_)
            · have hf := ya_if2 c12 hf
              refine g_iconst (v := 0) Γ dX5_isMore_170 (by decide) ?_
              refine g_istore (lv' := [(16, .int 0), (14, .long v8), (12, .long y14), (21, .long v8), (10, .long v6), (8, .long y10), (19, .long v3), (17, .long v1)]) Γ dX5_isMore_171 (by decide) rfl ?_
              refine g_goto Γ 17 dX5_isMore_173 (by decide) ?_
              refine g_lv [5, 4, 2, 1, 0] rfl ?_
              exact ih _ _ _ _ _ _ hf hk1 hk2
            · have hf := ya_if1 c12 hf
              refine g_iconst (v := 1) Γ dX5_isMore_166 (by decide) ?_
              refine g_goto Γ 171 dX5_isMore_167 (by decide) ?_
              refine g_istore (lv' := [(16, .int 1), (14, .long v8), (12, .long y14), (21, .long v8), (10, .long v6), (8, .long y10), (19, .long v3), (17, .long v1)]) Γ dX5_isMore_171 (by decide) rfl ?_
              refine g_goto Γ 17 dX5_isMore_173 (by decide) ?_
              refine g_lv [5, 4, 2, 1, 0] rfl ?_
              exact ih _ _ _ _ _ _ hf hk1 hk2
          · have hf := ya_if1 c11 hf
            cases hf
            refine g_lv [1, 0, 6] rfl ?_
            exact hk2 _ _ _ rfl
      · have hf := ya_if2 c5 hf
        cases hf
        refine g_lv [6, 1, 0] rfl ?_
        exact hk1 _ _ _ rfl
  show yG p l e (headSpec wsX5_isMore rmX5_isMore).room s m (List.toArray [.long x0, .long x2, .long x4, .long x6]) below meth c D (va_A [] sz) 23 0 0 (MQ below (yQi D (yT cI cJ cZ cW cR) r [] (va_A [] sz)) (List.toArray [.long x0, .long x2, .long x4, .long x6]) s 0 0 (va_A [] sz)) 0 [(0, .long x0), (2, .long x2), (4, .long x4), (6, .long x6)] [] []
  unfold fX5_isMore at hf
  refine g_lload_n Γ 0 dX5_isMore_0 rfl ?_
  refine g_lstore (lv' := [(8, .long x0), (0, .long x0), (2, .long x2), (4, .long x4), (6, .long x6)]) Γ dX5_isMore_1 (by decide) rfl ?_
  refine g_lload_n Γ 2 dX5_isMore_3 rfl ?_
  refine g_lstore (lv' := [(10, .long x2), (8, .long x0), (0, .long x0), (2, .long x2), (4, .long x4), (6, .long x6)]) Γ dX5_isMore_4 (by decide) rfl ?_
  refine g_lload Γ 4 dX5_isMore_6 rfl ?_
  refine g_lstore (lv' := [(12, .long x4), (10, .long x2), (8, .long x0), (0, .long x0), (2, .long x2), (4, .long x4), (6, .long x6)]) Γ dX5_isMore_8 (by decide) rfl ?_
  refine g_lload Γ 6 dX5_isMore_10 rfl ?_
  refine g_lstore (lv' := [(14, .long x6), (12, .long x4), (10, .long x2), (8, .long x0), (0, .long x0), (2, .long x2), (4, .long x4), (6, .long x6)]) Γ dX5_isMore_12 (by decide) rfl ?_
  refine g_iconst (v := 0) Γ dX5_isMore_14 (by decide) ?_
  refine g_istore (lv' := [(16, .int 0), (14, .long x6), (12, .long x4), (10, .long x2), (8, .long x0), (0, .long x0), (2, .long x2), (4, .long x4), (6, .long x6)]) Γ dX5_isMore_15 (by decide) rfl ?_
  obtain ⟨o13, e14, hf⟩ := ya_ob hf
  refine g_lv [4, 3, 2, 1, 0] rfl ?_
  refine loop17 N _ _ _ _ _ o13 e14 ?_ ?_
  · intro v15 v16 v17 ho; subst ho
    refine g_lload Γ 1 dX5_isMore_39 rfl ?_
    refine g_lload Γ 2 dX5_isMore_41 rfl ?_
    refine g_lcmp Γ dX5_isMore_43 ?_
    refine g_if_le Γ 51 dX5_isMore_44 (by decide) (fun c18 => ?_) (fun c18 => ?_)
    · have hf := ya_if1 c18 hf
      refine g_iconst (v := 0) Γ dX5_isMore_51 (by decide) ?_
      refine g_iload Γ 0 dX5_isMore_52 rfl ?_
      refine g_icmp_eq Γ 61 dX5_isMore_54 (by decide) (fun c19 => ?_) (fun c19 => ?_)
      · have hf := ya_if1 c19 hf
        refine g_iconst (v := 0) Γ dX5_isMore_61 (by decide) ?_
        cases hf
        exact g_zret Γ hr (show ya_bo 0 = some 0 from rfl) dX5_isMore_62 [] rfl rfl
      · have hf := ya_if2 c19 hf
        refine g_iconst (v := 1) Γ dX5_isMore_57 (by decide) ?_
        refine g_goto Γ 62 dX5_isMore_58 (by decide) ?_
        cases hf
        exact g_zret Γ hr (show ya_bo 1 = some 1 from rfl) dX5_isMore_62 [] rfl rfl
    · have hf := ya_if2 c18 hf
      refine g_iconst (v := 1) Γ dX5_isMore_47 (by decide) ?_
      refine g_goto Γ 52 dX5_isMore_48 (by decide) ?_
      refine g_iload Γ 0 dX5_isMore_52 rfl ?_
      refine g_icmp_eq Γ 61 dX5_isMore_54 (by decide) (fun c20 => ?_) (fun c20 => ?_)
      · have hf := ya_if1 c20 hf
        refine g_iconst (v := 0) Γ dX5_isMore_61 (by decide) ?_
        cases hf
        exact g_zret Γ hr (show ya_bo 0 = some 0 from rfl) dX5_isMore_62 [] rfl rfl
      · have hf := ya_if2 c20 hf
        refine g_iconst (v := 1) Γ dX5_isMore_57 (by decide) ?_
        refine g_goto Γ 62 dX5_isMore_58 (by decide) ?_
        cases hf
        exact g_zret Γ hr (show ya_bo 1 = some 1 from rfl) dX5_isMore_62 [] rfl rfl
  · intro v21 v22 v23 ho; subst ho
    refine g_iload Γ 2 dX5_isMore_97 rfl ?_
    refine g_if_eq Γ 124 dX5_isMore_99 (by decide) (fun c24 => ?_) (fun c24 => ?_)
    · have hf := ya_if1 c24 hf
      refine g_lload Γ 0 dX5_isMore_124 rfl ?_
      refine g_lconst (v := 0) Γ dX5_isMore_126 (by decide) ?_
      refine g_lcmp Γ dX5_isMore_127 ?_
      refine g_if_eq Γ 135 dX5_isMore_128 (by decide) (fun c25 => ?_) (fun c25 => ?_)
      · have hf := ya_if1 c25 hf
        refine g_iconst (v := 0) Γ dX5_isMore_135 (by decide) ?_
        cases hf
        exact g_zret Γ hr (show ya_bo 0 = some 0 from rfl) dX5_isMore_136 [] rfl rfl
      · have hf := ya_if2 c25 hf
        refine g_iconst (v := 1) Γ dX5_isMore_131 (by decide) ?_
        refine g_goto Γ 136 dX5_isMore_132 (by decide) ?_
        cases hf
        exact g_zret Γ hr (show ya_bo 1 = some 1 from rfl) dX5_isMore_136 [] rfl rfl
    · have hf := ya_if2 c24 hf
      refine g_lload Γ 0 dX5_isMore_102 rfl ?_
      refine g_lconst (v := 0) Γ dX5_isMore_104 (by decide) ?_
      refine g_lcmp Γ dX5_isMore_105 ?_
      refine g_if_ne Γ 120 dX5_isMore_106 (by decide) (fun c26 => ?_) (fun c26 => ?_)
      · have hf := ya_if2 c26 hf
        refine g_iconst (v := 0) Γ dX5_isMore_120 (by decide) ?_
        refine g_goto Γ 136 dX5_isMore_121 (by decide) ?_
        cases hf
        exact g_zret Γ hr (show ya_bo 0 = some 0 from rfl) dX5_isMore_136 [] rfl rfl
      · have hf := ya_if1 c26 hf
        refine g_lload Γ 1 dX5_isMore_109 rfl ?_
        refine g_lconst (v := 0) Γ dX5_isMore_111 (by decide) ?_
        refine g_lcmp Γ dX5_isMore_112 ?_
        refine g_if_eq Γ 120 dX5_isMore_113 (by decide) (fun c27 => ?_) (fun c27 => ?_)
        · have hf := ya_if1 c27 hf
          refine g_iconst (v := 0) Γ dX5_isMore_120 (by decide) ?_
          refine g_goto Γ 136 dX5_isMore_121 (by decide) ?_
          cases hf
          exact g_zret Γ hr (show ya_bo 0 = some 0 from rfl) dX5_isMore_136 [] rfl rfl
        · have hf := ya_if2 c27 hf
          refine g_iconst (v := 1) Γ dX5_isMore_116 (by decide) ?_
          refine g_goto Γ 136 dX5_isMore_117 (by decide) ?_
          cases hf
          exact g_zret Γ hr (show ya_bo 1 = some 1 from rfl) dX5_isMore_136 [] rfl rfl

set_option maxRecDepth 20000 in
theorem ggX5_rank_X5_flows : GoodIn wsX5_rank wsX5_flows := goodIn_r _ [10, 11, 77, 78, 79, 80, 81, 82, 83, 84, 85, 86, 87, 88, 89, 90, 91, 92, 93, 94, 95] rfl (by decide +kernel)
set_option maxRecDepth 20000 in
theorem gX5_rank_X5_flows : GoodIn wsX5_rank (wsV RX5 57 RX5 yX5_flows wsX5_flows) := goodIn_app (goodIn_of _ (by decide +kernel)) ggX5_rank_X5_flows
set_option maxRecDepth 20000 in
theorem ggX5_rank_X5_isSpare : GoodIn wsX5_rank wsX5_isSpare := goodIn_r _ [15, 16, 17, 18, 19, 9, 20, 6, 7, 8, 10, 11, 21, 22, 23, 24, 25, 26, 27, 28, 77, 78, 79, 80, 81, 82, 83, 84, 85, 86, 87, 88, 89, 90, 91, 92, 93, 94, 95] rfl (by decide +kernel)
set_option maxRecDepth 20000 in
theorem gX5_rank_X5_isSpare : GoodIn wsX5_rank (wsV RX5 146 RX5 yX5_isSpare wsX5_isSpare) := goodIn_app (goodIn_of _ (by decide +kernel)) ggX5_rank_X5_isSpare
set_option maxRecDepth 20000 in
theorem ggX5_rank_X5_fallOf : GoodIn wsX5_rank wsX5_fallOf := goodIn_r _ [32, 33, 1, 2, 34, 35, 36, 9, 37, 38, 16, 39, 40, 41, 42, 43, 17, 18, 19, 20, 6, 7, 8, 10, 11, 21, 22, 23, 24, 25, 26, 27, 28, 44, 45, 46, 47, 48, 49, 50, 51, 52, 53, 54, 55, 56, 57, 58, 59, 60, 61, 62, 63, 64, 65, 66, 67, 68, 69, 70, 77, 78, 79, 80, 81, 82, 83, 84, 85, 86, 87, 88, 89, 90, 91, 92, 93, 94, 95] rfl (by decide +kernel)
set_option maxRecDepth 20000 in
theorem gX5_rank_X5_fallOf : GoodIn wsX5_rank (wsV RX5 155 RX5 yX5_fallOf wsX5_fallOf) := goodIn_app (goodIn_of _ (by decide +kernel)) ggX5_rank_X5_fallOf
set_option maxRecDepth 20000 in
theorem ggX5_rank_X5_isMore : GoodIn wsX5_rank wsX5_isMore := goodIn_r _ [73] rfl (by decide +kernel)
set_option maxRecDepth 20000 in
theorem gX5_rank_X5_isMore : GoodIn wsX5_rank (va_wsS RX5 159 yX5_isMore wsX5_isMore) := goodIn_app (goodIn_of _ (by decide +kernel)) ggX5_rank_X5_isMore
set_option maxRecDepth 20000 in
theorem ggX5_rank_X5_isIn : GoodIn wsX5_rank wsX5_isIn := goodIn_r _ [76] rfl (by decide +kernel)
set_option maxRecDepth 20000 in
theorem gX5_rank_X5_isIn : GoodIn wsX5_rank (va_wsS RX5 61 yX5_isIn wsX5_isIn) := goodIn_app (goodIn_of _ (by decide +kernel)) ggX5_rank_X5_isIn
theorem dX5_rank_0 : decode cX5_rank 0 = .ok (.iconst 0, 1) := by decide +kernel
theorem dX5_rank_1 : decode cX5_rank 1 = .ok (.istore_n 2, 1) := by decide +kernel
theorem dX5_rank_2 : decode cX5_rank 2 = .ok (.iconst 0, 1) := by decide +kernel
theorem dX5_rank_3 : decode cX5_rank 3 = .ok (.istore_n 3, 1) := by decide +kernel
theorem dX5_rank_4 : decode cX5_rank 4 = .ok (.iload_n 3, 1) := by decide +kernel
theorem dX5_rank_5 : decode cX5_rank 5 = .ok (.aload_n 0, 1) := by decide +kernel
theorem dX5_rank_6 : decode cX5_rank 6 = .ok (.invokevirtual 57, 3) := by decide +kernel
theorem dX5_rank_9 : decode cX5_rank 9 = .ok (.if_icmp .ge 128, 3) := by decide +kernel
theorem dX5_rank_12 : decode cX5_rank 12 = .ok (.aload_n 0, 1) := by decide +kernel
theorem dX5_rank_13 : decode cX5_rank 13 = .ok (.iload_n 3, 1) := by decide +kernel
theorem dX5_rank_14 : decode cX5_rank 14 = .ok (.invokevirtual 146, 3) := by decide +kernel
theorem dX5_rank_17 : decode cX5_rank 17 = .ok (.ifCond .ne 6, 3) := by decide +kernel
theorem dX5_rank_20 : decode cX5_rank 20 = .ok (.goto 111, 3) := by decide +kernel
theorem dX5_rank_23 : decode cX5_rank 23 = .ok (.aload_n 0, 1) := by decide +kernel
theorem dX5_rank_24 : decode cX5_rank 24 = .ok (.iload_n 3, 1) := by decide +kernel
theorem dX5_rank_25 : decode cX5_rank 25 = .ok (.invokevirtual 155, 3) := by decide +kernel
theorem dX5_rank_28 : decode cX5_rank 28 = .ok (.iload_n 2, 1) := by decide +kernel
theorem dX5_rank_29 : decode cX5_rank 29 = .ok (.istore 4, 2) := by decide +kernel
theorem dX5_rank_31 : decode cX5_rank 31 = .ok (.iload 4, 2) := by decide +kernel
theorem dX5_rank_33 : decode cX5_rank 33 = .ok (.ifCond .le 67, 3) := by decide +kernel
theorem dX5_rank_36 : decode cX5_rank 36 = .ok (.aload_n 0, 1) := by decide +kernel
theorem dX5_rank_37 : decode cX5_rank 37 = .ok (.getfield 149, 3) := by decide +kernel
theorem dX5_rank_40 : decode cX5_rank 40 = .ok (.aload_n 0, 1) := by decide +kernel
theorem dX5_rank_41 : decode cX5_rank 41 = .ok (.getfield 152, 3) := by decide +kernel
theorem dX5_rank_44 : decode cX5_rank 44 = .ok (.aload_n 0, 1) := by decide +kernel
theorem dX5_rank_45 : decode cX5_rank 45 = .ok (.getfield 45, 3) := by decide +kernel
theorem dX5_rank_48 : decode cX5_rank 48 = .ok (.aload_n 0, 1) := by decide +kernel
theorem dX5_rank_49 : decode cX5_rank 49 = .ok (.getfield 51, 3) := by decide +kernel
theorem dX5_rank_52 : decode cX5_rank 52 = .ok (.iload 4, 2) := by decide +kernel
theorem dX5_rank_54 : decode cX5_rank 54 = .ok (.iconst 1, 1) := by decide +kernel
theorem dX5_rank_55 : decode cX5_rank 55 = .ok (.isub, 1) := by decide +kernel
theorem dX5_rank_56 : decode cX5_rank 56 = .ok (.iaload, 1) := by decide +kernel
theorem dX5_rank_57 : decode cX5_rank 57 = .ok (.laload, 1) := by decide +kernel
theorem dX5_rank_58 : decode cX5_rank 58 = .ok (.aload_n 0, 1) := by decide +kernel
theorem dX5_rank_59 : decode cX5_rank 59 = .ok (.getfield 48, 3) := by decide +kernel
theorem dX5_rank_62 : decode cX5_rank 62 = .ok (.aload_n 0, 1) := by decide +kernel
theorem dX5_rank_63 : decode cX5_rank 63 = .ok (.getfield 51, 3) := by decide +kernel
theorem dX5_rank_66 : decode cX5_rank 66 = .ok (.iload 4, 2) := by decide +kernel
theorem dX5_rank_68 : decode cX5_rank 68 = .ok (.iconst 1, 1) := by decide +kernel
theorem dX5_rank_69 : decode cX5_rank 69 = .ok (.isub, 1) := by decide +kernel
theorem dX5_rank_70 : decode cX5_rank 70 = .ok (.iaload, 1) := by decide +kernel
theorem dX5_rank_71 : decode cX5_rank 71 = .ok (.laload, 1) := by decide +kernel
theorem dX5_rank_72 : decode cX5_rank 72 = .ok (.invokestatic 159, 3) := by decide +kernel
theorem dX5_rank_75 : decode cX5_rank 75 = .ok (.ifCond .eq 25, 3) := by decide +kernel
theorem dX5_rank_78 : decode cX5_rank 78 = .ok (.aload_n 0, 1) := by decide +kernel
theorem dX5_rank_79 : decode cX5_rank 79 = .ok (.getfield 51, 3) := by decide +kernel
theorem dX5_rank_82 : decode cX5_rank 82 = .ok (.iload 4, 2) := by decide +kernel
theorem dX5_rank_84 : decode cX5_rank 84 = .ok (.aload_n 0, 1) := by decide +kernel
theorem dX5_rank_85 : decode cX5_rank 85 = .ok (.getfield 51, 3) := by decide +kernel
theorem dX5_rank_88 : decode cX5_rank 88 = .ok (.iload 4, 2) := by decide +kernel
theorem dX5_rank_90 : decode cX5_rank 90 = .ok (.iconst 1, 1) := by decide +kernel
theorem dX5_rank_91 : decode cX5_rank 91 = .ok (.isub, 1) := by decide +kernel
theorem dX5_rank_92 : decode cX5_rank 92 = .ok (.iaload, 1) := by decide +kernel
theorem dX5_rank_93 : decode cX5_rank 93 = .ok (.iastore, 1) := by decide +kernel
theorem dX5_rank_94 : decode cX5_rank 94 = .ok (.iinc 4 (-1), 3) := by decide +kernel
theorem dX5_rank_97 : decode cX5_rank 97 = .ok (.goto (-66), 3) := by decide +kernel
theorem dX5_rank_100 : decode cX5_rank 100 = .ok (.aload_n 0, 1) := by decide +kernel
theorem dX5_rank_101 : decode cX5_rank 101 = .ok (.getfield 51, 3) := by decide +kernel
theorem dX5_rank_104 : decode cX5_rank 104 = .ok (.iload 4, 2) := by decide +kernel
theorem dX5_rank_106 : decode cX5_rank 106 = .ok (.iload_n 3, 1) := by decide +kernel
theorem dX5_rank_107 : decode cX5_rank 107 = .ok (.iastore, 1) := by decide +kernel
theorem dX5_rank_108 : decode cX5_rank 108 = .ok (.aload_n 0, 1) := by decide +kernel
theorem dX5_rank_109 : decode cX5_rank 109 = .ok (.getfield 45, 3) := by decide +kernel
theorem dX5_rank_112 : decode cX5_rank 112 = .ok (.iload_n 3, 1) := by decide +kernel
theorem dX5_rank_113 : decode cX5_rank 113 = .ok (.aload_n 0, 1) := by decide +kernel
theorem dX5_rank_114 : decode cX5_rank 114 = .ok (.getfield 149, 3) := by decide +kernel
theorem dX5_rank_117 : decode cX5_rank 117 = .ok (.lastore, 1) := by decide +kernel
theorem dX5_rank_118 : decode cX5_rank 118 = .ok (.aload_n 0, 1) := by decide +kernel
theorem dX5_rank_119 : decode cX5_rank 119 = .ok (.getfield 48, 3) := by decide +kernel
theorem dX5_rank_122 : decode cX5_rank 122 = .ok (.iload_n 3, 1) := by decide +kernel
theorem dX5_rank_123 : decode cX5_rank 123 = .ok (.aload_n 0, 1) := by decide +kernel
theorem dX5_rank_124 : decode cX5_rank 124 = .ok (.getfield 152, 3) := by decide +kernel
theorem dX5_rank_127 : decode cX5_rank 127 = .ok (.lastore, 1) := by decide +kernel
theorem dX5_rank_128 : decode cX5_rank 128 = .ok (.iinc 2 1, 3) := by decide +kernel
theorem dX5_rank_131 : decode cX5_rank 131 = .ok (.iinc 3 1, 3) := by decide +kernel
theorem dX5_rank_134 : decode cX5_rank 134 = .ok (.goto (-130), 3) := by decide +kernel
theorem dX5_rank_137 : decode cX5_rank 137 = .ok (.iload_n 1, 1) := by decide +kernel
theorem dX5_rank_138 : decode cX5_rank 138 = .ok (.iconst 0, 1) := by decide +kernel
theorem dX5_rank_139 : decode cX5_rank 139 = .ok (.iload_n 2, 1) := by decide +kernel
theorem dX5_rank_140 : decode cX5_rank 140 = .ok (.iconst 1, 1) := by decide +kernel
theorem dX5_rank_141 : decode cX5_rank 141 = .ok (.isub, 1) := by decide +kernel
theorem dX5_rank_142 : decode cX5_rank 142 = .ok (.invokestatic 61, 3) := by decide +kernel
theorem dX5_rank_145 : decode cX5_rank 145 = .ok (.ifCond .eq 12, 3) := by decide +kernel
theorem dX5_rank_148 : decode cX5_rank 148 = .ok (.aload_n 0, 1) := by decide +kernel
theorem dX5_rank_149 : decode cX5_rank 149 = .ok (.getfield 51, 3) := by decide +kernel
theorem dX5_rank_152 : decode cX5_rank 152 = .ok (.iload_n 1, 1) := by decide +kernel
theorem dX5_rank_153 : decode cX5_rank 153 = .ok (.iaload, 1) := by decide +kernel
theorem dX5_rank_154 : decode cX5_rank 154 = .ok (.goto 4, 3) := by decide +kernel
theorem dX5_rank_157 : decode cX5_rank 157 = .ok (.iconst (-1), 1) := by decide +kernel
theorem dX5_rank_158 : decode cX5_rank 158 = .ok (.ireturn, 1) := by decide +kernel
/-! ===== FlowMetersModel.rank(I)I ===== -/
def fX5_rank_L31 (N : Nat) (n : Nat) (y1 : Int32) (y2 : Int32) (y3 : Int32) (y4 : Int32) (d_t_above1 : Int64) (d_t_below1 : Int64) (d_t_fallAbove : Nat → Int64) (d_t_fallBelow : Nat → Int64) (d_t_ranks : Nat → Int32) : Option (Int32 × (Nat → Int32)) := match n with
  | 0 => none
  | n + 1 =>
    (if y4 ≤ 0 then
        some (y4, d_t_ranks)
      else
        (ya_rd d_t_ranks 10 (y4 - 1)).bind fun v21 =>
        (ya_rd d_t_fallAbove 10 v21).bind fun v23 =>
        (ya_rd d_t_ranks 10 (y4 - 1)).bind fun v25 =>
        (ya_rd d_t_fallBelow 10 v25).bind fun v27 =>
        (fX5_isMore N d_t_above1 d_t_below1 v23 v27).bind fun v29 =>
        (if v29 = 0 then
          some (y4, d_t_ranks)
        else
          (ya_rd d_t_ranks 10 (y4 - 1)).bind fun v32 =>
          (ya_wr d_t_ranks 10 y4 v32).bind fun v34 =>
          ya_lt (y4 + (-1)) fun v36 =>
          fX5_rank_L31 N n y1 y2 y3 v36 d_t_above1 d_t_below1 d_t_fallAbove d_t_fallBelow v34))
def fX5_rank_L4 (N : Nat) (n : Nat) (y1 : Int32) (y2 : Int32) (y3 : Int32) (d_t_below : Int64) (d_t_above1 : Int64) (d_t_below1 : Int64) (d_t_now : Nat → Int32) (d_t_heapOf : Nat → Int32) (d_t_partOf : Nat → Int32) (d_t_place : Nat → Int32) (d_t_matrix : Nat → Int64) (d_t_right : Nat → Int64) (d_t_force : Nat → Int64) (d_t_work : Nat → Int64) (d_t_fallAbove : Nat → Int64) (d_t_fallBelow : Nat → Int64) (d_t_ranks : Nat → Int32) : Option (Int32 × Int64 × Int64 × Int64 × (Nat → Int32) × (Nat → Int32) × (Nat → Int32) × (Nat → Int32) × (Nat → Int64) × (Nat → Int64) × (Nat → Int64) × (Nat → Int64) × (Nat → Int64) × (Nat → Int64) × (Nat → Int32)) := match n with
  | 0 => none
  | n + 1 =>
    (fX5_flows d_t_now).bind fun v1 =>
      (if v1 ≤ y3 then
        some (y2, d_t_below, d_t_above1, d_t_below1, d_t_now, d_t_heapOf, d_t_partOf, d_t_place, d_t_matrix, d_t_right, d_t_force, d_t_work, d_t_fallAbove, d_t_fallBelow, d_t_ranks)
      else
        (fX5_isSpare N d_t_now d_t_heapOf y3).bind fun (v4, v5) =>
        (if v4 = 0 then
          ya_lt (y3 + 1) fun v51 =>
          fX5_rank_L4 N n y1 y2 v51 d_t_below d_t_above1 d_t_below1 d_t_now v5 d_t_partOf d_t_place d_t_matrix d_t_right d_t_force d_t_work d_t_fallAbove d_t_fallBelow d_t_ranks
        else
          (fX5_fallOf N d_t_below d_t_above1 d_t_below1 d_t_now v5 d_t_partOf d_t_place d_t_matrix d_t_right d_t_force d_t_work y3).bind fun (v8, v9, v10, v11, v12, v13, v14, v15, v16, v17, v18) =>
          (fX5_rank_L31 N N y1 y2 y3 y2 v9 v10 d_t_fallAbove d_t_fallBelow d_t_ranks).bind fun (v38, v39) =>
          (ya_wr v39 10 v38 y3).bind fun v41 =>
          (ya_wr d_t_fallAbove 10 y3 v9).bind fun v43 =>
          (ya_wr d_t_fallBelow 10 y3 v10).bind fun v45 =>
          ya_lt (y2 + 1) fun v47 =>
          ya_lt (y3 + 1) fun v49 =>
          fX5_rank_L4 N n y1 v47 v49 v8 v9 v10 v11 v12 v13 v14 v15 v16 v17 v18 v43 v45 v41))
def fX5_rank (N : Nat) (c_t_below : Int64) (c_t_above1 : Int64) (c_t_below1 : Int64) (c_t_now : Nat → Int32) (c_t_heapOf : Nat → Int32) (c_t_partOf : Nat → Int32) (c_t_place : Nat → Int32) (c_t_matrix : Nat → Int64) (c_t_right : Nat → Int64) (c_t_force : Nat → Int64) (c_t_work : Nat → Int64) (c_t_fallAbove : Nat → Int64) (c_t_fallBelow : Nat → Int64) (c_t_ranks : Nat → Int32) (x1 : Int32) : Option (Int32 × Int64 × Int64 × Int64 × (Nat → Int32) × (Nat → Int32) × (Nat → Int32) × (Nat → Int32) × (Nat → Int64) × (Nat → Int64) × (Nat → Int64) × (Nat → Int64) × (Nat → Int64) × (Nat → Int64) × (Nat → Int32)) :=
  (fX5_rank_L4 N N x1 0 0 c_t_below c_t_above1 c_t_below1 c_t_now c_t_heapOf c_t_partOf c_t_place c_t_matrix c_t_right c_t_force c_t_work c_t_fallAbove c_t_fallBelow c_t_ranks).bind fun (v53, v54, v55, v56, v57, v58, v59, v60, v61, v62, v63, v64, v65, v66, v67) =>
  (fX5_isIn x1 0 (v53 - 1)).bind fun v69 =>
  (if v69 = 0 then
    some ((-1), v54, v55, v56, v57, v58, v59, v60, v61, v62, v63, v64, v65, v66, v67)
  else
    (ya_rd v67 10 x1).bind fun v72 =>
    some (v72, v54, v55, v56, v57, v58, v59, v60, v61, v62, v63, v64, v65, v66, v67))
theorem fX5_rank_149 : yF wsX5_rank RX5 149 5 13 RX5 TX5 19 := ⟨rfl, by decide, by decide +kernel, by decide +kernel⟩
theorem fX5_rank_152 : yF wsX5_rank RX5 152 5 14 RX5 TX5 19 := ⟨rfl, by decide, by decide +kernel, by decide +kernel⟩
theorem fX5_rank_45 : yF wsX5_rank RX5 45 5 15 RX5 TX5 19 := ⟨rfl, by decide, by decide +kernel, by decide +kernel⟩
theorem fX5_rank_51 : yF wsX5_rank RX5 51 5 17 RX5 TX5 19 := ⟨rfl, by decide, by decide +kernel, by decide +kernel⟩
theorem fX5_rank_48 : yF wsX5_rank RX5 48 5 16 RX5 TX5 19 := ⟨rfl, by decide, by decide +kernel, by decide +kernel⟩
abbrev rmX5_rank : Room := { frames := 10, cells := 0, slots := 0, locals := 365 }
theorem eX5_rank : yY yX5_rank wsX5_rank cX5_rank 5 (some .int) rmX5_rank 1 := ⟨⟨_, rfl⟩, rfl, rfl, by decide, by decide, by decide +kernel⟩
set_option maxHeartbeats 4000000 in
set_option maxRecDepth 100000 in
theorem mX5_rank {l : Launch} {D : va_G} {sz : Nat} {cI cJ cZ cW cR : ClassId} {N : Nat} {h_t : Nat} {A_t : Nat → Nat} {c_t_many : Int32} {c_t_below : Int64} {c_t_above1 : Int64} {c_t_below1 : Int64} {c_t_now : Nat → Int32} {c_t_heapOf : Nat → Int32} {c_t_partOf : Nat → Int32} {c_t_place : Nat → Int32} {c_t_matrix : Nat → Int64} {c_t_right : Nat → Int64} {c_t_force : Nat → Int64} {c_t_work : Nat → Int64} {c_t_fallAbove : Nat → Int64} {c_t_fallBelow : Nat → Int64} {c_t_ranks : Nat → Int32} {x1 : Int32} {r : Int32} {zc_t_below : Int64} {zc_t_above1 : Int64} {zc_t_below1 : Int64} {zc_t_now : Nat → Int32} {zc_t_heapOf : Nat → Int32} {zc_t_partOf : Nat → Int32} {zc_t_place : Nat → Int32} {zc_t_matrix : Nat → Int64} {zc_t_right : Nat → Int64} {zc_t_force : Nat → Int64} {zc_t_work : Nat → Int64} {zc_t_fallAbove : Nat → Int64} {zc_t_fallBelow : Nat → Int64} {zc_t_ranks : Nat → Int32} (hf : fX5_rank N c_t_below c_t_above1 c_t_below1 c_t_now c_t_heapOf c_t_partOf c_t_place c_t_matrix c_t_right c_t_force c_t_work c_t_fallAbove c_t_fallBelow c_t_ranks x1 = some (r, zc_t_below, zc_t_above1, zc_t_below1, zc_t_now, zc_t_heapOf, zc_t_partOf, zc_t_place, zc_t_matrix, zc_t_right, zc_t_force, zc_t_work, zc_t_fallAbove, zc_t_fallBelow, zc_t_ranks)) : Met l yX5_rank wsX5_rank rmX5_rank (yP D (yT cI cJ cZ cW cR) [(h_t, oR A_t c_t_many c_t_below c_t_above1 c_t_below1), (A_t 0, eI cI 242 c_t_now), (A_t 2, eI cI 6 c_t_heapOf), (A_t 3, eI cI 6 c_t_partOf), (A_t 4, eI cI 6 c_t_place), (A_t 5, eJ cJ 36 c_t_matrix), (A_t 6, eJ cJ 6 c_t_right), (A_t 7, eJ cJ 6 c_t_force), (A_t 8, eJ cJ 216 c_t_work), (A_t 11, eJ cJ 10 c_t_fallAbove), (A_t 12, eJ cJ 10 c_t_fallBelow), (A_t 13, eI cI 10 c_t_ranks)] sz [.ref h_t, .int x1]) (yQi D (yT cI cJ cZ cW cR) r [(h_t, oR A_t c_t_many zc_t_below zc_t_above1 zc_t_below1), (A_t 0, eI cI 242 zc_t_now), (A_t 2, eI cI 6 zc_t_heapOf), (A_t 3, eI cI 6 zc_t_partOf), (A_t 4, eI cI 6 zc_t_place), (A_t 5, eJ cJ 36 zc_t_matrix), (A_t 6, eJ cJ 6 zc_t_right), (A_t 7, eJ cJ 6 zc_t_force), (A_t 8, eJ cJ 216 zc_t_work), (A_t 11, eJ cJ 10 zc_t_fallAbove), (A_t 12, eJ cJ 10 zc_t_fallBelow), (A_t 13, eI cI 10 zc_t_ranks)] (va_A [(h_t, oR A_t c_t_many c_t_below c_t_above1 c_t_below1), (A_t 0, eI cI 242 c_t_now), (A_t 2, eI cI 6 c_t_heapOf), (A_t 3, eI cI 6 c_t_partOf), (A_t 4, eI cI 6 c_t_place), (A_t 5, eJ cJ 36 c_t_matrix), (A_t 6, eJ cJ 6 c_t_right), (A_t 7, eJ cJ 6 c_t_force), (A_t 8, eJ cJ 216 c_t_work), (A_t 11, eJ cJ 10 c_t_fallAbove), (A_t 12, eJ cJ 10 c_t_fallBelow), (A_t 13, eI cI 10 c_t_ranks)] sz)) 0 0 (va_A [(h_t, oR A_t c_t_many c_t_below c_t_above1 c_t_below1), (A_t 0, eI cI 242 c_t_now), (A_t 2, eI cI 6 c_t_heapOf), (A_t 3, eI cI 6 c_t_partOf), (A_t 4, eI cI 6 c_t_place), (A_t 5, eJ cJ 36 c_t_matrix), (A_t 6, eJ cJ 6 c_t_right), (A_t 7, eJ cJ 6 c_t_force), (A_t 8, eJ cJ 216 c_t_work), (A_t 11, eJ cJ 10 c_t_fallAbove), (A_t 12, eJ cJ 10 c_t_fallBelow), (A_t 13, eI cI 10 c_t_ranks)] sz) := by
  refine yM (cc := cX5_rank) (maxL := 5) (ret := (some .int)) RX5 (by decide) rfl rfl (Nat.le_of_ble_eq_true rfl) ?_
  intro p e s m below meth c Γ hr
  have loop31 : ∀ (n : Nat) (y1 : Int32) (y2 : Int32) (y3 : Int32) (y4 : Int32) (d_t_many : Int32) (d_t_below : Int64) (d_t_above1 : Int64) (d_t_below1 : Int64) (d_t_now : Nat → Int32) (d_t_heapOf : Nat → Int32) (d_t_partOf : Nat → Int32) (d_t_place : Nat → Int32) (d_t_matrix : Nat → Int64) (d_t_right : Nat → Int64) (d_t_force : Nat → Int64) (d_t_work : Nat → Int64) (d_t_fallAbove : Nat → Int64) (d_t_fallBelow : Nat → Int64) (d_t_ranks : Nat → Int32) (w0 : Int32) (w1 : Nat → Int32), fX5_rank_L31 N n y1 y2 y3 y4 d_t_above1 d_t_below1 d_t_fallAbove d_t_fallBelow d_t_ranks = some (w0, w1) → yG p l e (headSpec wsX5_rank rmX5_rank).room s m (List.toArray [.ref h_t, .int x1]) below meth c D (va_A [(h_t, oR A_t c_t_many c_t_below c_t_above1 c_t_below1), (A_t 0, eI cI 242 c_t_now), (A_t 2, eI cI 6 c_t_heapOf), (A_t 3, eI cI 6 c_t_partOf), (A_t 4, eI cI 6 c_t_place), (A_t 5, eJ cJ 36 c_t_matrix), (A_t 6, eJ cJ 6 c_t_right), (A_t 7, eJ cJ 6 c_t_force), (A_t 8, eJ cJ 216 c_t_work), (A_t 11, eJ cJ 10 c_t_fallAbove), (A_t 12, eJ cJ 10 c_t_fallBelow), (A_t 13, eI cI 10 c_t_ranks)] sz) 5 0 0 (MQ below (yQi D (yT cI cJ cZ cW cR) r [(h_t, oR A_t c_t_many zc_t_below zc_t_above1 zc_t_below1), (A_t 0, eI cI 242 zc_t_now), (A_t 2, eI cI 6 zc_t_heapOf), (A_t 3, eI cI 6 zc_t_partOf), (A_t 4, eI cI 6 zc_t_place), (A_t 5, eJ cJ 36 zc_t_matrix), (A_t 6, eJ cJ 6 zc_t_right), (A_t 7, eJ cJ 6 zc_t_force), (A_t 8, eJ cJ 216 zc_t_work), (A_t 11, eJ cJ 10 zc_t_fallAbove), (A_t 12, eJ cJ 10 zc_t_fallBelow), (A_t 13, eI cI 10 zc_t_ranks)] (va_A [(h_t, oR A_t c_t_many c_t_below c_t_above1 c_t_below1), (A_t 0, eI cI 242 c_t_now), (A_t 2, eI cI 6 c_t_heapOf), (A_t 3, eI cI 6 c_t_partOf), (A_t 4, eI cI 6 c_t_place), (A_t 5, eJ cJ 36 c_t_matrix), (A_t 6, eJ cJ 6 c_t_right), (A_t 7, eJ cJ 6 c_t_force), (A_t 8, eJ cJ 216 c_t_work), (A_t 11, eJ cJ 10 c_t_fallAbove), (A_t 12, eJ cJ 10 c_t_fallBelow), (A_t 13, eI cI 10 c_t_ranks)] sz)) (List.toArray [.ref h_t, .int x1]) s 0 0 (va_A [(h_t, oR A_t c_t_many c_t_below c_t_above1 c_t_below1), (A_t 0, eI cI 242 c_t_now), (A_t 2, eI cI 6 c_t_heapOf), (A_t 3, eI cI 6 c_t_partOf), (A_t 4, eI cI 6 c_t_place), (A_t 5, eJ cJ 36 c_t_matrix), (A_t 6, eJ cJ 6 c_t_right), (A_t 7, eJ cJ 6 c_t_force), (A_t 8, eJ cJ 216 c_t_work), (A_t 11, eJ cJ 10 c_t_fallAbove), (A_t 12, eJ cJ 10 c_t_fallBelow), (A_t 13, eI cI 10 c_t_ranks)] sz)) 100 [(0, .ref h_t), (1, .int y1), (2, .int y2), (3, .int y3), (4, .int w0)] [] [(h_t, oR A_t d_t_many d_t_below d_t_above1 d_t_below1), (A_t 0, eI cI 242 d_t_now), (A_t 2, eI cI 6 d_t_heapOf), (A_t 3, eI cI 6 d_t_partOf), (A_t 4, eI cI 6 d_t_place), (A_t 5, eJ cJ 36 d_t_matrix), (A_t 6, eJ cJ 6 d_t_right), (A_t 7, eJ cJ 6 d_t_force), (A_t 8, eJ cJ 216 d_t_work), (A_t 11, eJ cJ 10 d_t_fallAbove), (A_t 12, eJ cJ 10 d_t_fallBelow), (A_t 13, eI cI 10 w1)] → yG p l e (headSpec wsX5_rank rmX5_rank).room s m (List.toArray [.ref h_t, .int x1]) below meth c D (va_A [(h_t, oR A_t c_t_many c_t_below c_t_above1 c_t_below1), (A_t 0, eI cI 242 c_t_now), (A_t 2, eI cI 6 c_t_heapOf), (A_t 3, eI cI 6 c_t_partOf), (A_t 4, eI cI 6 c_t_place), (A_t 5, eJ cJ 36 c_t_matrix), (A_t 6, eJ cJ 6 c_t_right), (A_t 7, eJ cJ 6 c_t_force), (A_t 8, eJ cJ 216 c_t_work), (A_t 11, eJ cJ 10 c_t_fallAbove), (A_t 12, eJ cJ 10 c_t_fallBelow), (A_t 13, eI cI 10 c_t_ranks)] sz) 5 0 0 (MQ below (yQi D (yT cI cJ cZ cW cR) r [(h_t, oR A_t c_t_many zc_t_below zc_t_above1 zc_t_below1), (A_t 0, eI cI 242 zc_t_now), (A_t 2, eI cI 6 zc_t_heapOf), (A_t 3, eI cI 6 zc_t_partOf), (A_t 4, eI cI 6 zc_t_place), (A_t 5, eJ cJ 36 zc_t_matrix), (A_t 6, eJ cJ 6 zc_t_right), (A_t 7, eJ cJ 6 zc_t_force), (A_t 8, eJ cJ 216 zc_t_work), (A_t 11, eJ cJ 10 zc_t_fallAbove), (A_t 12, eJ cJ 10 zc_t_fallBelow), (A_t 13, eI cI 10 zc_t_ranks)] (va_A [(h_t, oR A_t c_t_many c_t_below c_t_above1 c_t_below1), (A_t 0, eI cI 242 c_t_now), (A_t 2, eI cI 6 c_t_heapOf), (A_t 3, eI cI 6 c_t_partOf), (A_t 4, eI cI 6 c_t_place), (A_t 5, eJ cJ 36 c_t_matrix), (A_t 6, eJ cJ 6 c_t_right), (A_t 7, eJ cJ 6 c_t_force), (A_t 8, eJ cJ 216 c_t_work), (A_t 11, eJ cJ 10 c_t_fallAbove), (A_t 12, eJ cJ 10 c_t_fallBelow), (A_t 13, eI cI 10 c_t_ranks)] sz)) (List.toArray [.ref h_t, .int x1]) s 0 0 (va_A [(h_t, oR A_t c_t_many c_t_below c_t_above1 c_t_below1), (A_t 0, eI cI 242 c_t_now), (A_t 2, eI cI 6 c_t_heapOf), (A_t 3, eI cI 6 c_t_partOf), (A_t 4, eI cI 6 c_t_place), (A_t 5, eJ cJ 36 c_t_matrix), (A_t 6, eJ cJ 6 c_t_right), (A_t 7, eJ cJ 6 c_t_force), (A_t 8, eJ cJ 216 c_t_work), (A_t 11, eJ cJ 10 c_t_fallAbove), (A_t 12, eJ cJ 10 c_t_fallBelow), (A_t 13, eI cI 10 c_t_ranks)] sz)) 31 [(0, .ref h_t), (1, .int y1), (2, .int y2), (3, .int y3), (4, .int y4)] [] [(h_t, oR A_t d_t_many d_t_below d_t_above1 d_t_below1), (A_t 0, eI cI 242 d_t_now), (A_t 2, eI cI 6 d_t_heapOf), (A_t 3, eI cI 6 d_t_partOf), (A_t 4, eI cI 6 d_t_place), (A_t 5, eJ cJ 36 d_t_matrix), (A_t 6, eJ cJ 6 d_t_right), (A_t 7, eJ cJ 6 d_t_force), (A_t 8, eJ cJ 216 d_t_work), (A_t 11, eJ cJ 10 d_t_fallAbove), (A_t 12, eJ cJ 10 d_t_fallBelow), (A_t 13, eI cI 10 d_t_ranks)] := by
    intro n
    induction n with
    | zero =>
      intro y1 y2 y3 y4 d_t_many d_t_below d_t_above1 d_t_below1 d_t_now d_t_heapOf d_t_partOf d_t_place d_t_matrix d_t_right d_t_force d_t_work d_t_fallAbove d_t_fallBelow d_t_ranks w0 w1 hf
      cases hf
    | succ n ih =>
      intro y1 y2 y3 y4 d_t_many d_t_below d_t_above1 d_t_below1 d_t_now d_t_heapOf d_t_partOf d_t_place d_t_matrix d_t_right d_t_force d_t_work d_t_fallAbove d_t_fallBelow d_t_ranks w0 w1 hf hk
      unfold fX5_rank_L31 at hf
      refine g_iload Γ 4 dX5_rank_31 rfl ?_
      refine g_if_le Γ 100 dX5_rank_33 (by decide) (fun c20 => ?_) (fun c20 => ?_)
      · have hf := ya_if1 c20 hf
        cases hf
        exact hk
      · have hf := ya_if2 c20 hf
        refine g_aload_n Γ 0 dX5_rank_36 rfl ?_
        refine g_get Γ fX5_rank_149 0 rfl rfl dX5_rank_37 ?_
        refine g_aload_n Γ 0 dX5_rank_40 rfl ?_
        refine g_get Γ fX5_rank_152 0 rfl rfl dX5_rank_41 ?_
        refine g_aload_n Γ 0 dX5_rank_44 rfl ?_
        refine g_get Γ fX5_rank_45 0 rfl rfl dX5_rank_45 ?_
        refine g_aload_n Γ 0 dX5_rank_48 rfl ?_
        refine g_get Γ fX5_rank_51 0 rfl rfl dX5_rank_49 ?_
        refine g_iload Γ 4 dX5_rank_52 rfl ?_
        refine g_iconst (v := 1) Γ dX5_rank_54 (by decide) ?_
        refine g_isub Γ dX5_rank_55 ?_
        obtain ⟨v21, e22, hf⟩ := ya_ob hf
        refine g_iald Γ e22 11 0 rfl rfl dX5_rank_56 ?_
        obtain ⟨v23, e24, hf⟩ := ya_ob hf
        refine g_lald Γ e24 9 1 rfl rfl dX5_rank_57 ?_
        refine g_aload_n Γ 0 dX5_rank_58 rfl ?_
        refine g_get Γ fX5_rank_48 0 rfl rfl dX5_rank_59 ?_
        refine g_aload_n Γ 0 dX5_rank_62 rfl ?_
        refine g_get Γ fX5_rank_51 0 rfl rfl dX5_rank_63 ?_
        refine g_iload Γ 4 dX5_rank_66 rfl ?_
        refine g_iconst (v := 1) Γ dX5_rank_68 (by decide) ?_
        refine g_isub Γ dX5_rank_69 ?_
        obtain ⟨v25, e26, hf⟩ := ya_ob hf
        refine g_iald Γ e26 11 0 rfl rfl dX5_rank_70 ?_
        obtain ⟨v27, e28, hf⟩ := ya_ob hf
        refine g_lald Γ e28 10 1 rfl rfl dX5_rank_71 ?_
        obtain ⟨v29, e30, hf⟩ := ya_ob hf
        refine g_si (wr := [(h_t, oR A_t d_t_many d_t_below d_t_above1 d_t_below1), (A_t 0, eI cI 242 d_t_now), (A_t 2, eI cI 6 d_t_heapOf), (A_t 3, eI cI 6 d_t_partOf), (A_t 4, eI cI 6 d_t_place), (A_t 5, eJ cJ 36 d_t_matrix), (A_t 6, eJ cJ 6 d_t_right), (A_t 7, eJ cJ 6 d_t_force), (A_t 8, eJ cJ 216 d_t_work), (A_t 11, eJ cJ 10 d_t_fallAbove), (A_t 12, eJ cJ 10 d_t_fallBelow), (A_t 13, eI cI 10 d_t_ranks)]) (ws' := [(h_t, oR A_t d_t_many d_t_below d_t_above1 d_t_below1), (A_t 0, eI cI 242 d_t_now), (A_t 2, eI cI 6 d_t_heapOf), (A_t 3, eI cI 6 d_t_partOf), (A_t 4, eI cI 6 d_t_place), (A_t 5, eJ cJ 36 d_t_matrix), (A_t 6, eJ cJ 6 d_t_right), (A_t 7, eJ cJ 6 d_t_force), (A_t 8, eJ cJ 216 d_t_work), (A_t 11, eJ cJ 10 d_t_fallAbove), (A_t 12, eJ cJ 10 d_t_fallBelow), (A_t 13, eI cI 10 d_t_ranks)]) Γ (fun sz => mX5_isMore (l := l) (D := D) (sz := sz) (cI := cI) (cJ := cJ) (cZ := cZ) (cW := cW) (cR := cR)  (hf := e30)) eX5_isMore ggX5_rank_X5_isMore (by decide +kernel) (by decide +kernel) (by decide +kernel) rfl rfl (Nat.le_of_ble_eq_true rfl) ⟨Nat.le_of_ble_eq_true rfl, Nat.le_of_ble_eq_true rfl⟩ dX5_rank_72 [] [0, 1, 2, 3, 4, 5, 6, 7, 8, 9, 10, 11] rfl rfl rfl rfl (by decide) rfl ?_
        refine g_if_eq Γ 100 dX5_rank_75 (by decide) (fun c31 => ?_) (fun c31 => ?_)
        · have hf := ya_if1 c31 hf
          cases hf
          exact hk
        · have hf := ya_if2 c31 hf
          refine g_aload_n Γ 0 dX5_rank_78 rfl ?_
          refine g_get Γ fX5_rank_51 0 rfl rfl dX5_rank_79 ?_
          refine g_iload Γ 4 dX5_rank_82 rfl ?_
          refine g_aload_n Γ 0 dX5_rank_84 rfl ?_
          refine g_get Γ fX5_rank_51 0 rfl rfl dX5_rank_85 ?_
          refine g_iload Γ 4 dX5_rank_88 rfl ?_
          refine g_iconst (v := 1) Γ dX5_rank_90 (by decide) ?_
          refine g_isub Γ dX5_rank_91 ?_
          obtain ⟨v32, e33, hf⟩ := ya_ob hf
          refine g_iald Γ e33 11 0 rfl rfl dX5_rank_92 ?_
          obtain ⟨v34, e35, hf⟩ := ya_ob hf
          refine g_iast (ws' := [(h_t, oR A_t d_t_many d_t_below d_t_above1 d_t_below1), (A_t 0, eI cI 242 d_t_now), (A_t 2, eI cI 6 d_t_heapOf), (A_t 3, eI cI 6 d_t_partOf), (A_t 4, eI cI 6 d_t_place), (A_t 5, eJ cJ 36 d_t_matrix), (A_t 6, eJ cJ 6 d_t_right), (A_t 7, eJ cJ 6 d_t_force), (A_t 8, eJ cJ 216 d_t_work), (A_t 11, eJ cJ 10 d_t_fallAbove), (A_t 12, eJ cJ 10 d_t_fallBelow), (A_t 13, eI cI 10 v34)]) Γ e35 11 0 rfl rfl dX5_rank_93 rfl ?_
          obtain ⟨v36, e37, hf⟩ := ya_lt_inv hf
          refine g_iinc (lv' := [(4, .int v36), (0, .ref h_t), (1, .int y1), (2, .int y2), (3, .int y3)]) Γ 4 dX5_rank_94 rfl (by rw [e37]; rfl) (by decide) rfl ?_
          refine g_goto Γ 31 dX5_rank_97 (by decide) ?_
          refine g_lv [1, 2, 3, 4, 0] rfl ?_
          exact ih _ _ _ _ _ _ _ _ _ _ _ _ _ _ _ _ _ _ _ _ _ hf hk
  have loop4 : ∀ (n : Nat) (y1 : Int32) (y2 : Int32) (y3 : Int32) (d_t_many : Int32) (d_t_below : Int64) (d_t_above1 : Int64) (d_t_below1 : Int64) (d_t_now : Nat → Int32) (d_t_heapOf : Nat → Int32) (d_t_partOf : Nat → Int32) (d_t_place : Nat → Int32) (d_t_matrix : Nat → Int64) (d_t_right : Nat → Int64) (d_t_force : Nat → Int64) (d_t_work : Nat → Int64) (d_t_fallAbove : Nat → Int64) (d_t_fallBelow : Nat → Int64) (d_t_ranks : Nat → Int32) (w0 : Int32) (w1 : Int64) (w2 : Int64) (w3 : Int64) (w4 : Nat → Int32) (w5 : Nat → Int32) (w6 : Nat → Int32) (w7 : Nat → Int32) (w8 : Nat → Int64) (w9 : Nat → Int64) (w10 : Nat → Int64) (w11 : Nat → Int64) (w12 : Nat → Int64) (w13 : Nat → Int64) (w14 : Nat → Int32), fX5_rank_L4 N n y1 y2 y3 d_t_below d_t_above1 d_t_below1 d_t_now d_t_heapOf d_t_partOf d_t_place d_t_matrix d_t_right d_t_force d_t_work d_t_fallAbove d_t_fallBelow d_t_ranks = some (w0, w1, w2, w3, w4, w5, w6, w7, w8, w9, w10, w11, w12, w13, w14) → yG p l e (headSpec wsX5_rank rmX5_rank).room s m (List.toArray [.ref h_t, .int x1]) below meth c D (va_A [(h_t, oR A_t c_t_many c_t_below c_t_above1 c_t_below1), (A_t 0, eI cI 242 c_t_now), (A_t 2, eI cI 6 c_t_heapOf), (A_t 3, eI cI 6 c_t_partOf), (A_t 4, eI cI 6 c_t_place), (A_t 5, eJ cJ 36 c_t_matrix), (A_t 6, eJ cJ 6 c_t_right), (A_t 7, eJ cJ 6 c_t_force), (A_t 8, eJ cJ 216 c_t_work), (A_t 11, eJ cJ 10 c_t_fallAbove), (A_t 12, eJ cJ 10 c_t_fallBelow), (A_t 13, eI cI 10 c_t_ranks)] sz) 5 0 0 (MQ below (yQi D (yT cI cJ cZ cW cR) r [(h_t, oR A_t c_t_many zc_t_below zc_t_above1 zc_t_below1), (A_t 0, eI cI 242 zc_t_now), (A_t 2, eI cI 6 zc_t_heapOf), (A_t 3, eI cI 6 zc_t_partOf), (A_t 4, eI cI 6 zc_t_place), (A_t 5, eJ cJ 36 zc_t_matrix), (A_t 6, eJ cJ 6 zc_t_right), (A_t 7, eJ cJ 6 zc_t_force), (A_t 8, eJ cJ 216 zc_t_work), (A_t 11, eJ cJ 10 zc_t_fallAbove), (A_t 12, eJ cJ 10 zc_t_fallBelow), (A_t 13, eI cI 10 zc_t_ranks)] (va_A [(h_t, oR A_t c_t_many c_t_below c_t_above1 c_t_below1), (A_t 0, eI cI 242 c_t_now), (A_t 2, eI cI 6 c_t_heapOf), (A_t 3, eI cI 6 c_t_partOf), (A_t 4, eI cI 6 c_t_place), (A_t 5, eJ cJ 36 c_t_matrix), (A_t 6, eJ cJ 6 c_t_right), (A_t 7, eJ cJ 6 c_t_force), (A_t 8, eJ cJ 216 c_t_work), (A_t 11, eJ cJ 10 c_t_fallAbove), (A_t 12, eJ cJ 10 c_t_fallBelow), (A_t 13, eI cI 10 c_t_ranks)] sz)) (List.toArray [.ref h_t, .int x1]) s 0 0 (va_A [(h_t, oR A_t c_t_many c_t_below c_t_above1 c_t_below1), (A_t 0, eI cI 242 c_t_now), (A_t 2, eI cI 6 c_t_heapOf), (A_t 3, eI cI 6 c_t_partOf), (A_t 4, eI cI 6 c_t_place), (A_t 5, eJ cJ 36 c_t_matrix), (A_t 6, eJ cJ 6 c_t_right), (A_t 7, eJ cJ 6 c_t_force), (A_t 8, eJ cJ 216 c_t_work), (A_t 11, eJ cJ 10 c_t_fallAbove), (A_t 12, eJ cJ 10 c_t_fallBelow), (A_t 13, eI cI 10 c_t_ranks)] sz)) 137 [(0, .ref h_t), (1, .int y1), (2, .int w0)] [] [(h_t, oR A_t d_t_many w1 w2 w3), (A_t 0, eI cI 242 w4), (A_t 2, eI cI 6 w5), (A_t 3, eI cI 6 w6), (A_t 4, eI cI 6 w7), (A_t 5, eJ cJ 36 w8), (A_t 6, eJ cJ 6 w9), (A_t 7, eJ cJ 6 w10), (A_t 8, eJ cJ 216 w11), (A_t 11, eJ cJ 10 w12), (A_t 12, eJ cJ 10 w13), (A_t 13, eI cI 10 w14)] → yG p l e (headSpec wsX5_rank rmX5_rank).room s m (List.toArray [.ref h_t, .int x1]) below meth c D (va_A [(h_t, oR A_t c_t_many c_t_below c_t_above1 c_t_below1), (A_t 0, eI cI 242 c_t_now), (A_t 2, eI cI 6 c_t_heapOf), (A_t 3, eI cI 6 c_t_partOf), (A_t 4, eI cI 6 c_t_place), (A_t 5, eJ cJ 36 c_t_matrix), (A_t 6, eJ cJ 6 c_t_right), (A_t 7, eJ cJ 6 c_t_force), (A_t 8, eJ cJ 216 c_t_work), (A_t 11, eJ cJ 10 c_t_fallAbove), (A_t 12, eJ cJ 10 c_t_fallBelow), (A_t 13, eI cI 10 c_t_ranks)] sz) 5 0 0 (MQ below (yQi D (yT cI cJ cZ cW cR) r [(h_t, oR A_t c_t_many zc_t_below zc_t_above1 zc_t_below1), (A_t 0, eI cI 242 zc_t_now), (A_t 2, eI cI 6 zc_t_heapOf), (A_t 3, eI cI 6 zc_t_partOf), (A_t 4, eI cI 6 zc_t_place), (A_t 5, eJ cJ 36 zc_t_matrix), (A_t 6, eJ cJ 6 zc_t_right), (A_t 7, eJ cJ 6 zc_t_force), (A_t 8, eJ cJ 216 zc_t_work), (A_t 11, eJ cJ 10 zc_t_fallAbove), (A_t 12, eJ cJ 10 zc_t_fallBelow), (A_t 13, eI cI 10 zc_t_ranks)] (va_A [(h_t, oR A_t c_t_many c_t_below c_t_above1 c_t_below1), (A_t 0, eI cI 242 c_t_now), (A_t 2, eI cI 6 c_t_heapOf), (A_t 3, eI cI 6 c_t_partOf), (A_t 4, eI cI 6 c_t_place), (A_t 5, eJ cJ 36 c_t_matrix), (A_t 6, eJ cJ 6 c_t_right), (A_t 7, eJ cJ 6 c_t_force), (A_t 8, eJ cJ 216 c_t_work), (A_t 11, eJ cJ 10 c_t_fallAbove), (A_t 12, eJ cJ 10 c_t_fallBelow), (A_t 13, eI cI 10 c_t_ranks)] sz)) (List.toArray [.ref h_t, .int x1]) s 0 0 (va_A [(h_t, oR A_t c_t_many c_t_below c_t_above1 c_t_below1), (A_t 0, eI cI 242 c_t_now), (A_t 2, eI cI 6 c_t_heapOf), (A_t 3, eI cI 6 c_t_partOf), (A_t 4, eI cI 6 c_t_place), (A_t 5, eJ cJ 36 c_t_matrix), (A_t 6, eJ cJ 6 c_t_right), (A_t 7, eJ cJ 6 c_t_force), (A_t 8, eJ cJ 216 c_t_work), (A_t 11, eJ cJ 10 c_t_fallAbove), (A_t 12, eJ cJ 10 c_t_fallBelow), (A_t 13, eI cI 10 c_t_ranks)] sz)) 4 [(0, .ref h_t), (1, .int y1), (2, .int y2), (3, .int y3)] [] [(h_t, oR A_t d_t_many d_t_below d_t_above1 d_t_below1), (A_t 0, eI cI 242 d_t_now), (A_t 2, eI cI 6 d_t_heapOf), (A_t 3, eI cI 6 d_t_partOf), (A_t 4, eI cI 6 d_t_place), (A_t 5, eJ cJ 36 d_t_matrix), (A_t 6, eJ cJ 6 d_t_right), (A_t 7, eJ cJ 6 d_t_force), (A_t 8, eJ cJ 216 d_t_work), (A_t 11, eJ cJ 10 d_t_fallAbove), (A_t 12, eJ cJ 10 d_t_fallBelow), (A_t 13, eI cI 10 d_t_ranks)] := by
    intro n
    induction n with
    | zero =>
      intro y1 y2 y3 d_t_many d_t_below d_t_above1 d_t_below1 d_t_now d_t_heapOf d_t_partOf d_t_place d_t_matrix d_t_right d_t_force d_t_work d_t_fallAbove d_t_fallBelow d_t_ranks w0 w1 w2 w3 w4 w5 w6 w7 w8 w9 w10 w11 w12 w13 w14 hf
      cases hf
    | succ n ih =>
      intro y1 y2 y3 d_t_many d_t_below d_t_above1 d_t_below1 d_t_now d_t_heapOf d_t_partOf d_t_place d_t_matrix d_t_right d_t_force d_t_work d_t_fallAbove d_t_fallBelow d_t_ranks w0 w1 w2 w3 w4 w5 w6 w7 w8 w9 w10 w11 w12 w13 w14 hf hk
      unfold fX5_rank_L4 at hf
      refine g_iload_n Γ 3 dX5_rank_4 rfl ?_
      refine g_aload_n Γ 0 dX5_rank_5 rfl ?_
      obtain ⟨v1, e2, hf⟩ := ya_ob hf
      refine g_vi (q := (RX5, TX5, 19)) (wr := [(A_t 2, eI cI 6 d_t_heapOf), (A_t 3, eI cI 6 d_t_partOf), (A_t 4, eI cI 6 d_t_place), (A_t 5, eJ cJ 36 d_t_matrix), (A_t 6, eJ cJ 6 d_t_right), (A_t 7, eJ cJ 6 d_t_force), (A_t 8, eJ cJ 216 d_t_work), (A_t 11, eJ cJ 10 d_t_fallAbove), (A_t 12, eJ cJ 10 d_t_fallBelow), (A_t 13, eI cI 10 d_t_ranks)]) (ws' := [(A_t 2, eI cI 6 d_t_heapOf), (A_t 3, eI cI 6 d_t_partOf), (A_t 4, eI cI 6 d_t_place), (A_t 5, eJ cJ 36 d_t_matrix), (A_t 6, eJ cJ 6 d_t_right), (A_t 7, eJ cJ 6 d_t_force), (A_t 8, eJ cJ 216 d_t_work), (A_t 11, eJ cJ 10 d_t_fallAbove), (A_t 12, eJ cJ 10 d_t_fallBelow), (A_t 13, eI cI 10 d_t_ranks), (h_t, oR A_t d_t_many d_t_below d_t_above1 d_t_below1), (A_t 0, eI cI 242 d_t_now)]) Γ (fun sz => mX5_flows (l := l) (D := D) (sz := sz) (cI := cI) (cJ := cJ) (cZ := cZ) (cW := cW) (cR := cR) (h_t := h_t) (A_t := A_t) (hf := e2)) eX5_flows gX5_rank_X5_flows rfl rfl 0 rfl rfl rfl (Nat.le_of_ble_eq_true rfl) ⟨Nat.le_of_ble_eq_true rfl, Nat.le_of_ble_eq_true rfl⟩ dX5_rank_6 [0, 1] [2, 3, 4, 5, 6, 7, 8, 9, 10, 11] rfl rfl rfl rfl (by decide) rfl ?_
      refine g_icmp_ge Γ 137 dX5_rank_9 (by decide) (fun c3 => ?_) (fun c3 => ?_)
      · have hf := ya_if1 c3 hf
        cases hf
        refine g_lv [0, 1, 2] rfl ?_
        refine g_ws (ws' := [(h_t, oR A_t d_t_many d_t_below d_t_above1 d_t_below1), (A_t 0, eI cI 242 d_t_now), (A_t 2, eI cI 6 d_t_heapOf), (A_t 3, eI cI 6 d_t_partOf), (A_t 4, eI cI 6 d_t_place), (A_t 5, eJ cJ 36 d_t_matrix), (A_t 6, eJ cJ 6 d_t_right), (A_t 7, eJ cJ 6 d_t_force), (A_t 8, eJ cJ 216 d_t_work), (A_t 11, eJ cJ 10 d_t_fallAbove), (A_t 12, eJ cJ 10 d_t_fallBelow), (A_t 13, eI cI 10 d_t_ranks)]) [10, 11, 0, 1, 2, 3, 4, 5, 6, 7, 8, 9] rfl rfl ?_
        exact hk
      · have hf := ya_if2 c3 hf
        refine g_aload_n Γ 0 dX5_rank_12 rfl ?_
        refine g_iload_n Γ 3 dX5_rank_13 rfl ?_
        obtain ⟨⟨v4, v5⟩, e6, hf⟩ := ya_ob hf
        refine g_vi (q := (RX5, TX5, 19)) (wr := [(A_t 3, eI cI 6 d_t_partOf), (A_t 4, eI cI 6 d_t_place), (A_t 5, eJ cJ 36 d_t_matrix), (A_t 6, eJ cJ 6 d_t_right), (A_t 7, eJ cJ 6 d_t_force), (A_t 8, eJ cJ 216 d_t_work), (A_t 11, eJ cJ 10 d_t_fallAbove), (A_t 12, eJ cJ 10 d_t_fallBelow), (A_t 13, eI cI 10 d_t_ranks)]) (ws' := [(A_t 3, eI cI 6 d_t_partOf), (A_t 4, eI cI 6 d_t_place), (A_t 5, eJ cJ 36 d_t_matrix), (A_t 6, eJ cJ 6 d_t_right), (A_t 7, eJ cJ 6 d_t_force), (A_t 8, eJ cJ 216 d_t_work), (A_t 11, eJ cJ 10 d_t_fallAbove), (A_t 12, eJ cJ 10 d_t_fallBelow), (A_t 13, eI cI 10 d_t_ranks), (h_t, oR A_t d_t_many d_t_below d_t_above1 d_t_below1), (A_t 0, eI cI 242 d_t_now), (A_t 2, eI cI 6 v5)]) Γ (fun sz => mX5_isSpare (l := l) (D := D) (sz := sz) (cI := cI) (cJ := cJ) (cZ := cZ) (cW := cW) (cR := cR) (h_t := h_t) (A_t := A_t) (hf := e6)) eX5_isSpare gX5_rank_X5_isSpare rfl rfl 0 rfl rfl rfl (Nat.le_of_ble_eq_true rfl) ⟨Nat.le_of_ble_eq_true rfl, Nat.le_of_ble_eq_true rfl⟩ dX5_rank_14 [10, 11, 0] [1, 2, 3, 4, 5, 6, 7, 8, 9] rfl rfl rfl rfl (by decide) rfl ?_
        refine g_if_ne Γ 23 dX5_rank_17 (by decide) (fun c7 => ?_) (fun c7 => ?_)
        · have hf := ya_if2 c7 hf
          refine g_aload_n Γ 0 dX5_rank_23 rfl ?_
          refine g_iload_n Γ 3 dX5_rank_24 rfl ?_
          obtain ⟨⟨v8, v9, v10, v11, v12, v13, v14, v15, v16, v17, v18⟩, e19, hf⟩ := ya_ob hf
          refine g_vv (q := (RX5, TX5, 19)) (wr := [(A_t 11, eJ cJ 10 d_t_fallAbove), (A_t 12, eJ cJ 10 d_t_fallBelow), (A_t 13, eI cI 10 d_t_ranks)]) (ws' := [(A_t 11, eJ cJ 10 d_t_fallAbove), (A_t 12, eJ cJ 10 d_t_fallBelow), (A_t 13, eI cI 10 d_t_ranks), (h_t, oR A_t d_t_many v8 v9 v10), (A_t 0, eI cI 242 v11), (A_t 2, eI cI 6 v12), (A_t 3, eI cI 6 v13), (A_t 4, eI cI 6 v14), (A_t 5, eJ cJ 36 v15), (A_t 6, eJ cJ 6 v16), (A_t 7, eJ cJ 6 v17), (A_t 8, eJ cJ 216 v18)]) Γ (fun sz => mX5_fallOf (l := l) (D := D) (sz := sz) (cI := cI) (cJ := cJ) (cZ := cZ) (cW := cW) (cR := cR) (h_t := h_t) (A_t := A_t) (hf := e19)) eX5_fallOf gX5_rank_X5_fallOf rfl rfl 0 rfl rfl rfl (Nat.le_of_ble_eq_true rfl) ⟨Nat.le_of_ble_eq_true rfl, Nat.le_of_ble_eq_true rfl⟩ dX5_rank_25 [9, 10, 11, 0, 1, 2, 3, 4, 5] [6, 7, 8] rfl rfl rfl rfl (by decide) rfl ?_
          refine g_iload_n Γ 2 dX5_rank_28 rfl ?_
          refine g_istore (lv' := [(4, .int y2), (0, .ref h_t), (1, .int y1), (2, .int y2), (3, .int y3)]) Γ dX5_rank_29 (by decide) rfl ?_
          obtain ⟨⟨v38, v39⟩, e40, hf⟩ := ya_ob hf
          refine g_lv [1, 2, 3, 4, 0] rfl ?_
          refine g_ws (ws' := [(h_t, oR A_t d_t_many v8 v9 v10), (A_t 0, eI cI 242 v11), (A_t 2, eI cI 6 v12), (A_t 3, eI cI 6 v13), (A_t 4, eI cI 6 v14), (A_t 5, eJ cJ 36 v15), (A_t 6, eJ cJ 6 v16), (A_t 7, eJ cJ 6 v17), (A_t 8, eJ cJ 216 v18), (A_t 11, eJ cJ 10 d_t_fallAbove), (A_t 12, eJ cJ 10 d_t_fallBelow), (A_t 13, eI cI 10 d_t_ranks)]) [3, 4, 5, 6, 7, 8, 9, 10, 11, 0, 1, 2] rfl rfl ?_
          refine loop31 N _ _ _ _ _ _ _ _ _ _ _ _ _ _ _ _ _ _ _ _ _ e40  ?_
          refine g_aload_n Γ 0 dX5_rank_100 rfl ?_
          refine g_get Γ fX5_rank_51 0 rfl rfl dX5_rank_101 ?_
          refine g_iload Γ 4 dX5_rank_104 rfl ?_
          refine g_iload_n Γ 3 dX5_rank_106 rfl ?_
          obtain ⟨v41, e42, hf⟩ := ya_ob hf
          refine g_iast (ws' := [(h_t, oR A_t d_t_many v8 v9 v10), (A_t 0, eI cI 242 v11), (A_t 2, eI cI 6 v12), (A_t 3, eI cI 6 v13), (A_t 4, eI cI 6 v14), (A_t 5, eJ cJ 36 v15), (A_t 6, eJ cJ 6 v16), (A_t 7, eJ cJ 6 v17), (A_t 8, eJ cJ 216 v18), (A_t 11, eJ cJ 10 d_t_fallAbove), (A_t 12, eJ cJ 10 d_t_fallBelow), (A_t 13, eI cI 10 v41)]) Γ e42 11 0 rfl rfl dX5_rank_107 rfl ?_
          refine g_aload_n Γ 0 dX5_rank_108 rfl ?_
          refine g_get Γ fX5_rank_45 0 rfl rfl dX5_rank_109 ?_
          refine g_iload_n Γ 3 dX5_rank_112 rfl ?_
          refine g_aload_n Γ 0 dX5_rank_113 rfl ?_
          refine g_get Γ fX5_rank_149 0 rfl rfl dX5_rank_114 ?_
          obtain ⟨v43, e44, hf⟩ := ya_ob hf
          refine g_last (ws' := [(h_t, oR A_t d_t_many v8 v9 v10), (A_t 0, eI cI 242 v11), (A_t 2, eI cI 6 v12), (A_t 3, eI cI 6 v13), (A_t 4, eI cI 6 v14), (A_t 5, eJ cJ 36 v15), (A_t 6, eJ cJ 6 v16), (A_t 7, eJ cJ 6 v17), (A_t 8, eJ cJ 216 v18), (A_t 11, eJ cJ 10 v43), (A_t 12, eJ cJ 10 d_t_fallBelow), (A_t 13, eI cI 10 v41)]) Γ e44 9 1 rfl rfl dX5_rank_117 rfl ?_
          refine g_aload_n Γ 0 dX5_rank_118 rfl ?_
          refine g_get Γ fX5_rank_48 0 rfl rfl dX5_rank_119 ?_
          refine g_iload_n Γ 3 dX5_rank_122 rfl ?_
          refine g_aload_n Γ 0 dX5_rank_123 rfl ?_
          refine g_get Γ fX5_rank_152 0 rfl rfl dX5_rank_124 ?_
          obtain ⟨v45, e46, hf⟩ := ya_ob hf
          refine g_last (ws' := [(h_t, oR A_t d_t_many v8 v9 v10), (A_t 0, eI cI 242 v11), (A_t 2, eI cI 6 v12), (A_t 3, eI cI 6 v13), (A_t 4, eI cI 6 v14), (A_t 5, eJ cJ 36 v15), (A_t 6, eJ cJ 6 v16), (A_t 7, eJ cJ 6 v17), (A_t 8, eJ cJ 216 v18), (A_t 11, eJ cJ 10 v43), (A_t 12, eJ cJ 10 v45), (A_t 13, eI cI 10 v41)]) Γ e46 10 1 rfl rfl dX5_rank_127 rfl ?_
          obtain ⟨v47, e48, hf⟩ := ya_lt_inv hf
          refine g_iinc (lv' := [(2, .int v47), (0, .ref h_t), (1, .int y1), (3, .int y3), (4, .int v38)]) Γ 2 dX5_rank_128 rfl (by rw [e48]; rfl) (by decide) rfl ?_
          obtain ⟨v49, e50, hf⟩ := ya_lt_inv hf
          refine g_iinc (lv' := [(3, .int v49), (2, .int v47), (0, .ref h_t), (1, .int y1), (4, .int v38)]) Γ 3 dX5_rank_131 rfl (by rw [e50]; rfl) (by decide) rfl ?_
          refine g_goto Γ 4 dX5_rank_134 (by decide) ?_
          refine g_lv [2, 3, 1, 0] rfl ?_
          exact ih _ _ _ _ _ _ _ _ _ _ _ _ _ _ _ _ _ _ _ _ _ _ _ _ _ _ _ _ _ _ _ _ _ hf hk
        · have hf := ya_if1 c7 hf
          refine g_goto Γ 131 dX5_rank_20 (by decide) ?_
          obtain ⟨v51, e52, hf⟩ := ya_lt_inv hf
          refine g_iinc (lv' := [(3, .int v51), (0, .ref h_t), (1, .int y1), (2, .int y2)]) Γ 3 dX5_rank_131 rfl (by rw [e52]; rfl) (by decide) rfl ?_
          refine g_goto Γ 4 dX5_rank_134 (by decide) ?_
          refine g_lv [1, 2, 3, 0] rfl ?_
          refine g_ws (ws' := [(h_t, oR A_t d_t_many d_t_below d_t_above1 d_t_below1), (A_t 0, eI cI 242 d_t_now), (A_t 2, eI cI 6 v5), (A_t 3, eI cI 6 d_t_partOf), (A_t 4, eI cI 6 d_t_place), (A_t 5, eJ cJ 36 d_t_matrix), (A_t 6, eJ cJ 6 d_t_right), (A_t 7, eJ cJ 6 d_t_force), (A_t 8, eJ cJ 216 d_t_work), (A_t 11, eJ cJ 10 d_t_fallAbove), (A_t 12, eJ cJ 10 d_t_fallBelow), (A_t 13, eI cI 10 d_t_ranks)]) [9, 10, 11, 0, 1, 2, 3, 4, 5, 6, 7, 8] rfl rfl ?_
          exact ih _ _ _ _ _ _ _ _ _ _ _ _ _ _ _ _ _ _ _ _ _ _ _ _ _ _ _ _ _ _ _ _ _ hf hk
  show yG p l e (headSpec wsX5_rank rmX5_rank).room s m (List.toArray [.ref h_t, .int x1]) below meth c D (va_A [(h_t, oR A_t c_t_many c_t_below c_t_above1 c_t_below1), (A_t 0, eI cI 242 c_t_now), (A_t 2, eI cI 6 c_t_heapOf), (A_t 3, eI cI 6 c_t_partOf), (A_t 4, eI cI 6 c_t_place), (A_t 5, eJ cJ 36 c_t_matrix), (A_t 6, eJ cJ 6 c_t_right), (A_t 7, eJ cJ 6 c_t_force), (A_t 8, eJ cJ 216 c_t_work), (A_t 11, eJ cJ 10 c_t_fallAbove), (A_t 12, eJ cJ 10 c_t_fallBelow), (A_t 13, eI cI 10 c_t_ranks)] sz) 5 0 0 (MQ below (yQi D (yT cI cJ cZ cW cR) r [(h_t, oR A_t c_t_many zc_t_below zc_t_above1 zc_t_below1), (A_t 0, eI cI 242 zc_t_now), (A_t 2, eI cI 6 zc_t_heapOf), (A_t 3, eI cI 6 zc_t_partOf), (A_t 4, eI cI 6 zc_t_place), (A_t 5, eJ cJ 36 zc_t_matrix), (A_t 6, eJ cJ 6 zc_t_right), (A_t 7, eJ cJ 6 zc_t_force), (A_t 8, eJ cJ 216 zc_t_work), (A_t 11, eJ cJ 10 zc_t_fallAbove), (A_t 12, eJ cJ 10 zc_t_fallBelow), (A_t 13, eI cI 10 zc_t_ranks)] (va_A [(h_t, oR A_t c_t_many c_t_below c_t_above1 c_t_below1), (A_t 0, eI cI 242 c_t_now), (A_t 2, eI cI 6 c_t_heapOf), (A_t 3, eI cI 6 c_t_partOf), (A_t 4, eI cI 6 c_t_place), (A_t 5, eJ cJ 36 c_t_matrix), (A_t 6, eJ cJ 6 c_t_right), (A_t 7, eJ cJ 6 c_t_force), (A_t 8, eJ cJ 216 c_t_work), (A_t 11, eJ cJ 10 c_t_fallAbove), (A_t 12, eJ cJ 10 c_t_fallBelow), (A_t 13, eI cI 10 c_t_ranks)] sz)) (List.toArray [.ref h_t, .int x1]) s 0 0 (va_A [(h_t, oR A_t c_t_many c_t_below c_t_above1 c_t_below1), (A_t 0, eI cI 242 c_t_now), (A_t 2, eI cI 6 c_t_heapOf), (A_t 3, eI cI 6 c_t_partOf), (A_t 4, eI cI 6 c_t_place), (A_t 5, eJ cJ 36 c_t_matrix), (A_t 6, eJ cJ 6 c_t_right), (A_t 7, eJ cJ 6 c_t_force), (A_t 8, eJ cJ 216 c_t_work), (A_t 11, eJ cJ 10 c_t_fallAbove), (A_t 12, eJ cJ 10 c_t_fallBelow), (A_t 13, eI cI 10 c_t_ranks)] sz)) 0 [(0, .ref h_t), (1, .int x1)] [] [(h_t, oR A_t c_t_many c_t_below c_t_above1 c_t_below1), (A_t 0, eI cI 242 c_t_now), (A_t 2, eI cI 6 c_t_heapOf), (A_t 3, eI cI 6 c_t_partOf), (A_t 4, eI cI 6 c_t_place), (A_t 5, eJ cJ 36 c_t_matrix), (A_t 6, eJ cJ 6 c_t_right), (A_t 7, eJ cJ 6 c_t_force), (A_t 8, eJ cJ 216 c_t_work), (A_t 11, eJ cJ 10 c_t_fallAbove), (A_t 12, eJ cJ 10 c_t_fallBelow), (A_t 13, eI cI 10 c_t_ranks)]
  unfold fX5_rank at hf
  refine g_iconst (v := 0) Γ dX5_rank_0 (by decide) ?_
  refine g_istore_n (lv' := [(2, .int 0), (0, .ref h_t), (1, .int x1)]) Γ dX5_rank_1 (by decide) rfl ?_
  refine g_iconst (v := 0) Γ dX5_rank_2 (by decide) ?_
  refine g_istore_n (lv' := [(3, .int 0), (2, .int 0), (0, .ref h_t), (1, .int x1)]) Γ dX5_rank_3 (by decide) rfl ?_
  obtain ⟨⟨v53, v54, v55, v56, v57, v58, v59, v60, v61, v62, v63, v64, v65, v66, v67⟩, e68, hf⟩ := ya_ob hf
  refine g_lv [2, 3, 1, 0] rfl ?_
  refine loop4 N _ _ _ _ _ _ _ _ _ _ _ _ _ _ _ _ _ _ _ _ _ _ _ _ _ _ _ _ _ _ _ _ _ e68  ?_
  refine g_iload_n Γ 1 dX5_rank_137 rfl ?_
  refine g_iconst (v := 0) Γ dX5_rank_138 (by decide) ?_
  refine g_iload_n Γ 2 dX5_rank_139 rfl ?_
  refine g_iconst (v := 1) Γ dX5_rank_140 (by decide) ?_
  refine g_isub Γ dX5_rank_141 ?_
  obtain ⟨v69, e70, hf⟩ := ya_ob hf
  refine g_si (wr := [(h_t, oR A_t c_t_many v54 v55 v56), (A_t 0, eI cI 242 v57), (A_t 2, eI cI 6 v58), (A_t 3, eI cI 6 v59), (A_t 4, eI cI 6 v60), (A_t 5, eJ cJ 36 v61), (A_t 6, eJ cJ 6 v62), (A_t 7, eJ cJ 6 v63), (A_t 8, eJ cJ 216 v64), (A_t 11, eJ cJ 10 v65), (A_t 12, eJ cJ 10 v66), (A_t 13, eI cI 10 v67)]) (ws' := [(h_t, oR A_t c_t_many v54 v55 v56), (A_t 0, eI cI 242 v57), (A_t 2, eI cI 6 v58), (A_t 3, eI cI 6 v59), (A_t 4, eI cI 6 v60), (A_t 5, eJ cJ 36 v61), (A_t 6, eJ cJ 6 v62), (A_t 7, eJ cJ 6 v63), (A_t 8, eJ cJ 216 v64), (A_t 11, eJ cJ 10 v65), (A_t 12, eJ cJ 10 v66), (A_t 13, eI cI 10 v67)]) Γ (fun sz => mX5_isIn (l := l) (D := D) (sz := sz) (cI := cI) (cJ := cJ) (cZ := cZ) (cW := cW) (cR := cR)  (hf := e70)) eX5_isIn ggX5_rank_X5_isIn (by decide +kernel) (by decide +kernel) (by decide +kernel) rfl rfl (Nat.le_of_ble_eq_true rfl) ⟨Nat.le_of_ble_eq_true rfl, Nat.le_of_ble_eq_true rfl⟩ dX5_rank_142 [] [0, 1, 2, 3, 4, 5, 6, 7, 8, 9, 10, 11] rfl rfl rfl rfl (by decide) rfl ?_
  refine g_if_eq Γ 157 dX5_rank_145 (by decide) (fun c71 => ?_) (fun c71 => ?_)
  · have hf := ya_if1 c71 hf
    refine g_iconst (v := (-1)) Γ dX5_rank_157 (by decide) ?_
    cases hf
    exact g_iret Γ hr dX5_rank_158 [0, 1, 2, 3, 4, 5, 6, 7, 8, 9, 10, 11] rfl rfl
  · have hf := ya_if2 c71 hf
    refine g_aload_n Γ 0 dX5_rank_148 rfl ?_
    refine g_get Γ fX5_rank_51 0 rfl rfl dX5_rank_149 ?_
    refine g_iload_n Γ 1 dX5_rank_152 rfl ?_
    obtain ⟨v72, e73, hf⟩ := ya_ob hf
    refine g_iald Γ e73 11 0 rfl rfl dX5_rank_153 ?_
    refine g_goto Γ 158 dX5_rank_154 (by decide) ?_
    cases hf
    exact g_iret Γ hr dX5_rank_158 [0, 1, 2, 3, 4, 5, 6, 7, 8, 9, 10, 11] rfl rfl

set_option maxRecDepth 20000 in
theorem ggX5_alike_X5_isFlow : GoodIn wsX5_alike wsX5_isFlow := goodIn_r _ [6, 7, 8, 9, 5, 10, 11, 12, 13, 14, 31, 32, 33, 34, 35, 36, 37, 38, 39, 40, 41, 42, 43, 44, 45, 46, 47, 48, 49] rfl (by decide +kernel)
set_option maxRecDepth 20000 in
theorem gX5_alike_X5_isFlow : GoodIn wsX5_alike (wsV RX5 83 RX5 yX5_isFlow wsX5_isFlow) := goodIn_app (goodIn_of _ (by decide +kernel)) ggX5_alike_X5_isFlow
set_option maxRecDepth 20000 in
theorem ggX5_alike_X5_isSpare : GoodIn wsX5_alike wsX5_isSpare := goodIn_r _ [18, 1, 19, 20, 21, 5, 22, 7, 8, 9, 10, 11, 23, 24, 25, 26, 27, 28, 29, 30, 31, 32, 33, 34, 35, 36, 37, 38, 39, 40, 41, 42, 43, 44, 45, 46, 47, 48, 49] rfl (by decide +kernel)
set_option maxRecDepth 20000 in
theorem gX5_alike_X5_isSpare : GoodIn wsX5_alike (wsV RX5 146 RX5 yX5_isSpare wsX5_isSpare) := goodIn_app (goodIn_of _ (by decide +kernel)) ggX5_alike_X5_isSpare
set_option maxRecDepth 20000 in
theorem ggX5_alike_X5_get : GoodIn wsX5_alike wsX5_get := goodIn_r _ [30, 11, 31, 32, 33, 34, 35, 36, 37, 38, 39, 40, 41, 42, 43, 44, 45, 46, 47, 48, 49] rfl (by decide +kernel)
set_option maxRecDepth 20000 in
theorem gX5_alike_X5_get : GoodIn wsX5_alike (wsV RX5 86 RX5 yX5_get wsX5_get) := goodIn_app (goodIn_of _ (by decide +kernel)) ggX5_alike_X5_get
theorem dX5_alike_0 : decode cX5_alike 0 = .ok (.aload_n 0, 1) := by decide +kernel
theorem dX5_alike_1 : decode cX5_alike 1 = .ok (.iload_n 1, 1) := by decide +kernel
theorem dX5_alike_2 : decode cX5_alike 2 = .ok (.invokevirtual 83, 3) := by decide +kernel
theorem dX5_alike_5 : decode cX5_alike 5 = .ok (.ifCond .eq 32, 3) := by decide +kernel
theorem dX5_alike_8 : decode cX5_alike 8 = .ok (.aload_n 0, 1) := by decide +kernel
theorem dX5_alike_9 : decode cX5_alike 9 = .ok (.iload_n 2, 1) := by decide +kernel
theorem dX5_alike_10 : decode cX5_alike 10 = .ok (.invokevirtual 83, 3) := by decide +kernel
theorem dX5_alike_13 : decode cX5_alike 13 = .ok (.ifCond .eq 24, 3) := by decide +kernel
theorem dX5_alike_16 : decode cX5_alike 16 = .ok (.iload_n 1, 1) := by decide +kernel
theorem dX5_alike_17 : decode cX5_alike 17 = .ok (.iload_n 2, 1) := by decide +kernel
theorem dX5_alike_18 : decode cX5_alike 18 = .ok (.if_icmp .eq 19, 3) := by decide +kernel
theorem dX5_alike_21 : decode cX5_alike 21 = .ok (.aload_n 0, 1) := by decide +kernel
theorem dX5_alike_22 : decode cX5_alike 22 = .ok (.iload_n 1, 1) := by decide +kernel
theorem dX5_alike_23 : decode cX5_alike 23 = .ok (.invokevirtual 146, 3) := by decide +kernel
theorem dX5_alike_26 : decode cX5_alike 26 = .ok (.ifCond .eq 11, 3) := by decide +kernel
theorem dX5_alike_29 : decode cX5_alike 29 = .ok (.aload_n 0, 1) := by decide +kernel
theorem dX5_alike_30 : decode cX5_alike 30 = .ok (.iload_n 2, 1) := by decide +kernel
theorem dX5_alike_31 : decode cX5_alike 31 = .ok (.invokevirtual 146, 3) := by decide +kernel
theorem dX5_alike_34 : decode cX5_alike 34 = .ok (.ifCond .ne 5, 3) := by decide +kernel
theorem dX5_alike_37 : decode cX5_alike 37 = .ok (.iconst 0, 1) := by decide +kernel
theorem dX5_alike_38 : decode cX5_alike 38 = .ok (.ireturn, 1) := by decide +kernel
theorem dX5_alike_39 : decode cX5_alike 39 = .ok (.aload_n 0, 1) := by decide +kernel
theorem dX5_alike_40 : decode cX5_alike 40 = .ok (.getfield 16, 3) := by decide +kernel
theorem dX5_alike_43 : decode cX5_alike 43 = .ok (.aload_n 0, 1) := by decide +kernel
theorem dX5_alike_44 : decode cX5_alike 44 = .ok (.iload_n 1, 1) := by decide +kernel
theorem dX5_alike_45 : decode cX5_alike 45 = .ok (.iconst 0, 1) := by decide +kernel
theorem dX5_alike_46 : decode cX5_alike 46 = .ok (.invokevirtual 86, 3) := by decide +kernel
theorem dX5_alike_49 : decode cX5_alike 49 = .ok (.iaload, 1) := by decide +kernel
theorem dX5_alike_50 : decode cX5_alike 50 = .ok (.istore_n 3, 1) := by decide +kernel
theorem dX5_alike_51 : decode cX5_alike 51 = .ok (.aload_n 0, 1) := by decide +kernel
theorem dX5_alike_52 : decode cX5_alike 52 = .ok (.getfield 16, 3) := by decide +kernel
theorem dX5_alike_55 : decode cX5_alike 55 = .ok (.aload_n 0, 1) := by decide +kernel
theorem dX5_alike_56 : decode cX5_alike 56 = .ok (.iload_n 1, 1) := by decide +kernel
theorem dX5_alike_57 : decode cX5_alike 57 = .ok (.iconst 1, 1) := by decide +kernel
theorem dX5_alike_58 : decode cX5_alike 58 = .ok (.invokevirtual 86, 3) := by decide +kernel
theorem dX5_alike_61 : decode cX5_alike 61 = .ok (.iaload, 1) := by decide +kernel
theorem dX5_alike_62 : decode cX5_alike 62 = .ok (.istore 4, 2) := by decide +kernel
theorem dX5_alike_64 : decode cX5_alike 64 = .ok (.aload_n 0, 1) := by decide +kernel
theorem dX5_alike_65 : decode cX5_alike 65 = .ok (.getfield 16, 3) := by decide +kernel
theorem dX5_alike_68 : decode cX5_alike 68 = .ok (.aload_n 0, 1) := by decide +kernel
theorem dX5_alike_69 : decode cX5_alike 69 = .ok (.iload_n 2, 1) := by decide +kernel
theorem dX5_alike_70 : decode cX5_alike 70 = .ok (.iconst 0, 1) := by decide +kernel
theorem dX5_alike_71 : decode cX5_alike 71 = .ok (.invokevirtual 86, 3) := by decide +kernel
theorem dX5_alike_74 : decode cX5_alike 74 = .ok (.iaload, 1) := by decide +kernel
theorem dX5_alike_75 : decode cX5_alike 75 = .ok (.istore 5, 2) := by decide +kernel
theorem dX5_alike_77 : decode cX5_alike 77 = .ok (.aload_n 0, 1) := by decide +kernel
theorem dX5_alike_78 : decode cX5_alike 78 = .ok (.getfield 16, 3) := by decide +kernel
theorem dX5_alike_81 : decode cX5_alike 81 = .ok (.aload_n 0, 1) := by decide +kernel
theorem dX5_alike_82 : decode cX5_alike 82 = .ok (.iload_n 2, 1) := by decide +kernel
theorem dX5_alike_83 : decode cX5_alike 83 = .ok (.iconst 1, 1) := by decide +kernel
theorem dX5_alike_84 : decode cX5_alike 84 = .ok (.invokevirtual 86, 3) := by decide +kernel
theorem dX5_alike_87 : decode cX5_alike 87 = .ok (.iaload, 1) := by decide +kernel
theorem dX5_alike_88 : decode cX5_alike 88 = .ok (.istore 6, 2) := by decide +kernel
theorem dX5_alike_90 : decode cX5_alike 90 = .ok (.iload_n 3, 1) := by decide +kernel
theorem dX5_alike_91 : decode cX5_alike 91 = .ok (.iload 5, 2) := by decide +kernel
theorem dX5_alike_93 : decode cX5_alike 93 = .ok (.if_icmp .ne 10, 3) := by decide +kernel
theorem dX5_alike_96 : decode cX5_alike 96 = .ok (.iload 4, 2) := by decide +kernel
theorem dX5_alike_98 : decode cX5_alike 98 = .ok (.iload 6, 2) := by decide +kernel
theorem dX5_alike_100 : decode cX5_alike 100 = .ok (.if_icmp .eq 16, 3) := by decide +kernel
theorem dX5_alike_103 : decode cX5_alike 103 = .ok (.iload_n 3, 1) := by decide +kernel
theorem dX5_alike_104 : decode cX5_alike 104 = .ok (.iload 6, 2) := by decide +kernel
theorem dX5_alike_106 : decode cX5_alike 106 = .ok (.if_icmp .ne 14, 3) := by decide +kernel
theorem dX5_alike_109 : decode cX5_alike 109 = .ok (.iload 4, 2) := by decide +kernel
theorem dX5_alike_111 : decode cX5_alike 111 = .ok (.iload 5, 2) := by decide +kernel
theorem dX5_alike_113 : decode cX5_alike 113 = .ok (.if_icmp .ne 7, 3) := by decide +kernel
theorem dX5_alike_116 : decode cX5_alike 116 = .ok (.iconst 1, 1) := by decide +kernel
theorem dX5_alike_117 : decode cX5_alike 117 = .ok (.goto 4, 3) := by decide +kernel
theorem dX5_alike_120 : decode cX5_alike 120 = .ok (.iconst 0, 1) := by decide +kernel
theorem dX5_alike_121 : decode cX5_alike 121 = .ok (.ireturn, 1) := by decide +kernel
/-! ===== FlowMetersModel.alike(II)Z ===== -/
def fX5_alike (N : Nat) (c_t_now : Nat → Int32) (c_t_heapOf : Nat → Int32) (x1 : Int32) (x2 : Int32) : Option (Int32 × (Nat → Int32)) :=
  (fX5_isFlow c_t_now x1).bind fun v1 =>
  (if v1 = 0 then
    some (0, c_t_heapOf)
  else
    (fX5_isFlow c_t_now x2).bind fun v4 =>
    (if v4 = 0 then
      some (0, c_t_heapOf)
    else
      (if x1 = x2 then
        some (0, c_t_heapOf)
      else
        (fX5_isSpare N c_t_now c_t_heapOf x1).bind fun (v8, v9) =>
        (if v8 = 0 then
          some (0, v9)
        else
          (fX5_isSpare N c_t_now v9 x2).bind fun (v12, v13) =>
          (if v12 = 0 then
            some (0, v13)
          else
            (fX5_get c_t_now x1 0).bind fun v16 =>
            (ya_rd v13 6 v16).bind fun v18 =>
            (fX5_get c_t_now x1 1).bind fun v20 =>
            (ya_rd v13 6 v20).bind fun v22 =>
            (fX5_get c_t_now x2 0).bind fun v24 =>
            (ya_rd v13 6 v24).bind fun v26 =>
            (fX5_get c_t_now x2 1).bind fun v28 =>
            (ya_rd v13 6 v28).bind fun v30 =>
            (if v18 = v26 then
              (if v22 = v30 then
                some (1, v13)
              else
                (if v18 = v30 then
                  (if v22 = v26 then
                    some (1, v13)
                  else
                    some (0, v13))
                else
                  some (0, v13)))
            else
              (if v18 = v30 then
                (if v22 = v26 then
                  some (1, v13)
                else
                  some (0, v13))
              else
                some (0, v13))))))))
theorem fX5_alike_16 : yF wsX5_alike RX5 16 5 3 RX5 TX5 19 := ⟨rfl, by decide, by decide +kernel, by decide +kernel⟩
abbrev rmX5_alike : Room := { frames := 4, cells := 0, slots := 0, locals := 89 }
theorem eX5_alike : yY yX5_alike wsX5_alike cX5_alike 7 (some .boolean) rmX5_alike 2 := ⟨⟨_, rfl⟩, rfl, rfl, by decide, by decide, by decide +kernel⟩
set_option maxHeartbeats 4000000 in
set_option maxRecDepth 100000 in
theorem mX5_alike {l : Launch} {D : va_G} {sz : Nat} {cI cJ cZ cW cR : ClassId} {N : Nat} {h_t : Nat} {A_t : Nat → Nat} {c_t_many : Int32} {c_t_below : Int64} {c_t_above1 : Int64} {c_t_below1 : Int64} {c_t_now : Nat → Int32} {c_t_heapOf : Nat → Int32} {x1 : Int32} {x2 : Int32} {r : Int32} {zc_t_heapOf : Nat → Int32} (hf : fX5_alike N c_t_now c_t_heapOf x1 x2 = some (r, zc_t_heapOf)) : Met l yX5_alike wsX5_alike rmX5_alike (yP D (yT cI cJ cZ cW cR) [(h_t, oR A_t c_t_many c_t_below c_t_above1 c_t_below1), (A_t 0, eI cI 242 c_t_now), (A_t 2, eI cI 6 c_t_heapOf)] sz [.ref h_t, .int x1, .int x2]) (yQi D (yT cI cJ cZ cW cR) r [(h_t, oR A_t c_t_many c_t_below c_t_above1 c_t_below1), (A_t 0, eI cI 242 c_t_now), (A_t 2, eI cI 6 zc_t_heapOf)] (va_A [(h_t, oR A_t c_t_many c_t_below c_t_above1 c_t_below1), (A_t 0, eI cI 242 c_t_now), (A_t 2, eI cI 6 c_t_heapOf)] sz)) 0 0 (va_A [(h_t, oR A_t c_t_many c_t_below c_t_above1 c_t_below1), (A_t 0, eI cI 242 c_t_now), (A_t 2, eI cI 6 c_t_heapOf)] sz) := by
  refine yM (cc := cX5_alike) (maxL := 7) (ret := (some .boolean)) RX5 (by decide) rfl rfl (Nat.le_of_ble_eq_true rfl) ?_
  intro p e s m below meth c Γ hr
  show yG p l e (headSpec wsX5_alike rmX5_alike).room s m (List.toArray [.ref h_t, .int x1, .int x2]) below meth c D (va_A [(h_t, oR A_t c_t_many c_t_below c_t_above1 c_t_below1), (A_t 0, eI cI 242 c_t_now), (A_t 2, eI cI 6 c_t_heapOf)] sz) 7 0 0 (MQ below (yQi D (yT cI cJ cZ cW cR) r [(h_t, oR A_t c_t_many c_t_below c_t_above1 c_t_below1), (A_t 0, eI cI 242 c_t_now), (A_t 2, eI cI 6 zc_t_heapOf)] (va_A [(h_t, oR A_t c_t_many c_t_below c_t_above1 c_t_below1), (A_t 0, eI cI 242 c_t_now), (A_t 2, eI cI 6 c_t_heapOf)] sz)) (List.toArray [.ref h_t, .int x1, .int x2]) s 0 0 (va_A [(h_t, oR A_t c_t_many c_t_below c_t_above1 c_t_below1), (A_t 0, eI cI 242 c_t_now), (A_t 2, eI cI 6 c_t_heapOf)] sz)) 0 [(0, .ref h_t), (1, .int x1), (2, .int x2)] [] [(h_t, oR A_t c_t_many c_t_below c_t_above1 c_t_below1), (A_t 0, eI cI 242 c_t_now), (A_t 2, eI cI 6 c_t_heapOf)]
  unfold fX5_alike at hf
  refine g_aload_n Γ 0 dX5_alike_0 rfl ?_
  refine g_iload_n Γ 1 dX5_alike_1 rfl ?_
  obtain ⟨v1, e2, hf⟩ := ya_ob hf
  refine g_vi (q := (RX5, TX5, 19)) (wr := [(A_t 2, eI cI 6 c_t_heapOf)]) (ws' := [(A_t 2, eI cI 6 c_t_heapOf), (h_t, oR A_t c_t_many c_t_below c_t_above1 c_t_below1), (A_t 0, eI cI 242 c_t_now)]) Γ (fun sz => mX5_isFlow (l := l) (D := D) (sz := sz) (cI := cI) (cJ := cJ) (cZ := cZ) (cW := cW) (cR := cR) (h_t := h_t) (A_t := A_t) (hf := e2)) eX5_isFlow gX5_alike_X5_isFlow rfl rfl 0 rfl rfl rfl (Nat.le_of_ble_eq_true rfl) ⟨Nat.le_of_ble_eq_true rfl, Nat.le_of_ble_eq_true rfl⟩ dX5_alike_2 [0, 1] [2] rfl rfl rfl rfl (by decide) rfl ?_
  refine g_if_eq Γ 37 dX5_alike_5 (by decide) (fun c3 => ?_) (fun c3 => ?_)
  · have hf := ya_if1 c3 hf
    refine g_iconst (v := 0) Γ dX5_alike_37 (by decide) ?_
    cases hf
    exact g_zret Γ hr (show ya_bo 0 = some 0 from rfl) dX5_alike_38 [1, 2, 0] rfl rfl
  · have hf := ya_if2 c3 hf
    refine g_aload_n Γ 0 dX5_alike_8 rfl ?_
    refine g_iload_n Γ 2 dX5_alike_9 rfl ?_
    obtain ⟨v4, e5, hf⟩ := ya_ob hf
    refine g_vi (q := (RX5, TX5, 19)) (wr := [(A_t 2, eI cI 6 c_t_heapOf)]) (ws' := [(A_t 2, eI cI 6 c_t_heapOf), (h_t, oR A_t c_t_many c_t_below c_t_above1 c_t_below1), (A_t 0, eI cI 242 c_t_now)]) Γ (fun sz => mX5_isFlow (l := l) (D := D) (sz := sz) (cI := cI) (cJ := cJ) (cZ := cZ) (cW := cW) (cR := cR) (h_t := h_t) (A_t := A_t) (hf := e5)) eX5_isFlow gX5_alike_X5_isFlow rfl rfl 0 rfl rfl rfl (Nat.le_of_ble_eq_true rfl) ⟨Nat.le_of_ble_eq_true rfl, Nat.le_of_ble_eq_true rfl⟩ dX5_alike_10 [1, 2] [0] rfl rfl rfl rfl (by decide) rfl ?_
    refine g_if_eq Γ 37 dX5_alike_13 (by decide) (fun c6 => ?_) (fun c6 => ?_)
    · have hf := ya_if1 c6 hf
      refine g_iconst (v := 0) Γ dX5_alike_37 (by decide) ?_
      cases hf
      exact g_zret Γ hr (show ya_bo 0 = some 0 from rfl) dX5_alike_38 [1, 2, 0] rfl rfl
    · have hf := ya_if2 c6 hf
      refine g_iload_n Γ 1 dX5_alike_16 rfl ?_
      refine g_iload_n Γ 2 dX5_alike_17 rfl ?_
      refine g_icmp_eq Γ 37 dX5_alike_18 (by decide) (fun c7 => ?_) (fun c7 => ?_)
      · have hf := ya_if1 c7 hf
        refine g_iconst (v := 0) Γ dX5_alike_37 (by decide) ?_
        cases hf
        exact g_zret Γ hr (show ya_bo 0 = some 0 from rfl) dX5_alike_38 [1, 2, 0] rfl rfl
      · have hf := ya_if2 c7 hf
        refine g_aload_n Γ 0 dX5_alike_21 rfl ?_
        refine g_iload_n Γ 1 dX5_alike_22 rfl ?_
        obtain ⟨⟨v8, v9⟩, e10, hf⟩ := ya_ob hf
        refine g_vi (q := (RX5, TX5, 19)) (wr := []) (ws' := [(h_t, oR A_t c_t_many c_t_below c_t_above1 c_t_below1), (A_t 0, eI cI 242 c_t_now), (A_t 2, eI cI 6 v9)]) Γ (fun sz => mX5_isSpare (l := l) (D := D) (sz := sz) (cI := cI) (cJ := cJ) (cZ := cZ) (cW := cW) (cR := cR) (h_t := h_t) (A_t := A_t) (hf := e10)) eX5_isSpare gX5_alike_X5_isSpare rfl rfl 0 rfl rfl rfl (Nat.le_of_ble_eq_true rfl) ⟨Nat.le_of_ble_eq_true rfl, Nat.le_of_ble_eq_true rfl⟩ dX5_alike_23 [1, 2, 0] [] rfl rfl rfl rfl (by decide) rfl ?_
        refine g_if_eq Γ 37 dX5_alike_26 (by decide) (fun c11 => ?_) (fun c11 => ?_)
        · have hf := ya_if1 c11 hf
          refine g_iconst (v := 0) Γ dX5_alike_37 (by decide) ?_
          cases hf
          exact g_zret Γ hr (show ya_bo 0 = some 0 from rfl) dX5_alike_38 [0, 1, 2] rfl rfl
        · have hf := ya_if2 c11 hf
          refine g_aload_n Γ 0 dX5_alike_29 rfl ?_
          refine g_iload_n Γ 2 dX5_alike_30 rfl ?_
          obtain ⟨⟨v12, v13⟩, e14, hf⟩ := ya_ob hf
          refine g_vi (q := (RX5, TX5, 19)) (wr := []) (ws' := [(h_t, oR A_t c_t_many c_t_below c_t_above1 c_t_below1), (A_t 0, eI cI 242 c_t_now), (A_t 2, eI cI 6 v13)]) Γ (fun sz => mX5_isSpare (l := l) (D := D) (sz := sz) (cI := cI) (cJ := cJ) (cZ := cZ) (cW := cW) (cR := cR) (h_t := h_t) (A_t := A_t) (hf := e14)) eX5_isSpare gX5_alike_X5_isSpare rfl rfl 0 rfl rfl rfl (Nat.le_of_ble_eq_true rfl) ⟨Nat.le_of_ble_eq_true rfl, Nat.le_of_ble_eq_true rfl⟩ dX5_alike_31 [0, 1, 2] [] rfl rfl rfl rfl (by decide) rfl ?_
          refine g_if_ne Γ 39 dX5_alike_34 (by decide) (fun c15 => ?_) (fun c15 => ?_)
          · have hf := ya_if2 c15 hf
            refine g_aload_n Γ 0 dX5_alike_39 rfl ?_
            refine g_get Γ fX5_alike_16 0 rfl rfl dX5_alike_40 ?_
            refine g_aload_n Γ 0 dX5_alike_43 rfl ?_
            refine g_iload_n Γ 1 dX5_alike_44 rfl ?_
            refine g_iconst (v := 0) Γ dX5_alike_45 (by decide) ?_
            obtain ⟨v16, e17, hf⟩ := ya_ob hf
            refine g_vi (q := (RX5, TX5, 19)) (wr := [(A_t 2, eI cI 6 v13)]) (ws' := [(A_t 2, eI cI 6 v13), (h_t, oR A_t c_t_many c_t_below c_t_above1 c_t_below1), (A_t 0, eI cI 242 c_t_now)]) Γ (fun sz => mX5_get (l := l) (D := D) (sz := sz) (cI := cI) (cJ := cJ) (cZ := cZ) (cW := cW) (cR := cR) (h_t := h_t) (A_t := A_t) (hf := e17)) eX5_get gX5_alike_X5_get rfl rfl 0 rfl rfl rfl (Nat.le_of_ble_eq_true rfl) ⟨Nat.le_of_ble_eq_true rfl, Nat.le_of_ble_eq_true rfl⟩ dX5_alike_46 [0, 1] [2] rfl rfl rfl rfl (by decide) rfl ?_
            obtain ⟨v18, e19, hf⟩ := ya_ob hf
            refine g_iald Γ e19 0 0 rfl rfl dX5_alike_49 ?_
            refine g_istore_n (lv' := [(3, .int v18), (0, .ref h_t), (1, .int x1), (2, .int x2)]) Γ dX5_alike_50 (by decide) rfl ?_
            refine g_aload_n Γ 1 dX5_alike_51 rfl ?_
            refine g_get Γ fX5_alike_16 1 rfl rfl dX5_alike_52 ?_
            refine g_aload_n Γ 1 dX5_alike_55 rfl ?_
            refine g_iload_n Γ 2 dX5_alike_56 rfl ?_
            refine g_iconst (v := 1) Γ dX5_alike_57 (by decide) ?_
            obtain ⟨v20, e21, hf⟩ := ya_ob hf
            refine g_vi (q := (RX5, TX5, 19)) (wr := [(A_t 2, eI cI 6 v13)]) (ws' := [(A_t 2, eI cI 6 v13), (h_t, oR A_t c_t_many c_t_below c_t_above1 c_t_below1), (A_t 0, eI cI 242 c_t_now)]) Γ (fun sz => mX5_get (l := l) (D := D) (sz := sz) (cI := cI) (cJ := cJ) (cZ := cZ) (cW := cW) (cR := cR) (h_t := h_t) (A_t := A_t) (hf := e21)) eX5_get gX5_alike_X5_get rfl rfl 0 rfl rfl rfl (Nat.le_of_ble_eq_true rfl) ⟨Nat.le_of_ble_eq_true rfl, Nat.le_of_ble_eq_true rfl⟩ dX5_alike_58 [1, 2] [0] rfl rfl rfl rfl (by decide) rfl ?_
            obtain ⟨v22, e23, hf⟩ := ya_ob hf
            refine g_iald Γ e23 0 0 rfl rfl dX5_alike_61 ?_
            refine g_istore (lv' := [(4, .int v22), (3, .int v18), (0, .ref h_t), (1, .int x1), (2, .int x2)]) Γ dX5_alike_62 (by decide) rfl ?_
            refine g_aload_n Γ 2 dX5_alike_64 rfl ?_
            refine g_get Γ fX5_alike_16 1 rfl rfl dX5_alike_65 ?_
            refine g_aload_n Γ 2 dX5_alike_68 rfl ?_
            refine g_iload_n Γ 4 dX5_alike_69 rfl ?_
            refine g_iconst (v := 0) Γ dX5_alike_70 (by decide) ?_
            obtain ⟨v24, e25, hf⟩ := ya_ob hf
            refine g_vi (q := (RX5, TX5, 19)) (wr := [(A_t 2, eI cI 6 v13)]) (ws' := [(A_t 2, eI cI 6 v13), (h_t, oR A_t c_t_many c_t_below c_t_above1 c_t_below1), (A_t 0, eI cI 242 c_t_now)]) Γ (fun sz => mX5_get (l := l) (D := D) (sz := sz) (cI := cI) (cJ := cJ) (cZ := cZ) (cW := cW) (cR := cR) (h_t := h_t) (A_t := A_t) (hf := e25)) eX5_get gX5_alike_X5_get rfl rfl 0 rfl rfl rfl (Nat.le_of_ble_eq_true rfl) ⟨Nat.le_of_ble_eq_true rfl, Nat.le_of_ble_eq_true rfl⟩ dX5_alike_71 [1, 2] [0] rfl rfl rfl rfl (by decide) rfl ?_
            obtain ⟨v26, e27, hf⟩ := ya_ob hf
            refine g_iald Γ e27 0 0 rfl rfl dX5_alike_74 ?_
            refine g_istore (lv' := [(5, .int v26), (4, .int v22), (3, .int v18), (0, .ref h_t), (1, .int x1), (2, .int x2)]) Γ dX5_alike_75 (by decide) rfl ?_
            refine g_aload_n Γ 3 dX5_alike_77 rfl ?_
            refine g_get Γ fX5_alike_16 1 rfl rfl dX5_alike_78 ?_
            refine g_aload_n Γ 3 dX5_alike_81 rfl ?_
            refine g_iload_n Γ 5 dX5_alike_82 rfl ?_
            refine g_iconst (v := 1) Γ dX5_alike_83 (by decide) ?_
            obtain ⟨v28, e29, hf⟩ := ya_ob hf
            refine g_vi (q := (RX5, TX5, 19)) (wr := [(A_t 2, eI cI 6 v13)]) (ws' := [(A_t 2, eI cI 6 v13), (h_t, oR A_t c_t_many c_t_below c_t_above1 c_t_below1), (A_t 0, eI cI 242 c_t_now)]) Γ (fun sz => mX5_get (l := l) (D := D) (sz := sz) (cI := cI) (cJ := cJ) (cZ := cZ) (cW := cW) (cR := cR) (h_t := h_t) (A_t := A_t) (hf := e29)) eX5_get gX5_alike_X5_get rfl rfl 0 rfl rfl rfl (Nat.le_of_ble_eq_true rfl) ⟨Nat.le_of_ble_eq_true rfl, Nat.le_of_ble_eq_true rfl⟩ dX5_alike_84 [1, 2] [0] rfl rfl rfl rfl (by decide) rfl ?_
            obtain ⟨v30, e31, hf⟩ := ya_ob hf
            refine g_iald Γ e31 0 0 rfl rfl dX5_alike_87 ?_
            refine g_istore (lv' := [(6, .int v30), (5, .int v26), (4, .int v22), (3, .int v18), (0, .ref h_t), (1, .int x1), (2, .int x2)]) Γ dX5_alike_88 (by decide) rfl ?_
            refine g_iload_n Γ 3 dX5_alike_90 rfl ?_
            refine g_iload Γ 1 dX5_alike_91 rfl ?_
            refine g_icmp_ne Γ 103 dX5_alike_93 (by decide) (fun c32 => ?_) (fun c32 => ?_)
            · have hf := ya_if2 c32 hf
              refine g_iload_n Γ 3 dX5_alike_103 rfl ?_
              refine g_iload Γ 0 dX5_alike_104 rfl ?_
              refine g_icmp_ne Γ 120 dX5_alike_106 (by decide) (fun c33 => ?_) (fun c33 => ?_)
              · have hf := ya_if2 c33 hf
                refine g_iconst (v := 0) Γ dX5_alike_120 (by decide) ?_
                cases hf
                exact g_zret Γ hr (show ya_bo 0 = some 0 from rfl) dX5_alike_121 [1, 2, 0] rfl rfl
              · have hf := ya_if1 c33 hf
                refine g_iload Γ 2 dX5_alike_109 rfl ?_
                refine g_iload Γ 1 dX5_alike_111 rfl ?_
                refine g_icmp_ne Γ 120 dX5_alike_113 (by decide) (fun c34 => ?_) (fun c34 => ?_)
                · have hf := ya_if2 c34 hf
                  refine g_iconst (v := 0) Γ dX5_alike_120 (by decide) ?_
                  cases hf
                  exact g_zret Γ hr (show ya_bo 0 = some 0 from rfl) dX5_alike_121 [1, 2, 0] rfl rfl
                · have hf := ya_if1 c34 hf
                  refine g_iconst (v := 1) Γ dX5_alike_116 (by decide) ?_
                  refine g_goto Γ 121 dX5_alike_117 (by decide) ?_
                  cases hf
                  exact g_zret Γ hr (show ya_bo 1 = some 1 from rfl) dX5_alike_121 [1, 2, 0] rfl rfl
            · have hf := ya_if1 c32 hf
              refine g_iload Γ 2 dX5_alike_96 rfl ?_
              refine g_iload Γ 0 dX5_alike_98 rfl ?_
              refine g_icmp_eq Γ 116 dX5_alike_100 (by decide) (fun c35 => ?_) (fun c35 => ?_)
              · have hf := ya_if1 c35 hf
                refine g_iconst (v := 1) Γ dX5_alike_116 (by decide) ?_
                refine g_goto Γ 121 dX5_alike_117 (by decide) ?_
                cases hf
                exact g_zret Γ hr (show ya_bo 1 = some 1 from rfl) dX5_alike_121 [1, 2, 0] rfl rfl
              · have hf := ya_if2 c35 hf
                refine g_iload_n Γ 3 dX5_alike_103 rfl ?_
                refine g_iload Γ 0 dX5_alike_104 rfl ?_
                refine g_icmp_ne Γ 120 dX5_alike_106 (by decide) (fun c36 => ?_) (fun c36 => ?_)
                · have hf := ya_if2 c36 hf
                  refine g_iconst (v := 0) Γ dX5_alike_120 (by decide) ?_
                  cases hf
                  exact g_zret Γ hr (show ya_bo 0 = some 0 from rfl) dX5_alike_121 [1, 2, 0] rfl rfl
                · have hf := ya_if1 c36 hf
                  refine g_iload Γ 2 dX5_alike_109 rfl ?_
                  refine g_iload Γ 1 dX5_alike_111 rfl ?_
                  refine g_icmp_ne Γ 120 dX5_alike_113 (by decide) (fun c37 => ?_) (fun c37 => ?_)
                  · have hf := ya_if2 c37 hf
                    refine g_iconst (v := 0) Γ dX5_alike_120 (by decide) ?_
                    cases hf
                    exact g_zret Γ hr (show ya_bo 0 = some 0 from rfl) dX5_alike_121 [1, 2, 0] rfl rfl
                  · have hf := ya_if1 c37 hf
                    refine g_iconst (v := 1) Γ dX5_alike_116 (by decide) ?_
                    refine g_goto Γ 121 dX5_alike_117 (by decide) ?_
                    cases hf
                    exact g_zret Γ hr (show ya_bo 1 = some 1 from rfl) dX5_alike_121 [1, 2, 0] rfl rfl
          · have hf := ya_if1 c15 hf
            refine g_iconst (v := 0) Γ dX5_alike_37 (by decide) ?_
            cases hf
            exact g_zret Γ hr (show ya_bo 0 = some 0 from rfl) dX5_alike_38 [0, 1, 2] rfl rfl

set_option maxRecDepth 20000 in
theorem ggX5_showsAll_X5_flows : GoodIn wsX5_showsAll wsX5_flows := goodIn_r _ [5, 6, 24, 25, 26, 27, 28, 29, 30, 31, 32, 33, 34, 35, 36, 37, 38, 39, 40, 41, 42] rfl (by decide +kernel)
set_option maxRecDepth 20000 in
theorem gX5_showsAll_X5_flows : GoodIn wsX5_showsAll (wsV RX5 57 RX5 yX5_flows wsX5_flows) := goodIn_app (goodIn_of _ (by decide +kernel)) ggX5_showsAll_X5_flows
set_option maxRecDepth 20000 in
theorem ggX5_showsAll_X5_isSeen : GoodIn wsX5_showsAll wsX5_isSeen := goodIn_r _ [10, 11, 12, 13, 14, 4, 15, 16, 17, 18, 19, 6, 20, 21, 22, 23, 1, 2, 3, 5, 24, 25, 26, 27, 28, 29, 30, 31, 32, 33, 34, 35, 36, 37, 38, 39, 40, 41, 42] rfl (by decide +kernel)
set_option maxRecDepth 20000 in
theorem gX5_showsAll_X5_isSeen : GoodIn wsX5_showsAll (wsV RX5 136 RX5 yX5_isSeen wsX5_isSeen) := goodIn_app (goodIn_of _ (by decide +kernel)) ggX5_showsAll_X5_isSeen
theorem dX5_showsAll_0 : decode cX5_showsAll 0 = .ok (.iconst 1, 1) := by decide +kernel
theorem dX5_showsAll_1 : decode cX5_showsAll 1 = .ok (.istore_n 1, 1) := by decide +kernel
theorem dX5_showsAll_2 : decode cX5_showsAll 2 = .ok (.iconst 0, 1) := by decide +kernel
theorem dX5_showsAll_3 : decode cX5_showsAll 3 = .ok (.istore_n 2, 1) := by decide +kernel
theorem dX5_showsAll_4 : decode cX5_showsAll 4 = .ok (.iload_n 2, 1) := by decide +kernel
theorem dX5_showsAll_5 : decode cX5_showsAll 5 = .ok (.aload_n 0, 1) := by decide +kernel
theorem dX5_showsAll_6 : decode cX5_showsAll 6 = .ok (.invokevirtual 57, 3) := by decide +kernel
theorem dX5_showsAll_9 : decode cX5_showsAll 9 = .ok (.if_icmp .ge 27, 3) := by decide +kernel
theorem dX5_showsAll_12 : decode cX5_showsAll 12 = .ok (.iload_n 1, 1) := by decide +kernel
theorem dX5_showsAll_13 : decode cX5_showsAll 13 = .ok (.ifCond .eq 15, 3) := by decide +kernel
theorem dX5_showsAll_16 : decode cX5_showsAll 16 = .ok (.aload_n 0, 1) := by decide +kernel
theorem dX5_showsAll_17 : decode cX5_showsAll 17 = .ok (.iload_n 2, 1) := by decide +kernel
theorem dX5_showsAll_18 : decode cX5_showsAll 18 = .ok (.invokevirtual 136, 3) := by decide +kernel
theorem dX5_showsAll_21 : decode cX5_showsAll 21 = .ok (.ifCond .eq 7, 3) := by decide +kernel
theorem dX5_showsAll_24 : decode cX5_showsAll 24 = .ok (.iconst 1, 1) := by decide +kernel
theorem dX5_showsAll_25 : decode cX5_showsAll 25 = .ok (.goto 4, 3) := by decide +kernel
theorem dX5_showsAll_28 : decode cX5_showsAll 28 = .ok (.iconst 0, 1) := by decide +kernel
theorem dX5_showsAll_29 : decode cX5_showsAll 29 = .ok (.istore_n 1, 1) := by decide +kernel
theorem dX5_showsAll_30 : decode cX5_showsAll 30 = .ok (.iinc 2 1, 3) := by decide +kernel
theorem dX5_showsAll_33 : decode cX5_showsAll 33 = .ok (.goto (-29), 3) := by decide +kernel
theorem dX5_showsAll_36 : decode cX5_showsAll 36 = .ok (.iload_n 1, 1) := by decide +kernel
theorem dX5_showsAll_37 : decode cX5_showsAll 37 = .ok (.ireturn, 1) := by decide +kernel
/-! ===== FlowMetersModel.showsAll()Z ===== -/
def fX5_showsAll_L4 (N : Nat) (n : Nat) (y1 : Int32) (y2 : Int32) (d_t_now : Nat → Int32) (d_t_side : Nat → Int32) : Option (Int32 × (Nat → Int32)) := match n with
  | 0 => none
  | n + 1 =>
    (fX5_flows d_t_now).bind fun v1 =>
      (if v1 ≤ y2 then
        some (y1, d_t_side)
      else
        (if y1 = 0 then
          ya_lt (y2 + 1) fun v5 =>
          fX5_showsAll_L4 N n 0 v5 d_t_now d_t_side
        else
          (fX5_isSeen N d_t_now d_t_side y2).bind fun (v7, v8) =>
          (if v7 = 0 then
            ya_lt (y2 + 1) fun v11 =>
            fX5_showsAll_L4 N n 0 v11 d_t_now v8
          else
            ya_lt (y2 + 1) fun v13 =>
            fX5_showsAll_L4 N n 1 v13 d_t_now v8)))
def fX5_showsAll (N : Nat) (c_t_now : Nat → Int32) (c_t_side : Nat → Int32)  : Option (Int32 × (Nat → Int32)) :=
  (fX5_showsAll_L4 N N 1 0 c_t_now c_t_side).bind fun (v15, v16) =>
  (ya_bo v15).bind fun v18 => some (v18, v16)
abbrev rmX5_showsAll : Room := { frames := 4, cells := 0, slots := 0, locals := 89 }
theorem eX5_showsAll : yY yX5_showsAll wsX5_showsAll cX5_showsAll 3 (some .boolean) rmX5_showsAll 0 := ⟨⟨_, rfl⟩, rfl, rfl, by decide, by decide, by decide +kernel⟩
set_option maxHeartbeats 4000000 in
set_option maxRecDepth 100000 in
theorem mX5_showsAll {l : Launch} {D : va_G} {sz : Nat} {cI cJ cZ cW cR : ClassId} {N : Nat} {h_t : Nat} {A_t : Nat → Nat} {c_t_many : Int32} {c_t_below : Int64} {c_t_above1 : Int64} {c_t_below1 : Int64} {c_t_now : Nat → Int32} {c_t_side : Nat → Int32} {r : Int32} {zc_t_side : Nat → Int32} (hf : fX5_showsAll N c_t_now c_t_side = some (r, zc_t_side)) : Met l yX5_showsAll wsX5_showsAll rmX5_showsAll (yP D (yT cI cJ cZ cW cR) [(h_t, oR A_t c_t_many c_t_below c_t_above1 c_t_below1), (A_t 0, eI cI 242 c_t_now), (A_t 9, eI cZ 6 c_t_side)] sz [.ref h_t]) (yQi D (yT cI cJ cZ cW cR) r [(h_t, oR A_t c_t_many c_t_below c_t_above1 c_t_below1), (A_t 0, eI cI 242 c_t_now), (A_t 9, eI cZ 6 zc_t_side)] (va_A [(h_t, oR A_t c_t_many c_t_below c_t_above1 c_t_below1), (A_t 0, eI cI 242 c_t_now), (A_t 9, eI cZ 6 c_t_side)] sz)) 0 0 (va_A [(h_t, oR A_t c_t_many c_t_below c_t_above1 c_t_below1), (A_t 0, eI cI 242 c_t_now), (A_t 9, eI cZ 6 c_t_side)] sz) := by
  refine yM (cc := cX5_showsAll) (maxL := 3) (ret := (some .boolean)) RX5 (by decide) rfl rfl (Nat.le_of_ble_eq_true rfl) ?_
  intro p e s m below meth c Γ hr
  have loop4 : ∀ (n : Nat) (y1 : Int32) (y2 : Int32) (d_t_many : Int32) (d_t_below : Int64) (d_t_above1 : Int64) (d_t_below1 : Int64) (d_t_now : Nat → Int32) (d_t_side : Nat → Int32) (w0 : Int32) (w1 : Nat → Int32), fX5_showsAll_L4 N n y1 y2 d_t_now d_t_side = some (w0, w1) → yG p l e (headSpec wsX5_showsAll rmX5_showsAll).room s m (List.toArray [.ref h_t]) below meth c D (va_A [(h_t, oR A_t c_t_many c_t_below c_t_above1 c_t_below1), (A_t 0, eI cI 242 c_t_now), (A_t 9, eI cZ 6 c_t_side)] sz) 3 0 0 (MQ below (yQi D (yT cI cJ cZ cW cR) r [(h_t, oR A_t c_t_many c_t_below c_t_above1 c_t_below1), (A_t 0, eI cI 242 c_t_now), (A_t 9, eI cZ 6 zc_t_side)] (va_A [(h_t, oR A_t c_t_many c_t_below c_t_above1 c_t_below1), (A_t 0, eI cI 242 c_t_now), (A_t 9, eI cZ 6 c_t_side)] sz)) (List.toArray [.ref h_t]) s 0 0 (va_A [(h_t, oR A_t c_t_many c_t_below c_t_above1 c_t_below1), (A_t 0, eI cI 242 c_t_now), (A_t 9, eI cZ 6 c_t_side)] sz)) 36 [(1, .int w0)] [] [(h_t, oR A_t d_t_many d_t_below d_t_above1 d_t_below1), (A_t 0, eI cI 242 d_t_now), (A_t 9, eI cZ 6 w1)] → yG p l e (headSpec wsX5_showsAll rmX5_showsAll).room s m (List.toArray [.ref h_t]) below meth c D (va_A [(h_t, oR A_t c_t_many c_t_below c_t_above1 c_t_below1), (A_t 0, eI cI 242 c_t_now), (A_t 9, eI cZ 6 c_t_side)] sz) 3 0 0 (MQ below (yQi D (yT cI cJ cZ cW cR) r [(h_t, oR A_t c_t_many c_t_below c_t_above1 c_t_below1), (A_t 0, eI cI 242 c_t_now), (A_t 9, eI cZ 6 zc_t_side)] (va_A [(h_t, oR A_t c_t_many c_t_below c_t_above1 c_t_below1), (A_t 0, eI cI 242 c_t_now), (A_t 9, eI cZ 6 c_t_side)] sz)) (List.toArray [.ref h_t]) s 0 0 (va_A [(h_t, oR A_t c_t_many c_t_below c_t_above1 c_t_below1), (A_t 0, eI cI 242 c_t_now), (A_t 9, eI cZ 6 c_t_side)] sz)) 4 [(0, .ref h_t), (1, .int y1), (2, .int y2)] [] [(h_t, oR A_t d_t_many d_t_below d_t_above1 d_t_below1), (A_t 0, eI cI 242 d_t_now), (A_t 9, eI cZ 6 d_t_side)] := by
    intro n
    induction n with
    | zero =>
      intro y1 y2 d_t_many d_t_below d_t_above1 d_t_below1 d_t_now d_t_side w0 w1 hf
      cases hf
    | succ n ih =>
      intro y1 y2 d_t_many d_t_below d_t_above1 d_t_below1 d_t_now d_t_side w0 w1 hf hk
      unfold fX5_showsAll_L4 at hf
      refine g_iload_n Γ 2 dX5_showsAll_4 rfl ?_
      refine g_aload_n Γ 0 dX5_showsAll_5 rfl ?_
      obtain ⟨v1, e2, hf⟩ := ya_ob hf
      refine g_vi (q := (RX5, TX5, 19)) (wr := [(A_t 9, eI cZ 6 d_t_side)]) (ws' := [(A_t 9, eI cZ 6 d_t_side), (h_t, oR A_t d_t_many d_t_below d_t_above1 d_t_below1), (A_t 0, eI cI 242 d_t_now)]) Γ (fun sz => mX5_flows (l := l) (D := D) (sz := sz) (cI := cI) (cJ := cJ) (cZ := cZ) (cW := cW) (cR := cR) (h_t := h_t) (A_t := A_t) (hf := e2)) eX5_flows gX5_showsAll_X5_flows rfl rfl 0 rfl rfl rfl (Nat.le_of_ble_eq_true rfl) ⟨Nat.le_of_ble_eq_true rfl, Nat.le_of_ble_eq_true rfl⟩ dX5_showsAll_6 [0, 1] [2] rfl rfl rfl rfl (by decide) rfl ?_
      refine g_icmp_ge Γ 36 dX5_showsAll_9 (by decide) (fun c3 => ?_) (fun c3 => ?_)
      · have hf := ya_if1 c3 hf
        cases hf
        refine g_lv [1] rfl ?_
        refine g_ws (ws' := [(h_t, oR A_t d_t_many d_t_below d_t_above1 d_t_below1), (A_t 0, eI cI 242 d_t_now), (A_t 9, eI cZ 6 d_t_side)]) [1, 2, 0] rfl rfl ?_
        exact hk
      · have hf := ya_if2 c3 hf
        refine g_iload_n Γ 1 dX5_showsAll_12 rfl ?_
        refine g_if_eq Γ 28 dX5_showsAll_13 (by decide) (fun c4 => ?_) (fun c4 => ?_)
        · have hf := ya_if1 c4 hf
          refine g_iconst (v := 0) Γ dX5_showsAll_28 (by decide) ?_
          refine g_istore_n (lv' := [(1, .int 0), (0, .ref h_t), (2, .int y2)]) Γ dX5_showsAll_29 (by decide) rfl ?_
          obtain ⟨v5, e6, hf⟩ := ya_lt_inv hf
          refine g_iinc (lv' := [(2, .int v5), (1, .int 0), (0, .ref h_t)]) Γ 2 dX5_showsAll_30 rfl (by rw [e6]; rfl) (by decide) rfl ?_
          refine g_goto Γ 4 dX5_showsAll_33 (by decide) ?_
          refine g_lv [2, 1, 0] rfl ?_
          refine g_ws (ws' := [(h_t, oR A_t d_t_many d_t_below d_t_above1 d_t_below1), (A_t 0, eI cI 242 d_t_now), (A_t 9, eI cZ 6 d_t_side)]) [1, 2, 0] rfl rfl ?_
          exact ih _ _ _ _ _ _ _ _ _ _ hf hk
        · have hf := ya_if2 c4 hf
          refine g_aload_n Γ 0 dX5_showsAll_16 rfl ?_
          refine g_iload_n Γ 2 dX5_showsAll_17 rfl ?_
          obtain ⟨⟨v7, v8⟩, e9, hf⟩ := ya_ob hf
          refine g_vi (q := (RX5, TX5, 19)) (wr := []) (ws' := [(h_t, oR A_t d_t_many d_t_below d_t_above1 d_t_below1), (A_t 0, eI cI 242 d_t_now), (A_t 9, eI cZ 6 v8)]) Γ (fun sz => mX5_isSeen (l := l) (D := D) (sz := sz) (cI := cI) (cJ := cJ) (cZ := cZ) (cW := cW) (cR := cR) (h_t := h_t) (A_t := A_t) (hf := e9)) eX5_isSeen gX5_showsAll_X5_isSeen rfl rfl 0 rfl rfl rfl (Nat.le_of_ble_eq_true rfl) ⟨Nat.le_of_ble_eq_true rfl, Nat.le_of_ble_eq_true rfl⟩ dX5_showsAll_18 [1, 2, 0] [] rfl rfl rfl rfl (by decide) rfl ?_
          refine g_if_eq Γ 28 dX5_showsAll_21 (by decide) (fun c10 => ?_) (fun c10 => ?_)
          · have hf := ya_if1 c10 hf
            refine g_iconst (v := 0) Γ dX5_showsAll_28 (by decide) ?_
            refine g_istore_n (lv' := [(1, .int 0), (0, .ref h_t), (2, .int y2)]) Γ dX5_showsAll_29 (by decide) rfl ?_
            obtain ⟨v11, e12, hf⟩ := ya_lt_inv hf
            refine g_iinc (lv' := [(2, .int v11), (1, .int 0), (0, .ref h_t)]) Γ 2 dX5_showsAll_30 rfl (by rw [e12]; rfl) (by decide) rfl ?_
            refine g_goto Γ 4 dX5_showsAll_33 (by decide) ?_
            refine g_lv [2, 1, 0] rfl ?_
            exact ih _ _ _ _ _ _ _ _ _ _ hf hk
          · have hf := ya_if2 c10 hf
            refine g_iconst (v := 1) Γ dX5_showsAll_24 (by decide) ?_
            refine g_goto Γ 29 dX5_showsAll_25 (by decide) ?_
            refine g_istore_n (lv' := [(1, .int 1), (0, .ref h_t), (2, .int y2)]) Γ dX5_showsAll_29 (by decide) rfl ?_
            obtain ⟨v13, e14, hf⟩ := ya_lt_inv hf
            refine g_iinc (lv' := [(2, .int v13), (1, .int 1), (0, .ref h_t)]) Γ 2 dX5_showsAll_30 rfl (by rw [e14]; rfl) (by decide) rfl ?_
            refine g_goto Γ 4 dX5_showsAll_33 (by decide) ?_
            refine g_lv [2, 1, 0] rfl ?_
            exact ih _ _ _ _ _ _ _ _ _ _ hf hk
  show yG p l e (headSpec wsX5_showsAll rmX5_showsAll).room s m (List.toArray [.ref h_t]) below meth c D (va_A [(h_t, oR A_t c_t_many c_t_below c_t_above1 c_t_below1), (A_t 0, eI cI 242 c_t_now), (A_t 9, eI cZ 6 c_t_side)] sz) 3 0 0 (MQ below (yQi D (yT cI cJ cZ cW cR) r [(h_t, oR A_t c_t_many c_t_below c_t_above1 c_t_below1), (A_t 0, eI cI 242 c_t_now), (A_t 9, eI cZ 6 zc_t_side)] (va_A [(h_t, oR A_t c_t_many c_t_below c_t_above1 c_t_below1), (A_t 0, eI cI 242 c_t_now), (A_t 9, eI cZ 6 c_t_side)] sz)) (List.toArray [.ref h_t]) s 0 0 (va_A [(h_t, oR A_t c_t_many c_t_below c_t_above1 c_t_below1), (A_t 0, eI cI 242 c_t_now), (A_t 9, eI cZ 6 c_t_side)] sz)) 0 [(0, .ref h_t)] [] [(h_t, oR A_t c_t_many c_t_below c_t_above1 c_t_below1), (A_t 0, eI cI 242 c_t_now), (A_t 9, eI cZ 6 c_t_side)]
  unfold fX5_showsAll at hf
  refine g_iconst (v := 1) Γ dX5_showsAll_0 (by decide) ?_
  refine g_istore_n (lv' := [(1, .int 1), (0, .ref h_t)]) Γ dX5_showsAll_1 (by decide) rfl ?_
  refine g_iconst (v := 0) Γ dX5_showsAll_2 (by decide) ?_
  refine g_istore_n (lv' := [(2, .int 0), (1, .int 1), (0, .ref h_t)]) Γ dX5_showsAll_3 (by decide) rfl ?_
  obtain ⟨⟨v15, v16⟩, e17, hf⟩ := ya_ob hf
  refine g_lv [2, 1, 0] rfl ?_
  refine loop4 N _ _ _ _ _ _ _ _ _ _ e17  ?_
  refine g_iload_n Γ 0 dX5_showsAll_36 rfl ?_
  obtain ⟨v18, e19, hf⟩ := ya_ob hf
  cases hf
  exact g_zret Γ hr e19 dX5_showsAll_37 [0, 1, 2] rfl rfl

set_option maxRecDepth 20000 in
theorem ggX5_shows_X5_flows : GoodIn wsX5_shows wsX5_flows := goodIn_r _ [6, 7, 33, 34, 35, 36, 37, 38, 39, 40, 41, 42, 43, 44, 45, 46, 47, 48, 49, 50, 51] rfl (by decide +kernel)
set_option maxRecDepth 20000 in
theorem gX5_shows_X5_flows : GoodIn wsX5_shows (wsV RX5 57 RX5 yX5_flows wsX5_flows) := goodIn_app (goodIn_of _ (by decide +kernel)) ggX5_shows_X5_flows
set_option maxRecDepth 20000 in
theorem ggX5_shows_X5_isRead : GoodIn wsX5_shows wsX5_isRead := goodIn_r _ [11, 12, 13, 14, 5, 15, 7, 33, 34, 35, 36, 37, 38, 39, 40, 41, 42, 43, 44, 45, 46, 47, 48, 49, 50, 51] rfl (by decide +kernel)
set_option maxRecDepth 20000 in
theorem gX5_shows_X5_isRead : GoodIn wsX5_shows (wsV RX5 91 RX5 yX5_isRead wsX5_isRead) := goodIn_app (goodIn_of _ (by decide +kernel)) ggX5_shows_X5_isRead
set_option maxRecDepth 20000 in
theorem ggX5_shows_X5_set : GoodIn wsX5_shows wsX5_set := goodIn_r _ [19, 7, 33, 34, 35, 36, 37, 38, 39, 40, 41, 42, 43, 44, 45, 46, 47, 48, 49, 50, 51] rfl (by decide +kernel)
set_option maxRecDepth 20000 in
theorem gX5_shows_X5_set : GoodIn wsX5_shows (wsV RX5 79 RX5 yX5_set wsX5_set) := goodIn_app (goodIn_of _ (by decide +kernel)) ggX5_shows_X5_set
set_option maxRecDepth 20000 in
theorem ggX5_shows_X5_showsAll : GoodIn wsX5_shows wsX5_showsAll := goodIn_r _ [23, 2, 3, 4, 5, 6, 7, 24, 25, 26, 27, 28, 8, 9, 10, 11, 12, 13, 14, 15, 29, 30, 31, 32, 33, 34, 35, 36, 37, 38, 39, 40, 41, 42, 43, 44, 45, 46, 47, 48, 49, 50, 51] rfl (by decide +kernel)
set_option maxRecDepth 20000 in
theorem gX5_shows_X5_showsAll : GoodIn wsX5_shows (wsV RX5 163 RX5 yX5_showsAll wsX5_showsAll) := goodIn_app (goodIn_of _ (by decide +kernel)) ggX5_shows_X5_showsAll
theorem dX5_shows_0 : decode cX5_shows 0 = .ok (.iconst 0, 1) := by decide +kernel
theorem dX5_shows_1 : decode cX5_shows 1 = .ok (.istore_n 3, 1) := by decide +kernel
theorem dX5_shows_2 : decode cX5_shows 2 = .ok (.iload_n 3, 1) := by decide +kernel
theorem dX5_shows_3 : decode cX5_shows 3 = .ok (.aload_n 0, 1) := by decide +kernel
theorem dX5_shows_4 : decode cX5_shows 4 = .ok (.invokevirtual 57, 3) := by decide +kernel
theorem dX5_shows_7 : decode cX5_shows 7 = .ok (.if_icmp .ge 36, 3) := by decide +kernel
theorem dX5_shows_10 : decode cX5_shows 10 = .ok (.aload_n 0, 1) := by decide +kernel
theorem dX5_shows_11 : decode cX5_shows 11 = .ok (.getfield 54, 3) := by decide +kernel
theorem dX5_shows_14 : decode cX5_shows 14 = .ok (.iload_n 3, 1) := by decide +kernel
theorem dX5_shows_15 : decode cX5_shows 15 = .ok (.aload_n 0, 1) := by decide +kernel
theorem dX5_shows_16 : decode cX5_shows 16 = .ok (.iload_n 3, 1) := by decide +kernel
theorem dX5_shows_17 : decode cX5_shows 17 = .ok (.invokevirtual 91, 3) := by decide +kernel
theorem dX5_shows_20 : decode cX5_shows 20 = .ok (.bastore, 1) := by decide +kernel
theorem dX5_shows_21 : decode cX5_shows 21 = .ok (.iload_n 1, 1) := by decide +kernel
theorem dX5_shows_22 : decode cX5_shows 22 = .ok (.iload_n 3, 1) := by decide +kernel
theorem dX5_shows_23 : decode cX5_shows 23 = .ok (.ishr, 1) := by decide +kernel
theorem dX5_shows_24 : decode cX5_shows 24 = .ok (.iconst 1, 1) := by decide +kernel
theorem dX5_shows_25 : decode cX5_shows 25 = .ok (.iand, 1) := by decide +kernel
theorem dX5_shows_26 : decode cX5_shows 26 = .ok (.iconst 1, 1) := by decide +kernel
theorem dX5_shows_27 : decode cX5_shows 27 = .ok (.if_icmp .ne 10, 3) := by decide +kernel
theorem dX5_shows_30 : decode cX5_shows 30 = .ok (.aload_n 0, 1) := by decide +kernel
theorem dX5_shows_31 : decode cX5_shows 31 = .ok (.iload_n 3, 1) := by decide +kernel
theorem dX5_shows_32 : decode cX5_shows 32 = .ok (.iconst 2, 1) := by decide +kernel
theorem dX5_shows_33 : decode cX5_shows 33 = .ok (.iconst 1, 1) := by decide +kernel
theorem dX5_shows_34 : decode cX5_shows 34 = .ok (.invokevirtual 79, 3) := by decide +kernel
theorem dX5_shows_37 : decode cX5_shows 37 = .ok (.iinc 3 1, 3) := by decide +kernel
theorem dX5_shows_40 : decode cX5_shows 40 = .ok (.goto (-38), 3) := by decide +kernel
theorem dX5_shows_43 : decode cX5_shows 43 = .ok (.aload_n 0, 1) := by decide +kernel
theorem dX5_shows_44 : decode cX5_shows 44 = .ok (.invokevirtual 163, 3) := by decide +kernel
theorem dX5_shows_47 : decode cX5_shows 47 = .ok (.istore_n 3, 1) := by decide +kernel
theorem dX5_shows_48 : decode cX5_shows 48 = .ok (.iconst 0, 1) := by decide +kernel
theorem dX5_shows_49 : decode cX5_shows 49 = .ok (.istore 4, 2) := by decide +kernel
theorem dX5_shows_51 : decode cX5_shows 51 = .ok (.iload 4, 2) := by decide +kernel
theorem dX5_shows_53 : decode cX5_shows 53 = .ok (.aload_n 0, 1) := by decide +kernel
theorem dX5_shows_54 : decode cX5_shows 54 = .ok (.invokevirtual 57, 3) := by decide +kernel
theorem dX5_shows_57 : decode cX5_shows 57 = .ok (.if_icmp .ge 50, 3) := by decide +kernel
theorem dX5_shows_60 : decode cX5_shows 60 = .ok (.iload_n 3, 1) := by decide +kernel
theorem dX5_shows_61 : decode cX5_shows 61 = .ok (.ifCond .eq 46, 3) := by decide +kernel
theorem dX5_shows_64 : decode cX5_shows 64 = .ok (.iload_n 2, 1) := by decide +kernel
theorem dX5_shows_65 : decode cX5_shows 65 = .ok (.ifCond .eq 42, 3) := by decide +kernel
theorem dX5_shows_68 : decode cX5_shows 68 = .ok (.aload_n 0, 1) := by decide +kernel
theorem dX5_shows_69 : decode cX5_shows 69 = .ok (.iload 4, 2) := by decide +kernel
theorem dX5_shows_71 : decode cX5_shows 71 = .ok (.invokevirtual 91, 3) := by decide +kernel
theorem dX5_shows_74 : decode cX5_shows 74 = .ok (.ifCond .ne 6, 3) := by decide +kernel
theorem dX5_shows_77 : decode cX5_shows 77 = .ok (.goto 24, 3) := by decide +kernel
theorem dX5_shows_80 : decode cX5_shows 80 = .ok (.aload_n 0, 1) := by decide +kernel
theorem dX5_shows_81 : decode cX5_shows 81 = .ok (.iload 4, 2) := by decide +kernel
theorem dX5_shows_83 : decode cX5_shows 83 = .ok (.iconst 2, 1) := by decide +kernel
theorem dX5_shows_84 : decode cX5_shows 84 = .ok (.iconst 0, 1) := by decide +kernel
theorem dX5_shows_85 : decode cX5_shows 85 = .ok (.invokevirtual 79, 3) := by decide +kernel
theorem dX5_shows_88 : decode cX5_shows 88 = .ok (.aload_n 0, 1) := by decide +kernel
theorem dX5_shows_89 : decode cX5_shows 89 = .ok (.invokevirtual 163, 3) := by decide +kernel
theorem dX5_shows_92 : decode cX5_shows 92 = .ok (.istore_n 3, 1) := by decide +kernel
theorem dX5_shows_93 : decode cX5_shows 93 = .ok (.aload_n 0, 1) := by decide +kernel
theorem dX5_shows_94 : decode cX5_shows 94 = .ok (.iload 4, 2) := by decide +kernel
theorem dX5_shows_96 : decode cX5_shows 96 = .ok (.iconst 2, 1) := by decide +kernel
theorem dX5_shows_97 : decode cX5_shows 97 = .ok (.iconst 1, 1) := by decide +kernel
theorem dX5_shows_98 : decode cX5_shows 98 = .ok (.invokevirtual 79, 3) := by decide +kernel
theorem dX5_shows_101 : decode cX5_shows 101 = .ok (.iinc 4 1, 3) := by decide +kernel
theorem dX5_shows_104 : decode cX5_shows 104 = .ok (.goto (-53), 3) := by decide +kernel
theorem dX5_shows_107 : decode cX5_shows 107 = .ok (.iconst 0, 1) := by decide +kernel
theorem dX5_shows_108 : decode cX5_shows 108 = .ok (.istore 4, 2) := by decide +kernel
theorem dX5_shows_110 : decode cX5_shows 110 = .ok (.iload 4, 2) := by decide +kernel
theorem dX5_shows_112 : decode cX5_shows 112 = .ok (.aload_n 0, 1) := by decide +kernel
theorem dX5_shows_113 : decode cX5_shows 113 = .ok (.invokevirtual 57, 3) := by decide +kernel
theorem dX5_shows_116 : decode cX5_shows 116 = .ok (.if_icmp .ge 31, 3) := by decide +kernel
theorem dX5_shows_119 : decode cX5_shows 119 = .ok (.aload_n 0, 1) := by decide +kernel
theorem dX5_shows_120 : decode cX5_shows 120 = .ok (.iload 4, 2) := by decide +kernel
theorem dX5_shows_122 : decode cX5_shows 122 = .ok (.iconst 2, 1) := by decide +kernel
theorem dX5_shows_123 : decode cX5_shows 123 = .ok (.aload_n 0, 1) := by decide +kernel
theorem dX5_shows_124 : decode cX5_shows 124 = .ok (.getfield 54, 3) := by decide +kernel
theorem dX5_shows_127 : decode cX5_shows 127 = .ok (.iload 4, 2) := by decide +kernel
theorem dX5_shows_129 : decode cX5_shows 129 = .ok (.baload, 1) := by decide +kernel
theorem dX5_shows_130 : decode cX5_shows 130 = .ok (.ifCond .eq 7, 3) := by decide +kernel
theorem dX5_shows_133 : decode cX5_shows 133 = .ok (.iconst 1, 1) := by decide +kernel
theorem dX5_shows_134 : decode cX5_shows 134 = .ok (.goto 4, 3) := by decide +kernel
theorem dX5_shows_137 : decode cX5_shows 137 = .ok (.iconst 0, 1) := by decide +kernel
theorem dX5_shows_138 : decode cX5_shows 138 = .ok (.invokevirtual 79, 3) := by decide +kernel
theorem dX5_shows_141 : decode cX5_shows 141 = .ok (.iinc 4 1, 3) := by decide +kernel
theorem dX5_shows_144 : decode cX5_shows 144 = .ok (.goto (-34), 3) := by decide +kernel
theorem dX5_shows_147 : decode cX5_shows 147 = .ok (.iload_n 3, 1) := by decide +kernel
theorem dX5_shows_148 : decode cX5_shows 148 = .ok (.ireturn, 1) := by decide +kernel
/-! ===== FlowMetersModel.shows(IZ)Z ===== -/
def fX5_shows_L2 (N : Nat) (n : Nat) (y1 : Int32) (y2 : Int32) (y3 : Int32) (d_t_now : Nat → Int32) (d_t_was : Nat → Int32) : Option ((Nat → Int32) × (Nat → Int32)) := match n with
  | 0 => none
  | n + 1 =>
    (fX5_flows d_t_now).bind fun v1 =>
      (if v1 ≤ y3 then
        some (d_t_now, d_t_was)
      else
        (fX5_isRead d_t_now y3).bind fun v4 =>
        (ya_wr d_t_was 10 y3 (vp_nar .boolean v4)).bind fun v6 =>
        (if ((y1 >>> (y3 &&& 31)) &&& 1) = 1 then
          (fX5_set d_t_now y3 2 1).bind fun v11 =>
          ya_lt (y3 + 1) fun v13 =>
          fX5_shows_L2 N n y1 y2 v13 v11 v6
        else
          ya_lt (y3 + 1) fun v9 =>
          fX5_shows_L2 N n y1 y2 v9 d_t_now v6))
def fX5_shows_L51 (N : Nat) (n : Nat) (y2 : Int32) (y3 : Int32) (y4 : Int32) (d_t_now : Nat → Int32) (d_t_side : Nat → Int32) : Option (Int32 × (Nat → Int32) × (Nat → Int32)) := match n with
  | 0 => none
  | n + 1 =>
    (fX5_flows d_t_now).bind fun v21 =>
      (if v21 ≤ y4 then
        some (y3, d_t_now, d_t_side)
      else
        (if y3 = 0 then
          some (y3, d_t_now, d_t_side)
        else
          (if y2 = 0 then
            some (y3, d_t_now, d_t_side)
          else
            (fX5_isRead d_t_now y4).bind fun v26 =>
            (if v26 = 0 then
              ya_lt (y4 + 1) fun v38 =>
              fX5_shows_L51 N n y2 y3 v38 d_t_now d_t_side
            else
              (fX5_set d_t_now y4 2 0).bind fun v29 =>
              (fX5_showsAll N v29 d_t_side).bind fun (v31, v32) =>
              (fX5_set v29 y4 2 1).bind fun v34 =>
              ya_lt (y4 + 1) fun v36 =>
              fX5_shows_L51 N n y2 v31 v36 v34 v32))))
def fX5_shows_L110 (N : Nat) (n : Nat) (y3 : Int32) (y4 : Int32) (d_t_now : Nat → Int32) (d_t_was : Nat → Int32) : Option (Nat → Int32) := match n with
  | 0 => none
  | n + 1 =>
    (fX5_flows d_t_now).bind fun v44 =>
      (if v44 ≤ y4 then
        some d_t_now
      else
        (ya_rd d_t_was 10 y4).bind fun v47 =>
        (if v47 = 0 then
          (fX5_set d_t_now y4 2 0).bind fun v50 =>
          ya_lt (y4 + 1) fun v52 =>
          fX5_shows_L110 N n y3 v52 v50 d_t_was
        else
          (fX5_set d_t_now y4 2 1).bind fun v54 =>
          ya_lt (y4 + 1) fun v56 =>
          fX5_shows_L110 N n y3 v56 v54 d_t_was))
def fX5_shows (N : Nat) (c_t_now : Nat → Int32) (c_t_side : Nat → Int32) (c_t_was : Nat → Int32) (x1 : Int32) (x2 : Int32) : Option (Int32 × (Nat → Int32) × (Nat → Int32) × (Nat → Int32)) :=
  (fX5_shows_L2 N N x1 x2 0 c_t_now c_t_was).bind fun (v15, v16) =>
  (fX5_showsAll N v15 c_t_side).bind fun (v18, v19) =>
  (fX5_shows_L51 N N x2 v18 0 v15 v19).bind fun (v40, v41, v42) =>
  (fX5_shows_L110 N N v40 0 v41 v16).bind fun v58 =>
  (ya_bo v40).bind fun v60 => some (v60, v58, v42, v16)
theorem fX5_shows_54 : yF wsX5_shows RX5 54 5 18 RX5 TX5 19 := ⟨rfl, by decide, by decide +kernel, by decide +kernel⟩
abbrev rmX5_shows : Room := { frames := 5, cells := 0, slots := 0, locals := 111 }
theorem eX5_shows : yY yX5_shows wsX5_shows cX5_shows 5 (some .boolean) rmX5_shows 2 := ⟨⟨_, rfl⟩, rfl, rfl, by decide, by decide, by decide +kernel⟩
set_option maxHeartbeats 4000000 in
set_option maxRecDepth 100000 in
theorem mX5_shows {l : Launch} {D : va_G} {sz : Nat} {cI cJ cZ cW cR : ClassId} {N : Nat} {h_t : Nat} {A_t : Nat → Nat} {c_t_many : Int32} {c_t_below : Int64} {c_t_above1 : Int64} {c_t_below1 : Int64} {c_t_now : Nat → Int32} {c_t_side : Nat → Int32} {c_t_was : Nat → Int32} {x1 : Int32} {x2 : Int32} {r : Int32} {zc_t_now : Nat → Int32} {zc_t_side : Nat → Int32} {zc_t_was : Nat → Int32} (hf : fX5_shows N c_t_now c_t_side c_t_was x1 x2 = some (r, zc_t_now, zc_t_side, zc_t_was)) : Met l yX5_shows wsX5_shows rmX5_shows (yP D (yT cI cJ cZ cW cR) [(h_t, oR A_t c_t_many c_t_below c_t_above1 c_t_below1), (A_t 0, eI cI 242 c_t_now), (A_t 9, eI cZ 6 c_t_side), (A_t 14, eI cZ 10 c_t_was)] sz [.ref h_t, .int x1, .int x2]) (yQi D (yT cI cJ cZ cW cR) r [(h_t, oR A_t c_t_many c_t_below c_t_above1 c_t_below1), (A_t 0, eI cI 242 zc_t_now), (A_t 9, eI cZ 6 zc_t_side), (A_t 14, eI cZ 10 zc_t_was)] (va_A [(h_t, oR A_t c_t_many c_t_below c_t_above1 c_t_below1), (A_t 0, eI cI 242 c_t_now), (A_t 9, eI cZ 6 c_t_side), (A_t 14, eI cZ 10 c_t_was)] sz)) 0 0 (va_A [(h_t, oR A_t c_t_many c_t_below c_t_above1 c_t_below1), (A_t 0, eI cI 242 c_t_now), (A_t 9, eI cZ 6 c_t_side), (A_t 14, eI cZ 10 c_t_was)] sz) := by
  refine yM (cc := cX5_shows) (maxL := 5) (ret := (some .boolean)) RX5 (by decide) rfl rfl (Nat.le_of_ble_eq_true rfl) ?_
  intro p e s m below meth c Γ hr
  have loop2 : ∀ (n : Nat) (y1 : Int32) (y2 : Int32) (y3 : Int32) (d_t_many : Int32) (d_t_below : Int64) (d_t_above1 : Int64) (d_t_below1 : Int64) (d_t_now : Nat → Int32) (d_t_side : Nat → Int32) (d_t_was : Nat → Int32) (w0 : Nat → Int32) (w1 : Nat → Int32), fX5_shows_L2 N n y1 y2 y3 d_t_now d_t_was = some (w0, w1) → yG p l e (headSpec wsX5_shows rmX5_shows).room s m (List.toArray [.ref h_t, .int x1, .int x2]) below meth c D (va_A [(h_t, oR A_t c_t_many c_t_below c_t_above1 c_t_below1), (A_t 0, eI cI 242 c_t_now), (A_t 9, eI cZ 6 c_t_side), (A_t 14, eI cZ 10 c_t_was)] sz) 5 0 0 (MQ below (yQi D (yT cI cJ cZ cW cR) r [(h_t, oR A_t c_t_many c_t_below c_t_above1 c_t_below1), (A_t 0, eI cI 242 zc_t_now), (A_t 9, eI cZ 6 zc_t_side), (A_t 14, eI cZ 10 zc_t_was)] (va_A [(h_t, oR A_t c_t_many c_t_below c_t_above1 c_t_below1), (A_t 0, eI cI 242 c_t_now), (A_t 9, eI cZ 6 c_t_side), (A_t 14, eI cZ 10 c_t_was)] sz)) (List.toArray [.ref h_t, .int x1, .int x2]) s 0 0 (va_A [(h_t, oR A_t c_t_many c_t_below c_t_above1 c_t_below1), (A_t 0, eI cI 242 c_t_now), (A_t 9, eI cZ 6 c_t_side), (A_t 14, eI cZ 10 c_t_was)] sz)) 43 [(0, .ref h_t), (2, .int y2)] [] [(h_t, oR A_t d_t_many d_t_below d_t_above1 d_t_below1), (A_t 0, eI cI 242 w0), (A_t 9, eI cZ 6 d_t_side), (A_t 14, eI cZ 10 w1)] → yG p l e (headSpec wsX5_shows rmX5_shows).room s m (List.toArray [.ref h_t, .int x1, .int x2]) below meth c D (va_A [(h_t, oR A_t c_t_many c_t_below c_t_above1 c_t_below1), (A_t 0, eI cI 242 c_t_now), (A_t 9, eI cZ 6 c_t_side), (A_t 14, eI cZ 10 c_t_was)] sz) 5 0 0 (MQ below (yQi D (yT cI cJ cZ cW cR) r [(h_t, oR A_t c_t_many c_t_below c_t_above1 c_t_below1), (A_t 0, eI cI 242 zc_t_now), (A_t 9, eI cZ 6 zc_t_side), (A_t 14, eI cZ 10 zc_t_was)] (va_A [(h_t, oR A_t c_t_many c_t_below c_t_above1 c_t_below1), (A_t 0, eI cI 242 c_t_now), (A_t 9, eI cZ 6 c_t_side), (A_t 14, eI cZ 10 c_t_was)] sz)) (List.toArray [.ref h_t, .int x1, .int x2]) s 0 0 (va_A [(h_t, oR A_t c_t_many c_t_below c_t_above1 c_t_below1), (A_t 0, eI cI 242 c_t_now), (A_t 9, eI cZ 6 c_t_side), (A_t 14, eI cZ 10 c_t_was)] sz)) 2 [(0, .ref h_t), (1, .int y1), (2, .int y2), (3, .int y3)] [] [(h_t, oR A_t d_t_many d_t_below d_t_above1 d_t_below1), (A_t 0, eI cI 242 d_t_now), (A_t 9, eI cZ 6 d_t_side), (A_t 14, eI cZ 10 d_t_was)] := by
    intro n
    induction n with
    | zero =>
      intro y1 y2 y3 d_t_many d_t_below d_t_above1 d_t_below1 d_t_now d_t_side d_t_was w0 w1 hf
      cases hf
    | succ n ih =>
      intro y1 y2 y3 d_t_many d_t_below d_t_above1 d_t_below1 d_t_now d_t_side d_t_was w0 w1 hf hk
      unfold fX5_shows_L2 at hf
      refine g_iload_n Γ 3 dX5_shows_2 rfl ?_
      refine g_aload_n Γ 0 dX5_shows_3 rfl ?_
      obtain ⟨v1, e2, hf⟩ := ya_ob hf
      refine g_vi (q := (RX5, TX5, 19)) (wr := [(A_t 9, eI cZ 6 d_t_side), (A_t 14, eI cZ 10 d_t_was)]) (ws' := [(A_t 9, eI cZ 6 d_t_side), (A_t 14, eI cZ 10 d_t_was), (h_t, oR A_t d_t_many d_t_below d_t_above1 d_t_below1), (A_t 0, eI cI 242 d_t_now)]) Γ (fun sz => mX5_flows (l := l) (D := D) (sz := sz) (cI := cI) (cJ := cJ) (cZ := cZ) (cW := cW) (cR := cR) (h_t := h_t) (A_t := A_t) (hf := e2)) eX5_flows gX5_shows_X5_flows rfl rfl 0 rfl rfl rfl (Nat.le_of_ble_eq_true rfl) ⟨Nat.le_of_ble_eq_true rfl, Nat.le_of_ble_eq_true rfl⟩ dX5_shows_4 [0, 1] [2, 3] rfl rfl rfl rfl (by decide) rfl ?_
      refine g_icmp_ge Γ 43 dX5_shows_7 (by decide) (fun c3 => ?_) (fun c3 => ?_)
      · have hf := ya_if1 c3 hf
        cases hf
        refine g_lv [0, 2] rfl ?_
        refine g_ws (ws' := [(h_t, oR A_t d_t_many d_t_below d_t_above1 d_t_below1), (A_t 0, eI cI 242 d_t_now), (A_t 9, eI cZ 6 d_t_side), (A_t 14, eI cZ 10 d_t_was)]) [2, 3, 0, 1] rfl rfl ?_
        exact hk
      · have hf := ya_if2 c3 hf
        refine g_aload_n Γ 0 dX5_shows_10 rfl ?_
        refine g_get Γ fX5_shows_54 2 rfl rfl dX5_shows_11 ?_
        refine g_iload_n Γ 3 dX5_shows_14 rfl ?_
        refine g_aload_n Γ 0 dX5_shows_15 rfl ?_
        refine g_iload_n Γ 3 dX5_shows_16 rfl ?_
        obtain ⟨v4, e5, hf⟩ := ya_ob hf
        refine g_vi (q := (RX5, TX5, 19)) (wr := [(A_t 9, eI cZ 6 d_t_side), (A_t 14, eI cZ 10 d_t_was)]) (ws' := [(A_t 9, eI cZ 6 d_t_side), (A_t 14, eI cZ 10 d_t_was), (h_t, oR A_t d_t_many d_t_below d_t_above1 d_t_below1), (A_t 0, eI cI 242 d_t_now)]) Γ (fun sz => mX5_isRead (l := l) (D := D) (sz := sz) (cI := cI) (cJ := cJ) (cZ := cZ) (cW := cW) (cR := cR) (h_t := h_t) (A_t := A_t) (hf := e5)) eX5_isRead gX5_shows_X5_isRead rfl rfl 0 rfl rfl rfl (Nat.le_of_ble_eq_true rfl) ⟨Nat.le_of_ble_eq_true rfl, Nat.le_of_ble_eq_true rfl⟩ dX5_shows_17 [2, 3] [0, 1] rfl rfl rfl rfl (by decide) rfl ?_
        obtain ⟨v6, e7, hf⟩ := ya_ob hf
        refine g_zast (ws' := [(A_t 9, eI cZ 6 d_t_side), (A_t 14, eI cZ 10 v6), (h_t, oR A_t d_t_many d_t_below d_t_above1 d_t_below1), (A_t 0, eI cI 242 d_t_now)]) Γ e7 1 2 rfl rfl dX5_shows_20 rfl ?_
        refine g_iload_n Γ 1 dX5_shows_21 rfl ?_
        refine g_iload_n Γ 3 dX5_shows_22 rfl ?_
        refine g_ishr Γ dX5_shows_23 ?_
        refine g_iconst (v := 1) Γ dX5_shows_24 (by decide) ?_
        refine g_iand Γ dX5_shows_25 ?_
        refine g_iconst (v := 1) Γ dX5_shows_26 (by decide) ?_
        refine g_icmp_ne Γ 37 dX5_shows_27 (by decide) (fun c8 => ?_) (fun c8 => ?_)
        · have hf := ya_if2 c8 hf
          obtain ⟨v9, e10, hf⟩ := ya_lt_inv hf
          refine g_iinc (lv' := [(3, .int v9), (0, .ref h_t), (1, .int y1), (2, .int y2)]) Γ 3 dX5_shows_37 rfl (by rw [e10]; rfl) (by decide) rfl ?_
          refine g_goto Γ 2 dX5_shows_40 (by decide) ?_
          refine g_lv [1, 2, 3, 0] rfl ?_
          refine g_ws (ws' := [(h_t, oR A_t d_t_many d_t_below d_t_above1 d_t_below1), (A_t 0, eI cI 242 d_t_now), (A_t 9, eI cZ 6 d_t_side), (A_t 14, eI cZ 10 v6)]) [2, 3, 0, 1] rfl rfl ?_
          exact ih _ _ _ _ _ _ _ _ _ _ _ _ hf hk
        · have hf := ya_if1 c8 hf
          refine g_aload_n Γ 0 dX5_shows_30 rfl ?_
          refine g_iload_n Γ 3 dX5_shows_31 rfl ?_
          refine g_iconst (v := 2) Γ dX5_shows_32 (by decide) ?_
          refine g_iconst (v := 1) Γ dX5_shows_33 (by decide) ?_
          obtain ⟨v11, e12, hf⟩ := ya_ob hf
          refine g_vv (q := (RX5, TX5, 19)) (wr := [(A_t 9, eI cZ 6 d_t_side), (A_t 14, eI cZ 10 v6)]) (ws' := [(A_t 9, eI cZ 6 d_t_side), (A_t 14, eI cZ 10 v6), (h_t, oR A_t d_t_many d_t_below d_t_above1 d_t_below1), (A_t 0, eI cI 242 v11)]) Γ (fun sz => mX5_set (l := l) (D := D) (sz := sz) (cI := cI) (cJ := cJ) (cZ := cZ) (cW := cW) (cR := cR) (h_t := h_t) (A_t := A_t) (hf := e12)) eX5_set gX5_shows_X5_set rfl rfl 0 rfl rfl rfl (Nat.le_of_ble_eq_true rfl) ⟨Nat.le_of_ble_eq_true rfl, Nat.le_of_ble_eq_true rfl⟩ dX5_shows_34 [2, 3] [0, 1] rfl rfl rfl rfl (by decide) rfl ?_
          obtain ⟨v13, e14, hf⟩ := ya_lt_inv hf
          refine g_iinc (lv' := [(3, .int v13), (0, .ref h_t), (1, .int y1), (2, .int y2)]) Γ 3 dX5_shows_37 rfl (by rw [e14]; rfl) (by decide) rfl ?_
          refine g_goto Γ 2 dX5_shows_40 (by decide) ?_
          refine g_lv [1, 2, 3, 0] rfl ?_
          refine g_ws (ws' := [(h_t, oR A_t d_t_many d_t_below d_t_above1 d_t_below1), (A_t 0, eI cI 242 v11), (A_t 9, eI cZ 6 d_t_side), (A_t 14, eI cZ 10 v6)]) [2, 3, 0, 1] rfl rfl ?_
          exact ih _ _ _ _ _ _ _ _ _ _ _ _ hf hk
  have loop51 : ∀ (n : Nat) (y2 : Int32) (y3 : Int32) (y4 : Int32) (d_t_many : Int32) (d_t_below : Int64) (d_t_above1 : Int64) (d_t_below1 : Int64) (d_t_now : Nat → Int32) (d_t_side : Nat → Int32) (d_t_was : Nat → Int32) (w0 : Int32) (w1 : Nat → Int32) (w2 : Nat → Int32), fX5_shows_L51 N n y2 y3 y4 d_t_now d_t_side = some (w0, w1, w2) → yG p l e (headSpec wsX5_shows rmX5_shows).room s m (List.toArray [.ref h_t, .int x1, .int x2]) below meth c D (va_A [(h_t, oR A_t c_t_many c_t_below c_t_above1 c_t_below1), (A_t 0, eI cI 242 c_t_now), (A_t 9, eI cZ 6 c_t_side), (A_t 14, eI cZ 10 c_t_was)] sz) 5 0 0 (MQ below (yQi D (yT cI cJ cZ cW cR) r [(h_t, oR A_t c_t_many c_t_below c_t_above1 c_t_below1), (A_t 0, eI cI 242 zc_t_now), (A_t 9, eI cZ 6 zc_t_side), (A_t 14, eI cZ 10 zc_t_was)] (va_A [(h_t, oR A_t c_t_many c_t_below c_t_above1 c_t_below1), (A_t 0, eI cI 242 c_t_now), (A_t 9, eI cZ 6 c_t_side), (A_t 14, eI cZ 10 c_t_was)] sz)) (List.toArray [.ref h_t, .int x1, .int x2]) s 0 0 (va_A [(h_t, oR A_t c_t_many c_t_below c_t_above1 c_t_below1), (A_t 0, eI cI 242 c_t_now), (A_t 9, eI cZ 6 c_t_side), (A_t 14, eI cZ 10 c_t_was)] sz)) 107 [(0, .ref h_t), (3, .int w0)] [] [(h_t, oR A_t d_t_many d_t_below d_t_above1 d_t_below1), (A_t 0, eI cI 242 w1), (A_t 9, eI cZ 6 w2), (A_t 14, eI cZ 10 d_t_was)] → yG p l e (headSpec wsX5_shows rmX5_shows).room s m (List.toArray [.ref h_t, .int x1, .int x2]) below meth c D (va_A [(h_t, oR A_t c_t_many c_t_below c_t_above1 c_t_below1), (A_t 0, eI cI 242 c_t_now), (A_t 9, eI cZ 6 c_t_side), (A_t 14, eI cZ 10 c_t_was)] sz) 5 0 0 (MQ below (yQi D (yT cI cJ cZ cW cR) r [(h_t, oR A_t c_t_many c_t_below c_t_above1 c_t_below1), (A_t 0, eI cI 242 zc_t_now), (A_t 9, eI cZ 6 zc_t_side), (A_t 14, eI cZ 10 zc_t_was)] (va_A [(h_t, oR A_t c_t_many c_t_below c_t_above1 c_t_below1), (A_t 0, eI cI 242 c_t_now), (A_t 9, eI cZ 6 c_t_side), (A_t 14, eI cZ 10 c_t_was)] sz)) (List.toArray [.ref h_t, .int x1, .int x2]) s 0 0 (va_A [(h_t, oR A_t c_t_many c_t_below c_t_above1 c_t_below1), (A_t 0, eI cI 242 c_t_now), (A_t 9, eI cZ 6 c_t_side), (A_t 14, eI cZ 10 c_t_was)] sz)) 51 [(0, .ref h_t), (2, .int y2), (3, .int y3), (4, .int y4)] [] [(h_t, oR A_t d_t_many d_t_below d_t_above1 d_t_below1), (A_t 0, eI cI 242 d_t_now), (A_t 9, eI cZ 6 d_t_side), (A_t 14, eI cZ 10 d_t_was)] := by
    intro n
    induction n with
    | zero =>
      intro y2 y3 y4 d_t_many d_t_below d_t_above1 d_t_below1 d_t_now d_t_side d_t_was w0 w1 w2 hf
      cases hf
    | succ n ih =>
      intro y2 y3 y4 d_t_many d_t_below d_t_above1 d_t_below1 d_t_now d_t_side d_t_was w0 w1 w2 hf hk
      unfold fX5_shows_L51 at hf
      refine g_iload Γ 3 dX5_shows_51 rfl ?_
      refine g_aload_n Γ 0 dX5_shows_53 rfl ?_
      obtain ⟨v21, e22, hf⟩ := ya_ob hf
      refine g_vi (q := (RX5, TX5, 19)) (wr := [(A_t 9, eI cZ 6 d_t_side), (A_t 14, eI cZ 10 d_t_was)]) (ws' := [(A_t 9, eI cZ 6 d_t_side), (A_t 14, eI cZ 10 d_t_was), (h_t, oR A_t d_t_many d_t_below d_t_above1 d_t_below1), (A_t 0, eI cI 242 d_t_now)]) Γ (fun sz => mX5_flows (l := l) (D := D) (sz := sz) (cI := cI) (cJ := cJ) (cZ := cZ) (cW := cW) (cR := cR) (h_t := h_t) (A_t := A_t) (hf := e22)) eX5_flows gX5_shows_X5_flows rfl rfl 0 rfl rfl rfl (Nat.le_of_ble_eq_true rfl) ⟨Nat.le_of_ble_eq_true rfl, Nat.le_of_ble_eq_true rfl⟩ dX5_shows_54 [0, 1] [2, 3] rfl rfl rfl rfl (by decide) rfl ?_
      refine g_icmp_ge Γ 107 dX5_shows_57 (by decide) (fun c23 => ?_) (fun c23 => ?_)
      · have hf := ya_if1 c23 hf
        cases hf
        refine g_lv [0, 2] rfl ?_
        refine g_ws (ws' := [(h_t, oR A_t d_t_many d_t_below d_t_above1 d_t_below1), (A_t 0, eI cI 242 d_t_now), (A_t 9, eI cZ 6 d_t_side), (A_t 14, eI cZ 10 d_t_was)]) [2, 3, 0, 1] rfl rfl ?_
        exact hk
      · have hf := ya_if2 c23 hf
        refine g_iload_n Γ 2 dX5_shows_60 rfl ?_
        refine g_if_eq Γ 107 dX5_shows_61 (by decide) (fun c24 => ?_) (fun c24 => ?_)
        · have hf := ya_if1 c24 hf
          cases hf
          refine g_lv [0, 2] rfl ?_
          refine g_ws (ws' := [(h_t, oR A_t d_t_many d_t_below d_t_above1 d_t_below1), (A_t 0, eI cI 242 d_t_now), (A_t 9, eI cZ 6 d_t_side), (A_t 14, eI cZ 10 d_t_was)]) [2, 3, 0, 1] rfl rfl ?_
          exact hk
        · have hf := ya_if2 c24 hf
          refine g_iload_n Γ 1 dX5_shows_64 rfl ?_
          refine g_if_eq Γ 107 dX5_shows_65 (by decide) (fun c25 => ?_) (fun c25 => ?_)
          · have hf := ya_if1 c25 hf
            cases hf
            refine g_lv [0, 2] rfl ?_
            refine g_ws (ws' := [(h_t, oR A_t d_t_many d_t_below d_t_above1 d_t_below1), (A_t 0, eI cI 242 d_t_now), (A_t 9, eI cZ 6 d_t_side), (A_t 14, eI cZ 10 d_t_was)]) [2, 3, 0, 1] rfl rfl ?_
            exact hk
          · have hf := ya_if2 c25 hf
            refine g_aload_n Γ 0 dX5_shows_68 rfl ?_
            refine g_iload Γ 3 dX5_shows_69 rfl ?_
            obtain ⟨v26, e27, hf⟩ := ya_ob hf
            refine g_vi (q := (RX5, TX5, 19)) (wr := [(A_t 9, eI cZ 6 d_t_side), (A_t 14, eI cZ 10 d_t_was)]) (ws' := [(A_t 9, eI cZ 6 d_t_side), (A_t 14, eI cZ 10 d_t_was), (h_t, oR A_t d_t_many d_t_below d_t_above1 d_t_below1), (A_t 0, eI cI 242 d_t_now)]) Γ (fun sz => mX5_isRead (l := l) (D := D) (sz := sz) (cI := cI) (cJ := cJ) (cZ := cZ) (cW := cW) (cR := cR) (h_t := h_t) (A_t := A_t) (hf := e27)) eX5_isRead gX5_shows_X5_isRead rfl rfl 0 rfl rfl rfl (Nat.le_of_ble_eq_true rfl) ⟨Nat.le_of_ble_eq_true rfl, Nat.le_of_ble_eq_true rfl⟩ dX5_shows_71 [2, 3] [0, 1] rfl rfl rfl rfl (by decide) rfl ?_
            refine g_if_ne Γ 80 dX5_shows_74 (by decide) (fun c28 => ?_) (fun c28 => ?_)
            · have hf := ya_if2 c28 hf
              refine g_aload_n Γ 0 dX5_shows_80 rfl ?_
              refine g_iload Γ 3 dX5_shows_81 rfl ?_
              refine g_iconst (v := 2) Γ dX5_shows_83 (by decide) ?_
              refine g_iconst (v := 0) Γ dX5_shows_84 (by decide) ?_
              obtain ⟨v29, e30, hf⟩ := ya_ob hf
              refine g_vv (q := (RX5, TX5, 19)) (wr := [(A_t 9, eI cZ 6 d_t_side), (A_t 14, eI cZ 10 d_t_was)]) (ws' := [(A_t 9, eI cZ 6 d_t_side), (A_t 14, eI cZ 10 d_t_was), (h_t, oR A_t d_t_many d_t_below d_t_above1 d_t_below1), (A_t 0, eI cI 242 v29)]) Γ (fun sz => mX5_set (l := l) (D := D) (sz := sz) (cI := cI) (cJ := cJ) (cZ := cZ) (cW := cW) (cR := cR) (h_t := h_t) (A_t := A_t) (hf := e30)) eX5_set gX5_shows_X5_set rfl rfl 0 rfl rfl rfl (Nat.le_of_ble_eq_true rfl) ⟨Nat.le_of_ble_eq_true rfl, Nat.le_of_ble_eq_true rfl⟩ dX5_shows_85 [2, 3] [0, 1] rfl rfl rfl rfl (by decide) rfl ?_
              refine g_aload_n Γ 0 dX5_shows_88 rfl ?_
              obtain ⟨⟨v31, v32⟩, e33, hf⟩ := ya_ob hf
              refine g_vi (q := (RX5, TX5, 19)) (wr := [(A_t 14, eI cZ 10 d_t_was)]) (ws' := [(A_t 14, eI cZ 10 d_t_was), (h_t, oR A_t d_t_many d_t_below d_t_above1 d_t_below1), (A_t 0, eI cI 242 v29), (A_t 9, eI cZ 6 v32)]) Γ (fun sz => mX5_showsAll (l := l) (D := D) (sz := sz) (cI := cI) (cJ := cJ) (cZ := cZ) (cW := cW) (cR := cR) (h_t := h_t) (A_t := A_t) (hf := e33)) eX5_showsAll gX5_shows_X5_showsAll rfl rfl 0 rfl rfl rfl (Nat.le_of_ble_eq_true rfl) ⟨Nat.le_of_ble_eq_true rfl, Nat.le_of_ble_eq_true rfl⟩ dX5_shows_89 [2, 3, 0] [1] rfl rfl rfl rfl (by decide) rfl ?_
              refine g_istore_n (lv' := [(3, .int v31), (0, .ref h_t), (2, .int y2), (4, .int y4)]) Γ dX5_shows_92 (by decide) rfl ?_
              refine g_aload_n Γ 1 dX5_shows_93 rfl ?_
              refine g_iload Γ 3 dX5_shows_94 rfl ?_
              refine g_iconst (v := 2) Γ dX5_shows_96 (by decide) ?_
              refine g_iconst (v := 1) Γ dX5_shows_97 (by decide) ?_
              obtain ⟨v34, e35, hf⟩ := ya_ob hf
              refine g_vv (q := (RX5, TX5, 19)) (wr := [(A_t 14, eI cZ 10 d_t_was), (A_t 9, eI cZ 6 v32)]) (ws' := [(A_t 14, eI cZ 10 d_t_was), (A_t 9, eI cZ 6 v32), (h_t, oR A_t d_t_many d_t_below d_t_above1 d_t_below1), (A_t 0, eI cI 242 v34)]) Γ (fun sz => mX5_set (l := l) (D := D) (sz := sz) (cI := cI) (cJ := cJ) (cZ := cZ) (cW := cW) (cR := cR) (h_t := h_t) (A_t := A_t) (hf := e35)) eX5_set gX5_shows_X5_set rfl rfl 0 rfl rfl rfl (Nat.le_of_ble_eq_true rfl) ⟨Nat.le_of_ble_eq_true rfl, Nat.le_of_ble_eq_true rfl⟩ dX5_shows_98 [1, 2] [0, 3] rfl rfl rfl rfl (by decide) rfl ?_
              obtain ⟨v36, e37, hf⟩ := ya_lt_inv hf
              refine g_iinc (lv' := [(4, .int v36), (3, .int v31), (0, .ref h_t), (2, .int y2)]) Γ 3 dX5_shows_101 rfl (by rw [e37]; rfl) (by decide) rfl ?_
              refine g_goto Γ 51 dX5_shows_104 (by decide) ?_
              refine g_lv [2, 3, 1, 0] rfl ?_
              refine g_ws (ws' := [(h_t, oR A_t d_t_many d_t_below d_t_above1 d_t_below1), (A_t 0, eI cI 242 v34), (A_t 9, eI cZ 6 v32), (A_t 14, eI cZ 10 d_t_was)]) [2, 3, 1, 0] rfl rfl ?_
              exact ih _ _ _ _ _ _ _ _ _ _ _ _ _ hf hk
            · have hf := ya_if1 c28 hf
              refine g_goto Γ 101 dX5_shows_77 (by decide) ?_
              obtain ⟨v38, e39, hf⟩ := ya_lt_inv hf
              refine g_iinc (lv' := [(4, .int v38), (0, .ref h_t), (2, .int y2), (3, .int y3)]) Γ 3 dX5_shows_101 rfl (by rw [e39]; rfl) (by decide) rfl ?_
              refine g_goto Γ 51 dX5_shows_104 (by decide) ?_
              refine g_lv [1, 2, 3, 0] rfl ?_
              refine g_ws (ws' := [(h_t, oR A_t d_t_many d_t_below d_t_above1 d_t_below1), (A_t 0, eI cI 242 d_t_now), (A_t 9, eI cZ 6 d_t_side), (A_t 14, eI cZ 10 d_t_was)]) [2, 3, 0, 1] rfl rfl ?_
              exact ih _ _ _ _ _ _ _ _ _ _ _ _ _ hf hk
  have loop110 : ∀ (n : Nat) (y3 : Int32) (y4 : Int32) (d_t_many : Int32) (d_t_below : Int64) (d_t_above1 : Int64) (d_t_below1 : Int64) (d_t_now : Nat → Int32) (d_t_side : Nat → Int32) (d_t_was : Nat → Int32) (w0 : Nat → Int32), fX5_shows_L110 N n y3 y4 d_t_now d_t_was = some w0 → yG p l e (headSpec wsX5_shows rmX5_shows).room s m (List.toArray [.ref h_t, .int x1, .int x2]) below meth c D (va_A [(h_t, oR A_t c_t_many c_t_below c_t_above1 c_t_below1), (A_t 0, eI cI 242 c_t_now), (A_t 9, eI cZ 6 c_t_side), (A_t 14, eI cZ 10 c_t_was)] sz) 5 0 0 (MQ below (yQi D (yT cI cJ cZ cW cR) r [(h_t, oR A_t c_t_many c_t_below c_t_above1 c_t_below1), (A_t 0, eI cI 242 zc_t_now), (A_t 9, eI cZ 6 zc_t_side), (A_t 14, eI cZ 10 zc_t_was)] (va_A [(h_t, oR A_t c_t_many c_t_below c_t_above1 c_t_below1), (A_t 0, eI cI 242 c_t_now), (A_t 9, eI cZ 6 c_t_side), (A_t 14, eI cZ 10 c_t_was)] sz)) (List.toArray [.ref h_t, .int x1, .int x2]) s 0 0 (va_A [(h_t, oR A_t c_t_many c_t_below c_t_above1 c_t_below1), (A_t 0, eI cI 242 c_t_now), (A_t 9, eI cZ 6 c_t_side), (A_t 14, eI cZ 10 c_t_was)] sz)) 147 [(3, .int y3)] [] [(h_t, oR A_t d_t_many d_t_below d_t_above1 d_t_below1), (A_t 0, eI cI 242 w0), (A_t 9, eI cZ 6 d_t_side), (A_t 14, eI cZ 10 d_t_was)] → yG p l e (headSpec wsX5_shows rmX5_shows).room s m (List.toArray [.ref h_t, .int x1, .int x2]) below meth c D (va_A [(h_t, oR A_t c_t_many c_t_below c_t_above1 c_t_below1), (A_t 0, eI cI 242 c_t_now), (A_t 9, eI cZ 6 c_t_side), (A_t 14, eI cZ 10 c_t_was)] sz) 5 0 0 (MQ below (yQi D (yT cI cJ cZ cW cR) r [(h_t, oR A_t c_t_many c_t_below c_t_above1 c_t_below1), (A_t 0, eI cI 242 zc_t_now), (A_t 9, eI cZ 6 zc_t_side), (A_t 14, eI cZ 10 zc_t_was)] (va_A [(h_t, oR A_t c_t_many c_t_below c_t_above1 c_t_below1), (A_t 0, eI cI 242 c_t_now), (A_t 9, eI cZ 6 c_t_side), (A_t 14, eI cZ 10 c_t_was)] sz)) (List.toArray [.ref h_t, .int x1, .int x2]) s 0 0 (va_A [(h_t, oR A_t c_t_many c_t_below c_t_above1 c_t_below1), (A_t 0, eI cI 242 c_t_now), (A_t 9, eI cZ 6 c_t_side), (A_t 14, eI cZ 10 c_t_was)] sz)) 110 [(0, .ref h_t), (3, .int y3), (4, .int y4)] [] [(h_t, oR A_t d_t_many d_t_below d_t_above1 d_t_below1), (A_t 0, eI cI 242 d_t_now), (A_t 9, eI cZ 6 d_t_side), (A_t 14, eI cZ 10 d_t_was)] := by
    intro n
    induction n with
    | zero =>
      intro y3 y4 d_t_many d_t_below d_t_above1 d_t_below1 d_t_now d_t_side d_t_was w0 hf
      cases hf
    | succ n ih =>
      intro y3 y4 d_t_many d_t_below d_t_above1 d_t_below1 d_t_now d_t_side d_t_was w0 hf hk
      unfold fX5_shows_L110 at hf
      refine g_iload Γ 2 dX5_shows_110 rfl ?_
      refine g_aload_n Γ 0 dX5_shows_112 rfl ?_
      obtain ⟨v44, e45, hf⟩ := ya_ob hf
      refine g_vi (q := (RX5, TX5, 19)) (wr := [(A_t 9, eI cZ 6 d_t_side), (A_t 14, eI cZ 10 d_t_was)]) (ws' := [(A_t 9, eI cZ 6 d_t_side), (A_t 14, eI cZ 10 d_t_was), (h_t, oR A_t d_t_many d_t_below d_t_above1 d_t_below1), (A_t 0, eI cI 242 d_t_now)]) Γ (fun sz => mX5_flows (l := l) (D := D) (sz := sz) (cI := cI) (cJ := cJ) (cZ := cZ) (cW := cW) (cR := cR) (h_t := h_t) (A_t := A_t) (hf := e45)) eX5_flows gX5_shows_X5_flows rfl rfl 0 rfl rfl rfl (Nat.le_of_ble_eq_true rfl) ⟨Nat.le_of_ble_eq_true rfl, Nat.le_of_ble_eq_true rfl⟩ dX5_shows_113 [0, 1] [2, 3] rfl rfl rfl rfl (by decide) rfl ?_
      refine g_icmp_ge Γ 147 dX5_shows_116 (by decide) (fun c46 => ?_) (fun c46 => ?_)
      · have hf := ya_if1 c46 hf
        cases hf
        refine g_lv [1] rfl ?_
        refine g_ws (ws' := [(h_t, oR A_t d_t_many d_t_below d_t_above1 d_t_below1), (A_t 0, eI cI 242 d_t_now), (A_t 9, eI cZ 6 d_t_side), (A_t 14, eI cZ 10 d_t_was)]) [2, 3, 0, 1] rfl rfl ?_
        exact hk
      · have hf := ya_if2 c46 hf
        refine g_aload_n Γ 0 dX5_shows_119 rfl ?_
        refine g_iload Γ 2 dX5_shows_120 rfl ?_
        refine g_iconst (v := 2) Γ dX5_shows_122 (by decide) ?_
        refine g_aload_n Γ 0 dX5_shows_123 rfl ?_
        refine g_get Γ fX5_shows_54 2 rfl rfl dX5_shows_124 ?_
        refine g_iload Γ 2 dX5_shows_127 rfl ?_
        obtain ⟨v47, e48, hf⟩ := ya_ob hf
        refine g_zald Γ e48 1 2 rfl rfl dX5_shows_129 ?_
        refine g_if_eq Γ 137 dX5_shows_130 (by decide) (fun c49 => ?_) (fun c49 => ?_)
        · have hf := ya_if1 c49 hf
          refine g_iconst (v := 0) Γ dX5_shows_137 (by decide) ?_
          obtain ⟨v50, e51, hf⟩ := ya_ob hf
          refine g_vv (q := (RX5, TX5, 19)) (wr := [(A_t 9, eI cZ 6 d_t_side), (A_t 14, eI cZ 10 d_t_was)]) (ws' := [(A_t 9, eI cZ 6 d_t_side), (A_t 14, eI cZ 10 d_t_was), (h_t, oR A_t d_t_many d_t_below d_t_above1 d_t_below1), (A_t 0, eI cI 242 v50)]) Γ (fun sz => mX5_set (l := l) (D := D) (sz := sz) (cI := cI) (cJ := cJ) (cZ := cZ) (cW := cW) (cR := cR) (h_t := h_t) (A_t := A_t) (hf := e51)) eX5_set gX5_shows_X5_set rfl rfl 0 rfl rfl rfl (Nat.le_of_ble_eq_true rfl) ⟨Nat.le_of_ble_eq_true rfl, Nat.le_of_ble_eq_true rfl⟩ dX5_shows_138 [2, 3] [0, 1] rfl rfl rfl rfl (by decide) rfl ?_
          obtain ⟨v52, e53, hf⟩ := ya_lt_inv hf
          refine g_iinc (lv' := [(4, .int v52), (0, .ref h_t), (3, .int y3)]) Γ 2 dX5_shows_141 rfl (by rw [e53]; rfl) (by decide) rfl ?_
          refine g_goto Γ 110 dX5_shows_144 (by decide) ?_
          refine g_lv [1, 2, 0] rfl ?_
          refine g_ws (ws' := [(h_t, oR A_t d_t_many d_t_below d_t_above1 d_t_below1), (A_t 0, eI cI 242 v50), (A_t 9, eI cZ 6 d_t_side), (A_t 14, eI cZ 10 d_t_was)]) [2, 3, 0, 1] rfl rfl ?_
          exact ih _ _ _ _ _ _ _ _ _ _ hf hk
        · have hf := ya_if2 c49 hf
          refine g_iconst (v := 1) Γ dX5_shows_133 (by decide) ?_
          refine g_goto Γ 138 dX5_shows_134 (by decide) ?_
          obtain ⟨v54, e55, hf⟩ := ya_ob hf
          refine g_vv (q := (RX5, TX5, 19)) (wr := [(A_t 9, eI cZ 6 d_t_side), (A_t 14, eI cZ 10 d_t_was)]) (ws' := [(A_t 9, eI cZ 6 d_t_side), (A_t 14, eI cZ 10 d_t_was), (h_t, oR A_t d_t_many d_t_below d_t_above1 d_t_below1), (A_t 0, eI cI 242 v54)]) Γ (fun sz => mX5_set (l := l) (D := D) (sz := sz) (cI := cI) (cJ := cJ) (cZ := cZ) (cW := cW) (cR := cR) (h_t := h_t) (A_t := A_t) (hf := e55)) eX5_set gX5_shows_X5_set rfl rfl 0 rfl rfl rfl (Nat.le_of_ble_eq_true rfl) ⟨Nat.le_of_ble_eq_true rfl, Nat.le_of_ble_eq_true rfl⟩ dX5_shows_138 [2, 3] [0, 1] rfl rfl rfl rfl (by decide) rfl ?_
          obtain ⟨v56, e57, hf⟩ := ya_lt_inv hf
          refine g_iinc (lv' := [(4, .int v56), (0, .ref h_t), (3, .int y3)]) Γ 2 dX5_shows_141 rfl (by rw [e57]; rfl) (by decide) rfl ?_
          refine g_goto Γ 110 dX5_shows_144 (by decide) ?_
          refine g_lv [1, 2, 0] rfl ?_
          refine g_ws (ws' := [(h_t, oR A_t d_t_many d_t_below d_t_above1 d_t_below1), (A_t 0, eI cI 242 v54), (A_t 9, eI cZ 6 d_t_side), (A_t 14, eI cZ 10 d_t_was)]) [2, 3, 0, 1] rfl rfl ?_
          exact ih _ _ _ _ _ _ _ _ _ _ hf hk
  show yG p l e (headSpec wsX5_shows rmX5_shows).room s m (List.toArray [.ref h_t, .int x1, .int x2]) below meth c D (va_A [(h_t, oR A_t c_t_many c_t_below c_t_above1 c_t_below1), (A_t 0, eI cI 242 c_t_now), (A_t 9, eI cZ 6 c_t_side), (A_t 14, eI cZ 10 c_t_was)] sz) 5 0 0 (MQ below (yQi D (yT cI cJ cZ cW cR) r [(h_t, oR A_t c_t_many c_t_below c_t_above1 c_t_below1), (A_t 0, eI cI 242 zc_t_now), (A_t 9, eI cZ 6 zc_t_side), (A_t 14, eI cZ 10 zc_t_was)] (va_A [(h_t, oR A_t c_t_many c_t_below c_t_above1 c_t_below1), (A_t 0, eI cI 242 c_t_now), (A_t 9, eI cZ 6 c_t_side), (A_t 14, eI cZ 10 c_t_was)] sz)) (List.toArray [.ref h_t, .int x1, .int x2]) s 0 0 (va_A [(h_t, oR A_t c_t_many c_t_below c_t_above1 c_t_below1), (A_t 0, eI cI 242 c_t_now), (A_t 9, eI cZ 6 c_t_side), (A_t 14, eI cZ 10 c_t_was)] sz)) 0 [(0, .ref h_t), (1, .int x1), (2, .int x2)] [] [(h_t, oR A_t c_t_many c_t_below c_t_above1 c_t_below1), (A_t 0, eI cI 242 c_t_now), (A_t 9, eI cZ 6 c_t_side), (A_t 14, eI cZ 10 c_t_was)]
  unfold fX5_shows at hf
  refine g_iconst (v := 0) Γ dX5_shows_0 (by decide) ?_
  refine g_istore_n (lv' := [(3, .int 0), (0, .ref h_t), (1, .int x1), (2, .int x2)]) Γ dX5_shows_1 (by decide) rfl ?_
  obtain ⟨⟨v15, v16⟩, e17, hf⟩ := ya_ob hf
  refine g_lv [1, 2, 3, 0] rfl ?_
  refine loop2 N _ _ _ _ _ _ _ _ _ _ _ _ e17  ?_
  refine g_aload_n Γ 0 dX5_shows_43 rfl ?_
  obtain ⟨⟨v18, v19⟩, e20, hf⟩ := ya_ob hf
  refine g_vi (q := (RX5, TX5, 19)) (wr := [(A_t 14, eI cZ 10 v16)]) (ws' := [(A_t 14, eI cZ 10 v16), (h_t, oR A_t c_t_many c_t_below c_t_above1 c_t_below1), (A_t 0, eI cI 242 v15), (A_t 9, eI cZ 6 v19)]) Γ (fun sz => mX5_showsAll (l := l) (D := D) (sz := sz) (cI := cI) (cJ := cJ) (cZ := cZ) (cW := cW) (cR := cR) (h_t := h_t) (A_t := A_t) (hf := e20)) eX5_showsAll gX5_shows_X5_showsAll rfl rfl 0 rfl rfl rfl (Nat.le_of_ble_eq_true rfl) ⟨Nat.le_of_ble_eq_true rfl, Nat.le_of_ble_eq_true rfl⟩ dX5_shows_44 [0, 1, 2] [3] rfl rfl rfl rfl (by decide) rfl ?_
  refine g_istore_n (lv' := [(3, .int v18), (0, .ref h_t), (2, .int x2)]) Γ dX5_shows_47 (by decide) rfl ?_
  refine g_iconst (v := 0) Γ dX5_shows_48 (by decide) ?_
  refine g_istore (lv' := [(4, .int 0), (3, .int v18), (0, .ref h_t), (2, .int x2)]) Γ dX5_shows_49 (by decide) rfl ?_
  obtain ⟨⟨v40, v41, v42⟩, e43, hf⟩ := ya_ob hf
  refine g_lv [2, 3, 1, 0] rfl ?_
  refine g_ws (ws' := [(h_t, oR A_t c_t_many c_t_below c_t_above1 c_t_below1), (A_t 0, eI cI 242 v15), (A_t 9, eI cZ 6 v19), (A_t 14, eI cZ 10 v16)]) [1, 2, 3, 0] rfl rfl ?_
  refine loop51 N _ _ _ _ _ _ _ _ _ _ _ _ _ e43  ?_
  refine g_iconst (v := 0) Γ dX5_shows_107 (by decide) ?_
  refine g_istore (lv' := [(4, .int 0), (0, .ref h_t), (3, .int v40)]) Γ dX5_shows_108 (by decide) rfl ?_
  obtain ⟨v58, e59, hf⟩ := ya_ob hf
  refine g_lv [1, 2, 0] rfl ?_
  refine loop110 N _ _ _ _ _ _ _ _ _ _ e59  ?_
  refine g_iload_n Γ 0 dX5_shows_147 rfl ?_
  obtain ⟨v60, e61, hf⟩ := ya_ob hf
  cases hf
  exact g_zret Γ hr e61 dX5_shows_148 [0, 1, 2, 3] rfl rfl

set_option maxRecDepth 20000 in
theorem ggX5_least_X5_isWhat : GoodIn wsX5_least wsX5_isWhat := goodIn_r _ [4] rfl (by decide +kernel)
set_option maxRecDepth 20000 in
theorem gX5_least_X5_isWhat : GoodIn wsX5_least (va_wsS RX5 114 yX5_isWhat wsX5_isWhat) := goodIn_app (goodIn_of _ (by decide +kernel)) ggX5_least_X5_isWhat
set_option maxRecDepth 20000 in
theorem ggX5_least_X5_flows : GoodIn wsX5_least wsX5_flows := goodIn_r _ [8, 9, 40, 41, 42, 43, 44, 45, 46, 47, 48, 49, 50, 51, 52, 53, 54, 55, 56, 57, 58] rfl (by decide +kernel)
set_option maxRecDepth 20000 in
theorem gX5_least_X5_flows : GoodIn wsX5_least (wsV RX5 57 RX5 yX5_flows wsX5_flows) := goodIn_app (goodIn_of _ (by decide +kernel)) ggX5_least_X5_flows
set_option maxRecDepth 20000 in
theorem ggX5_least_X5_get : GoodIn wsX5_least wsX5_get := goodIn_r _ [13, 9, 40, 41, 42, 43, 44, 45, 46, 47, 48, 49, 50, 51, 52, 53, 54, 55, 56, 57, 58] rfl (by decide +kernel)
set_option maxRecDepth 20000 in
theorem gX5_least_X5_get : GoodIn wsX5_least (wsV RX5 86 RX5 yX5_get wsX5_get) := goodIn_app (goodIn_of _ (by decide +kernel)) ggX5_least_X5_get
set_option maxRecDepth 20000 in
theorem ggX5_least_X5_isRead : GoodIn wsX5_least wsX5_isRead := goodIn_r _ [17, 10, 11, 12, 3, 13, 9, 40, 41, 42, 43, 44, 45, 46, 47, 48, 49, 50, 51, 52, 53, 54, 55, 56, 57, 58] rfl (by decide +kernel)
set_option maxRecDepth 20000 in
theorem gX5_least_X5_isRead : GoodIn wsX5_least (wsV RX5 91 RX5 yX5_isRead wsX5_isRead) := goodIn_app (goodIn_of _ (by decide +kernel)) ggX5_least_X5_isRead
set_option maxRecDepth 20000 in
theorem ggX5_least_X5_shows : GoodIn wsX5_least wsX5_shows := goodIn_r _ [21, 22, 5, 6, 7, 3, 8, 9, 14, 15, 16, 17, 10, 11, 12, 13, 23, 24, 25, 26, 27, 28, 29, 30, 31, 32, 33, 34, 35, 36, 37, 38, 39, 40, 41, 42, 43, 44, 45, 46, 47, 48, 49, 50, 51, 52, 53, 54, 55, 56, 57, 58] rfl (by decide +kernel)
set_option maxRecDepth 20000 in
theorem gX5_least_X5_shows : GoodIn wsX5_least (wsV RX5 167 RX5 yX5_shows wsX5_shows) := goodIn_app (goodIn_of _ (by decide +kernel)) ggX5_least_X5_shows
theorem dX5_least_0 : decode cX5_least 0 = .ok (.iload_n 2, 1) := by decide +kernel
theorem dX5_least_1 : decode cX5_least 1 = .ok (.invokestatic 114, 3) := by decide +kernel
theorem dX5_least_4 : decode cX5_least 4 = .ok (.ifCond .ne 5, 3) := by decide +kernel
theorem dX5_least_7 : decode cX5_least 7 = .ok (.iconst (-1), 1) := by decide +kernel
theorem dX5_least_8 : decode cX5_least 8 = .ok (.ireturn, 1) := by decide +kernel
theorem dX5_least_9 : decode cX5_least 9 = .ok (.iconst (-1), 1) := by decide +kernel
theorem dX5_least_10 : decode cX5_least 10 = .ok (.istore_n 3, 1) := by decide +kernel
theorem dX5_least_11 : decode cX5_least 11 = .ok (.iconst 0, 1) := by decide +kernel
theorem dX5_least_12 : decode cX5_least 12 = .ok (.istore 4, 2) := by decide +kernel
theorem dX5_least_14 : decode cX5_least 14 = .ok (.iconst 0, 1) := by decide +kernel
theorem dX5_least_15 : decode cX5_least 15 = .ok (.istore 5, 2) := by decide +kernel
theorem dX5_least_17 : decode cX5_least 17 = .ok (.iload 5, 2) := by decide +kernel
theorem dX5_least_19 : decode cX5_least 19 = .ok (.iconst 1, 1) := by decide +kernel
theorem dX5_least_20 : decode cX5_least 20 = .ok (.aload_n 0, 1) := by decide +kernel
theorem dX5_least_21 : decode cX5_least 21 = .ok (.invokevirtual 57, 3) := by decide +kernel
theorem dX5_least_24 : decode cX5_least 24 = .ok (.ishl, 1) := by decide +kernel
theorem dX5_least_25 : decode cX5_least 25 = .ok (.if_icmp .ge 116, 3) := by decide +kernel
theorem dX5_least_28 : decode cX5_least 28 = .ok (.iconst 0, 1) := by decide +kernel
theorem dX5_least_29 : decode cX5_least 29 = .ok (.istore 6, 2) := by decide +kernel
theorem dX5_least_31 : decode cX5_least 31 = .ok (.iconst 1, 1) := by decide +kernel
theorem dX5_least_32 : decode cX5_least 32 = .ok (.istore 7, 2) := by decide +kernel
theorem dX5_least_34 : decode cX5_least 34 = .ok (.iconst 0, 1) := by decide +kernel
theorem dX5_least_35 : decode cX5_least 35 = .ok (.istore 8, 2) := by decide +kernel
theorem dX5_least_37 : decode cX5_least 37 = .ok (.iload 8, 2) := by decide +kernel
theorem dX5_least_39 : decode cX5_least 39 = .ok (.aload_n 0, 1) := by decide +kernel
theorem dX5_least_40 : decode cX5_least 40 = .ok (.invokevirtual 57, 3) := by decide +kernel
theorem dX5_least_43 : decode cX5_least 43 = .ok (.if_icmp .ge 55, 3) := by decide +kernel
theorem dX5_least_46 : decode cX5_least 46 = .ok (.iload 5, 2) := by decide +kernel
theorem dX5_least_48 : decode cX5_least 48 = .ok (.iload 8, 2) := by decide +kernel
theorem dX5_least_50 : decode cX5_least 50 = .ok (.ishr, 1) := by decide +kernel
theorem dX5_least_51 : decode cX5_least 51 = .ok (.iconst 1, 1) := by decide +kernel
theorem dX5_least_52 : decode cX5_least 52 = .ok (.iand, 1) := by decide +kernel
theorem dX5_least_53 : decode cX5_least 53 = .ok (.ifCond .ne 6, 3) := by decide +kernel
theorem dX5_least_56 : decode cX5_least 56 = .ok (.goto 36, 3) := by decide +kernel
theorem dX5_least_59 : decode cX5_least 59 = .ok (.iload 6, 2) := by decide +kernel
theorem dX5_least_61 : decode cX5_least 61 = .ok (.aload_n 0, 1) := by decide +kernel
theorem dX5_least_62 : decode cX5_least 62 = .ok (.iload 8, 2) := by decide +kernel
theorem dX5_least_64 : decode cX5_least 64 = .ok (.iconst 5, 1) := by decide +kernel
theorem dX5_least_65 : decode cX5_least 65 = .ok (.invokevirtual 86, 3) := by decide +kernel
theorem dX5_least_68 : decode cX5_least 68 = .ok (.iadd, 1) := by decide +kernel
theorem dX5_least_69 : decode cX5_least 69 = .ok (.istore 6, 2) := by decide +kernel
theorem dX5_least_71 : decode cX5_least 71 = .ok (.iload 7, 2) := by decide +kernel
theorem dX5_least_73 : decode cX5_least 73 = .ok (.ifCond .eq 16, 3) := by decide +kernel
theorem dX5_least_76 : decode cX5_least 76 = .ok (.aload_n 0, 1) := by decide +kernel
theorem dX5_least_77 : decode cX5_least 77 = .ok (.iload 8, 2) := by decide +kernel
theorem dX5_least_79 : decode cX5_least 79 = .ok (.invokevirtual 91, 3) := by decide +kernel
theorem dX5_least_82 : decode cX5_least 82 = .ok (.ifCond .ne 7, 3) := by decide +kernel
theorem dX5_least_85 : decode cX5_least 85 = .ok (.iconst 1, 1) := by decide +kernel
theorem dX5_least_86 : decode cX5_least 86 = .ok (.goto 4, 3) := by decide +kernel
theorem dX5_least_89 : decode cX5_least 89 = .ok (.iconst 0, 1) := by decide +kernel
theorem dX5_least_90 : decode cX5_least 90 = .ok (.istore 7, 2) := by decide +kernel
theorem dX5_least_92 : decode cX5_least 92 = .ok (.iinc 8 1, 3) := by decide +kernel
theorem dX5_least_95 : decode cX5_least 95 = .ok (.goto (-58), 3) := by decide +kernel
theorem dX5_least_98 : decode cX5_least 98 = .ok (.iload 7, 2) := by decide +kernel
theorem dX5_least_100 : decode cX5_least 100 = .ok (.ifCond .eq 35, 3) := by decide +kernel
theorem dX5_least_103 : decode cX5_least 103 = .ok (.iload_n 3, 1) := by decide +kernel
theorem dX5_least_104 : decode cX5_least 104 = .ok (.iconst (-1), 1) := by decide +kernel
theorem dX5_least_105 : decode cX5_least 105 = .ok (.if_icmp .eq 10, 3) := by decide +kernel
theorem dX5_least_108 : decode cX5_least 108 = .ok (.iload 6, 2) := by decide +kernel
theorem dX5_least_110 : decode cX5_least 110 = .ok (.iload 4, 2) := by decide +kernel
theorem dX5_least_112 : decode cX5_least 112 = .ok (.if_icmp .ge 23, 3) := by decide +kernel
theorem dX5_least_115 : decode cX5_least 115 = .ok (.aload_n 0, 1) := by decide +kernel
theorem dX5_least_116 : decode cX5_least 116 = .ok (.iload 5, 2) := by decide +kernel
theorem dX5_least_118 : decode cX5_least 118 = .ok (.iload_n 1, 1) := by decide +kernel
theorem dX5_least_119 : decode cX5_least 119 = .ok (.invokevirtual 167, 3) := by decide +kernel
theorem dX5_least_122 : decode cX5_least 122 = .ok (.ifCond .ne 6, 3) := by decide +kernel
theorem dX5_least_125 : decode cX5_least 125 = .ok (.goto 10, 3) := by decide +kernel
theorem dX5_least_128 : decode cX5_least 128 = .ok (.iload 5, 2) := by decide +kernel
theorem dX5_least_130 : decode cX5_least 130 = .ok (.istore_n 3, 1) := by decide +kernel
theorem dX5_least_131 : decode cX5_least 131 = .ok (.iload 6, 2) := by decide +kernel
theorem dX5_least_133 : decode cX5_least 133 = .ok (.istore 4, 2) := by decide +kernel
theorem dX5_least_135 : decode cX5_least 135 = .ok (.iinc 5 1, 3) := by decide +kernel
theorem dX5_least_138 : decode cX5_least 138 = .ok (.goto (-121), 3) := by decide +kernel
theorem dX5_least_141 : decode cX5_least 141 = .ok (.iload_n 3, 1) := by decide +kernel
theorem dX5_least_142 : decode cX5_least 142 = .ok (.iconst (-1), 1) := by decide +kernel
theorem dX5_least_143 : decode cX5_least 143 = .ok (.if_icmp .ne 7, 3) := by decide +kernel
theorem dX5_least_146 : decode cX5_least 146 = .ok (.iconst (-1), 1) := by decide +kernel
theorem dX5_least_147 : decode cX5_least 147 = .ok (.goto 13, 3) := by decide +kernel
theorem dX5_least_150 : decode cX5_least 150 = .ok (.iload_n 2, 1) := by decide +kernel
theorem dX5_least_151 : decode cX5_least 151 = .ok (.ifCond .ne 8, 3) := by decide +kernel
theorem dX5_least_154 : decode cX5_least 154 = .ok (.iload 4, 2) := by decide +kernel
theorem dX5_least_156 : decode cX5_least 156 = .ok (.goto 4, 3) := by decide +kernel
theorem dX5_least_159 : decode cX5_least 159 = .ok (.iload_n 3, 1) := by decide +kernel
theorem dX5_least_160 : decode cX5_least 160 = .ok (.ireturn, 1) := by decide +kernel
/-! ===== FlowMetersModel.least(ZI)I ===== -/
def fX5_least_L37 (N : Nat) (n : Nat) (y1 : Int32) (y2 : Int32) (y3 : Int32) (y4 : Int32) (y5 : Int32) (y6 : Int32) (y7 : Int32) (y8 : Int32) (d_t_now : Nat → Int32) : Option (Int32 × Int32) := match n with
  | 0 => none
  | n + 1 =>
    (fX5_flows d_t_now).bind fun v7 =>
      (if v7 ≤ y8 then
        some (y6, y7)
      else
        (if ((y5 >>> (y8 &&& 31)) &&& 1) = 0 then
          ya_lt (y8 + 1) fun v25 =>
          fX5_least_L37 N n y1 y2 y3 y4 y5 y6 y7 v25 d_t_now
        else
          (fX5_get d_t_now y8 5).bind fun v11 =>
          ya_lt (y6 + v11) fun v13 =>
          (if y7 = 0 then
            ya_lt (y8 + 1) fun v16 =>
            fX5_least_L37 N n y1 y2 y3 y4 y5 v13 0 v16 d_t_now
          else
            (fX5_isRead d_t_now y8).bind fun v18 =>
            (if v18 = 0 then
              ya_lt (y8 + 1) fun v23 =>
              fX5_least_L37 N n y1 y2 y3 y4 y5 v13 1 v23 d_t_now
            else
              ya_lt (y8 + 1) fun v21 =>
              fX5_least_L37 N n y1 y2 y3 y4 y5 v13 0 v21 d_t_now))))
def fX5_least_L17 (N : Nat) (n : Nat) (y1 : Int32) (y2 : Int32) (y3 : Int32) (y4 : Int32) (y5 : Int32) (d_t_now : Nat → Int32) (d_t_side : Nat → Int32) (d_t_was : Nat → Int32) : Option (Int32 × Int32 × (Nat → Int32) × (Nat → Int32) × (Nat → Int32)) := match n with
  | 0 => none
  | n + 1 =>
    (fX5_flows d_t_now).bind fun v4 =>
      (if (1 <<< (v4 &&& 31)) ≤ y5 then
        some (y3, y4, d_t_now, d_t_side, d_t_was)
      else
        (fX5_least_L37 N N y1 y2 y3 y4 y5 0 1 0 d_t_now).bind fun (v27, v28) =>
        (if v28 = 0 then
          ya_lt (y5 + 1) fun v31 =>
          fX5_least_L17 N n y1 y2 y3 y4 v31 d_t_now d_t_side d_t_was
        else
          (if y3 = (-1) then
            (fX5_shows N d_t_now d_t_side d_t_was y5 y1).bind fun (v34, v35, v36, v37) =>
            (if v34 = 0 then
              ya_lt (y5 + 1) fun v42 =>
              fX5_least_L17 N n y1 y2 y3 y4 v42 v35 v36 v37
            else
              ya_lt (y5 + 1) fun v40 =>
              fX5_least_L17 N n y1 y2 y5 v27 v40 v35 v36 v37)
          else
            (if y4 ≤ v27 then
              ya_lt (y5 + 1) fun v45 =>
              fX5_least_L17 N n y1 y2 y3 y4 v45 d_t_now d_t_side d_t_was
            else
              (fX5_shows N d_t_now d_t_side d_t_was y5 y1).bind fun (v47, v48, v49, v50) =>
              (if v47 = 0 then
                ya_lt (y5 + 1) fun v55 =>
                fX5_least_L17 N n y1 y2 y3 y4 v55 v48 v49 v50
              else
                ya_lt (y5 + 1) fun v53 =>
                fX5_least_L17 N n y1 y2 y5 v27 v53 v48 v49 v50)))))
def fX5_least (N : Nat) (c_t_now : Nat → Int32) (c_t_side : Nat → Int32) (c_t_was : Nat → Int32) (x1 : Int32) (x2 : Int32) : Option (Int32 × (Nat → Int32) × (Nat → Int32) × (Nat → Int32)) :=
  (fX5_isWhat x2).bind fun v1 =>
  (if v1 = 0 then
    some ((-1), c_t_now, c_t_side, c_t_was)
  else
    (fX5_least_L17 N N x1 x2 (-1) 0 0 c_t_now c_t_side c_t_was).bind fun (v57, v58, v59, v60, v61) =>
    (if v57 = (-1) then
      some ((-1), v59, v60, v61)
    else
      (if x2 = 0 then
        some (v58, v59, v60, v61)
      else
        some (v57, v59, v60, v61))))
abbrev rmX5_least : Room := { frames := 6, cells := 0, slots := 0, locals := 135 }
theorem eX5_least : yY yX5_least wsX5_least cX5_least 9 (some .int) rmX5_least 2 := ⟨⟨_, rfl⟩, rfl, rfl, by decide, by decide, by decide +kernel⟩
set_option maxHeartbeats 4000000 in
set_option maxRecDepth 100000 in
theorem mX5_least {l : Launch} {D : va_G} {sz : Nat} {cI cJ cZ cW cR : ClassId} {N : Nat} {h_t : Nat} {A_t : Nat → Nat} {c_t_many : Int32} {c_t_below : Int64} {c_t_above1 : Int64} {c_t_below1 : Int64} {c_t_now : Nat → Int32} {c_t_side : Nat → Int32} {c_t_was : Nat → Int32} {x1 : Int32} {x2 : Int32} {r : Int32} {zc_t_now : Nat → Int32} {zc_t_side : Nat → Int32} {zc_t_was : Nat → Int32} (hf : fX5_least N c_t_now c_t_side c_t_was x1 x2 = some (r, zc_t_now, zc_t_side, zc_t_was)) : Met l yX5_least wsX5_least rmX5_least (yP D (yT cI cJ cZ cW cR) [(h_t, oR A_t c_t_many c_t_below c_t_above1 c_t_below1), (A_t 0, eI cI 242 c_t_now), (A_t 9, eI cZ 6 c_t_side), (A_t 14, eI cZ 10 c_t_was)] sz [.ref h_t, .int x1, .int x2]) (yQi D (yT cI cJ cZ cW cR) r [(h_t, oR A_t c_t_many c_t_below c_t_above1 c_t_below1), (A_t 0, eI cI 242 zc_t_now), (A_t 9, eI cZ 6 zc_t_side), (A_t 14, eI cZ 10 zc_t_was)] (va_A [(h_t, oR A_t c_t_many c_t_below c_t_above1 c_t_below1), (A_t 0, eI cI 242 c_t_now), (A_t 9, eI cZ 6 c_t_side), (A_t 14, eI cZ 10 c_t_was)] sz)) 0 0 (va_A [(h_t, oR A_t c_t_many c_t_below c_t_above1 c_t_below1), (A_t 0, eI cI 242 c_t_now), (A_t 9, eI cZ 6 c_t_side), (A_t 14, eI cZ 10 c_t_was)] sz) := by
  refine yM (cc := cX5_least) (maxL := 9) (ret := (some .int)) RX5 (by decide) rfl rfl (Nat.le_of_ble_eq_true rfl) ?_
  intro p e s m below meth c Γ hr
  have loop37 : ∀ (n : Nat) (y1 : Int32) (y2 : Int32) (y3 : Int32) (y4 : Int32) (y5 : Int32) (y6 : Int32) (y7 : Int32) (y8 : Int32) (d_t_many : Int32) (d_t_below : Int64) (d_t_above1 : Int64) (d_t_below1 : Int64) (d_t_now : Nat → Int32) (d_t_side : Nat → Int32) (d_t_was : Nat → Int32) (w0 : Int32) (w1 : Int32), fX5_least_L37 N n y1 y2 y3 y4 y5 y6 y7 y8 d_t_now = some (w0, w1) → yG p l e (headSpec wsX5_least rmX5_least).room s m (List.toArray [.ref h_t, .int x1, .int x2]) below meth c D (va_A [(h_t, oR A_t c_t_many c_t_below c_t_above1 c_t_below1), (A_t 0, eI cI 242 c_t_now), (A_t 9, eI cZ 6 c_t_side), (A_t 14, eI cZ 10 c_t_was)] sz) 9 0 0 (MQ below (yQi D (yT cI cJ cZ cW cR) r [(h_t, oR A_t c_t_many c_t_below c_t_above1 c_t_below1), (A_t 0, eI cI 242 zc_t_now), (A_t 9, eI cZ 6 zc_t_side), (A_t 14, eI cZ 10 zc_t_was)] (va_A [(h_t, oR A_t c_t_many c_t_below c_t_above1 c_t_below1), (A_t 0, eI cI 242 c_t_now), (A_t 9, eI cZ 6 c_t_side), (A_t 14, eI cZ 10 c_t_was)] sz)) (List.toArray [.ref h_t, .int x1, .int x2]) s 0 0 (va_A [(h_t, oR A_t c_t_many c_t_below c_t_above1 c_t_below1), (A_t 0, eI cI 242 c_t_now), (A_t 9, eI cZ 6 c_t_side), (A_t 14, eI cZ 10 c_t_was)] sz)) 98 [(0, .ref h_t), (1, .int y1), (2, .int y2), (3, .int y3), (4, .int y4), (5, .int y5), (6, .int w0), (7, .int w1)] [] [(h_t, oR A_t d_t_many d_t_below d_t_above1 d_t_below1), (A_t 0, eI cI 242 d_t_now), (A_t 9, eI cZ 6 d_t_side), (A_t 14, eI cZ 10 d_t_was)] → yG p l e (headSpec wsX5_least rmX5_least).room s m (List.toArray [.ref h_t, .int x1, .int x2]) below meth c D (va_A [(h_t, oR A_t c_t_many c_t_below c_t_above1 c_t_below1), (A_t 0, eI cI 242 c_t_now), (A_t 9, eI cZ 6 c_t_side), (A_t 14, eI cZ 10 c_t_was)] sz) 9 0 0 (MQ below (yQi D (yT cI cJ cZ cW cR) r [(h_t, oR A_t c_t_many c_t_below c_t_above1 c_t_below1), (A_t 0, eI cI 242 zc_t_now), (A_t 9, eI cZ 6 zc_t_side), (A_t 14, eI cZ 10 zc_t_was)] (va_A [(h_t, oR A_t c_t_many c_t_below c_t_above1 c_t_below1), (A_t 0, eI cI 242 c_t_now), (A_t 9, eI cZ 6 c_t_side), (A_t 14, eI cZ 10 c_t_was)] sz)) (List.toArray [.ref h_t, .int x1, .int x2]) s 0 0 (va_A [(h_t, oR A_t c_t_many c_t_below c_t_above1 c_t_below1), (A_t 0, eI cI 242 c_t_now), (A_t 9, eI cZ 6 c_t_side), (A_t 14, eI cZ 10 c_t_was)] sz)) 37 [(0, .ref h_t), (1, .int y1), (2, .int y2), (3, .int y3), (4, .int y4), (5, .int y5), (6, .int y6), (7, .int y7), (8, .int y8)] [] [(h_t, oR A_t d_t_many d_t_below d_t_above1 d_t_below1), (A_t 0, eI cI 242 d_t_now), (A_t 9, eI cZ 6 d_t_side), (A_t 14, eI cZ 10 d_t_was)] := by
    intro n
    induction n with
    | zero =>
      intro y1 y2 y3 y4 y5 y6 y7 y8 d_t_many d_t_below d_t_above1 d_t_below1 d_t_now d_t_side d_t_was w0 w1 hf
      cases hf
    | succ n ih =>
      intro y1 y2 y3 y4 y5 y6 y7 y8 d_t_many d_t_below d_t_above1 d_t_below1 d_t_now d_t_side d_t_was w0 w1 hf hk
      unfold fX5_least_L37 at hf
      refine g_iload Γ 8 dX5_least_37 rfl ?_
      refine g_aload_n Γ 0 dX5_least_39 rfl ?_
      obtain ⟨v7, e8, hf⟩ := ya_ob hf
      refine g_vi (q := (RX5, TX5, 19)) (wr := [(A_t 9, eI cZ 6 d_t_side), (A_t 14, eI cZ 10 d_t_was)]) (ws' := [(A_t 9, eI cZ 6 d_t_side), (A_t 14, eI cZ 10 d_t_was), (h_t, oR A_t d_t_many d_t_below d_t_above1 d_t_below1), (A_t 0, eI cI 242 d_t_now)]) Γ (fun sz => mX5_flows (l := l) (D := D) (sz := sz) (cI := cI) (cJ := cJ) (cZ := cZ) (cW := cW) (cR := cR) (h_t := h_t) (A_t := A_t) (hf := e8)) eX5_flows gX5_least_X5_flows rfl rfl 0 rfl rfl rfl (Nat.le_of_ble_eq_true rfl) ⟨Nat.le_of_ble_eq_true rfl, Nat.le_of_ble_eq_true rfl⟩ dX5_least_40 [0, 1] [2, 3] rfl rfl rfl rfl (by decide) rfl ?_
      refine g_icmp_ge Γ 98 dX5_least_43 (by decide) (fun c9 => ?_) (fun c9 => ?_)
      · have hf := ya_if1 c9 hf
        cases hf
        refine g_lv [0, 1, 2, 3, 4, 5, 6, 7] rfl ?_
        refine g_ws (ws' := [(h_t, oR A_t d_t_many d_t_below d_t_above1 d_t_below1), (A_t 0, eI cI 242 d_t_now), (A_t 9, eI cZ 6 d_t_side), (A_t 14, eI cZ 10 d_t_was)]) [2, 3, 0, 1] rfl rfl ?_
        exact hk
      · have hf := ya_if2 c9 hf
        refine g_iload Γ 5 dX5_least_46 rfl ?_
        refine g_iload Γ 8 dX5_least_48 rfl ?_
        refine g_ishr Γ dX5_least_50 ?_
        refine g_iconst (v := 1) Γ dX5_least_51 (by decide) ?_
        refine g_iand Γ dX5_least_52 ?_
        refine g_if_ne Γ 59 dX5_least_53 (by decide) (fun c10 => ?_) (fun c10 => ?_)
        · have hf := ya_if2 c10 hf
          refine g_iload Γ 6 dX5_least_59 rfl ?_
          refine g_aload_n Γ 0 dX5_least_61 rfl ?_
          refine g_iload Γ 8 dX5_least_62 rfl ?_
          refine g_iconst (v := 5) Γ dX5_least_64 (by decide) ?_
          obtain ⟨v11, e12, hf⟩ := ya_ob hf
          refine g_vi (q := (RX5, TX5, 19)) (wr := [(A_t 9, eI cZ 6 d_t_side), (A_t 14, eI cZ 10 d_t_was)]) (ws' := [(A_t 9, eI cZ 6 d_t_side), (A_t 14, eI cZ 10 d_t_was), (h_t, oR A_t d_t_many d_t_below d_t_above1 d_t_below1), (A_t 0, eI cI 242 d_t_now)]) Γ (fun sz => mX5_get (l := l) (D := D) (sz := sz) (cI := cI) (cJ := cJ) (cZ := cZ) (cW := cW) (cR := cR) (h_t := h_t) (A_t := A_t) (hf := e12)) eX5_get gX5_least_X5_get rfl rfl 0 rfl rfl rfl (Nat.le_of_ble_eq_true rfl) ⟨Nat.le_of_ble_eq_true rfl, Nat.le_of_ble_eq_true rfl⟩ dX5_least_65 [2, 3] [0, 1] rfl rfl rfl rfl (by decide) rfl ?_
          refine g_iadd Γ dX5_least_68 ?_
          obtain ⟨v13, e14, hf⟩ := ya_lt_inv hf
          refine g_nmi e14 ?_
          refine g_istore (lv' := [(6, .int v13), (0, .ref h_t), (1, .int y1), (2, .int y2), (3, .int y3), (4, .int y4), (5, .int y5), (7, .int y7), (8, .int y8)]) Γ dX5_least_69 (by decide) rfl ?_
          refine g_iload Γ 7 dX5_least_71 rfl ?_
          refine g_if_eq Γ 89 dX5_least_73 (by decide) (fun c15 => ?_) (fun c15 => ?_)
          · have hf := ya_if1 c15 hf
            refine g_iconst (v := 0) Γ dX5_least_89 (by decide) ?_
            refine g_istore (lv' := [(7, .int 0), (6, .int v13), (0, .ref h_t), (1, .int y1), (2, .int y2), (3, .int y3), (4, .int y4), (5, .int y5), (8, .int y8)]) Γ dX5_least_90 (by decide) rfl ?_
            obtain ⟨v16, e17, hf⟩ := ya_lt_inv hf
            refine g_iinc (lv' := [(8, .int v16), (7, .int 0), (6, .int v13), (0, .ref h_t), (1, .int y1), (2, .int y2), (3, .int y3), (4, .int y4), (5, .int y5)]) Γ 8 dX5_least_92 rfl (by rw [e17]; rfl) (by decide) rfl ?_
            refine g_goto Γ 37 dX5_least_95 (by decide) ?_
            refine g_lv [3, 4, 5, 6, 7, 8, 2, 1, 0] rfl ?_
            refine g_ws (ws' := [(h_t, oR A_t d_t_many d_t_below d_t_above1 d_t_below1), (A_t 0, eI cI 242 d_t_now), (A_t 9, eI cZ 6 d_t_side), (A_t 14, eI cZ 10 d_t_was)]) [2, 3, 0, 1] rfl rfl ?_
            exact ih _ _ _ _ _ _ _ _ _ _ _ _ _ _ _ _ _ hf hk
          · have hf := ya_if2 c15 hf
            refine g_aload_n Γ 1 dX5_least_76 rfl ?_
            refine g_iload Γ 8 dX5_least_77 rfl ?_
            obtain ⟨v18, e19, hf⟩ := ya_ob hf
            refine g_vi (q := (RX5, TX5, 19)) (wr := [(A_t 9, eI cZ 6 d_t_side), (A_t 14, eI cZ 10 d_t_was)]) (ws' := [(A_t 9, eI cZ 6 d_t_side), (A_t 14, eI cZ 10 d_t_was), (h_t, oR A_t d_t_many d_t_below d_t_above1 d_t_below1), (A_t 0, eI cI 242 d_t_now)]) Γ (fun sz => mX5_isRead (l := l) (D := D) (sz := sz) (cI := cI) (cJ := cJ) (cZ := cZ) (cW := cW) (cR := cR) (h_t := h_t) (A_t := A_t) (hf := e19)) eX5_isRead gX5_least_X5_isRead rfl rfl 0 rfl rfl rfl (Nat.le_of_ble_eq_true rfl) ⟨Nat.le_of_ble_eq_true rfl, Nat.le_of_ble_eq_true rfl⟩ dX5_least_79 [2, 3] [0, 1] rfl rfl rfl rfl (by decide) rfl ?_
            refine g_if_ne Γ 89 dX5_least_82 (by decide) (fun c20 => ?_) (fun c20 => ?_)
            · have hf := ya_if2 c20 hf
              refine g_iconst (v := 0) Γ dX5_least_89 (by decide) ?_
              refine g_istore (lv' := [(7, .int 0), (6, .int v13), (0, .ref h_t), (1, .int y1), (2, .int y2), (3, .int y3), (4, .int y4), (5, .int y5), (8, .int y8)]) Γ dX5_least_90 (by decide) rfl ?_
              obtain ⟨v21, e22, hf⟩ := ya_lt_inv hf
              refine g_iinc (lv' := [(8, .int v21), (7, .int 0), (6, .int v13), (0, .ref h_t), (1, .int y1), (2, .int y2), (3, .int y3), (4, .int y4), (5, .int y5)]) Γ 8 dX5_least_92 rfl (by rw [e22]; rfl) (by decide) rfl ?_
              refine g_goto Γ 37 dX5_least_95 (by decide) ?_
              refine g_lv [3, 4, 5, 6, 7, 8, 2, 1, 0] rfl ?_
              refine g_ws (ws' := [(h_t, oR A_t d_t_many d_t_below d_t_above1 d_t_below1), (A_t 0, eI cI 242 d_t_now), (A_t 9, eI cZ 6 d_t_side), (A_t 14, eI cZ 10 d_t_was)]) [2, 3, 0, 1] rfl rfl ?_
              exact ih _ _ _ _ _ _ _ _ _ _ _ _ _ _ _ _ _ hf hk
            · have hf := ya_if1 c20 hf
              refine g_iconst (v := 1) Γ dX5_least_85 (by decide) ?_
              refine g_goto Γ 90 dX5_least_86 (by decide) ?_
              refine g_istore (lv' := [(7, .int 1), (6, .int v13), (0, .ref h_t), (1, .int y1), (2, .int y2), (3, .int y3), (4, .int y4), (5, .int y5), (8, .int y8)]) Γ dX5_least_90 (by decide) rfl ?_
              obtain ⟨v23, e24, hf⟩ := ya_lt_inv hf
              refine g_iinc (lv' := [(8, .int v23), (7, .int 1), (6, .int v13), (0, .ref h_t), (1, .int y1), (2, .int y2), (3, .int y3), (4, .int y4), (5, .int y5)]) Γ 8 dX5_least_92 rfl (by rw [e24]; rfl) (by decide) rfl ?_
              refine g_goto Γ 37 dX5_least_95 (by decide) ?_
              refine g_lv [3, 4, 5, 6, 7, 8, 2, 1, 0] rfl ?_
              refine g_ws (ws' := [(h_t, oR A_t d_t_many d_t_below d_t_above1 d_t_below1), (A_t 0, eI cI 242 d_t_now), (A_t 9, eI cZ 6 d_t_side), (A_t 14, eI cZ 10 d_t_was)]) [2, 3, 0, 1] rfl rfl ?_
              exact ih _ _ _ _ _ _ _ _ _ _ _ _ _ _ _ _ _ hf hk
        · have hf := ya_if1 c10 hf
          refine g_goto Γ 92 dX5_least_56 (by decide) ?_
          obtain ⟨v25, e26, hf⟩ := ya_lt_inv hf
          refine g_iinc (lv' := [(8, .int v25), (0, .ref h_t), (1, .int y1), (2, .int y2), (3, .int y3), (4, .int y4), (5, .int y5), (6, .int y6), (7, .int y7)]) Γ 8 dX5_least_92 rfl (by rw [e26]; rfl) (by decide) rfl ?_
          refine g_goto Γ 37 dX5_least_95 (by decide) ?_
          refine g_lv [1, 2, 3, 4, 5, 6, 7, 8, 0] rfl ?_
          refine g_ws (ws' := [(h_t, oR A_t d_t_many d_t_below d_t_above1 d_t_below1), (A_t 0, eI cI 242 d_t_now), (A_t 9, eI cZ 6 d_t_side), (A_t 14, eI cZ 10 d_t_was)]) [2, 3, 0, 1] rfl rfl ?_
          exact ih _ _ _ _ _ _ _ _ _ _ _ _ _ _ _ _ _ hf hk
  have loop17 : ∀ (n : Nat) (y1 : Int32) (y2 : Int32) (y3 : Int32) (y4 : Int32) (y5 : Int32) (d_t_many : Int32) (d_t_below : Int64) (d_t_above1 : Int64) (d_t_below1 : Int64) (d_t_now : Nat → Int32) (d_t_side : Nat → Int32) (d_t_was : Nat → Int32) (w0 : Int32) (w1 : Int32) (w2 : Nat → Int32) (w3 : Nat → Int32) (w4 : Nat → Int32), fX5_least_L17 N n y1 y2 y3 y4 y5 d_t_now d_t_side d_t_was = some (w0, w1, w2, w3, w4) → yG p l e (headSpec wsX5_least rmX5_least).room s m (List.toArray [.ref h_t, .int x1, .int x2]) below meth c D (va_A [(h_t, oR A_t c_t_many c_t_below c_t_above1 c_t_below1), (A_t 0, eI cI 242 c_t_now), (A_t 9, eI cZ 6 c_t_side), (A_t 14, eI cZ 10 c_t_was)] sz) 9 0 0 (MQ below (yQi D (yT cI cJ cZ cW cR) r [(h_t, oR A_t c_t_many c_t_below c_t_above1 c_t_below1), (A_t 0, eI cI 242 zc_t_now), (A_t 9, eI cZ 6 zc_t_side), (A_t 14, eI cZ 10 zc_t_was)] (va_A [(h_t, oR A_t c_t_many c_t_below c_t_above1 c_t_below1), (A_t 0, eI cI 242 c_t_now), (A_t 9, eI cZ 6 c_t_side), (A_t 14, eI cZ 10 c_t_was)] sz)) (List.toArray [.ref h_t, .int x1, .int x2]) s 0 0 (va_A [(h_t, oR A_t c_t_many c_t_below c_t_above1 c_t_below1), (A_t 0, eI cI 242 c_t_now), (A_t 9, eI cZ 6 c_t_side), (A_t 14, eI cZ 10 c_t_was)] sz)) 141 [(2, .int y2), (3, .int w0), (4, .int w1)] [] [(h_t, oR A_t d_t_many d_t_below d_t_above1 d_t_below1), (A_t 0, eI cI 242 w2), (A_t 9, eI cZ 6 w3), (A_t 14, eI cZ 10 w4)] → yG p l e (headSpec wsX5_least rmX5_least).room s m (List.toArray [.ref h_t, .int x1, .int x2]) below meth c D (va_A [(h_t, oR A_t c_t_many c_t_below c_t_above1 c_t_below1), (A_t 0, eI cI 242 c_t_now), (A_t 9, eI cZ 6 c_t_side), (A_t 14, eI cZ 10 c_t_was)] sz) 9 0 0 (MQ below (yQi D (yT cI cJ cZ cW cR) r [(h_t, oR A_t c_t_many c_t_below c_t_above1 c_t_below1), (A_t 0, eI cI 242 zc_t_now), (A_t 9, eI cZ 6 zc_t_side), (A_t 14, eI cZ 10 zc_t_was)] (va_A [(h_t, oR A_t c_t_many c_t_below c_t_above1 c_t_below1), (A_t 0, eI cI 242 c_t_now), (A_t 9, eI cZ 6 c_t_side), (A_t 14, eI cZ 10 c_t_was)] sz)) (List.toArray [.ref h_t, .int x1, .int x2]) s 0 0 (va_A [(h_t, oR A_t c_t_many c_t_below c_t_above1 c_t_below1), (A_t 0, eI cI 242 c_t_now), (A_t 9, eI cZ 6 c_t_side), (A_t 14, eI cZ 10 c_t_was)] sz)) 17 [(0, .ref h_t), (1, .int y1), (2, .int y2), (3, .int y3), (4, .int y4), (5, .int y5)] [] [(h_t, oR A_t d_t_many d_t_below d_t_above1 d_t_below1), (A_t 0, eI cI 242 d_t_now), (A_t 9, eI cZ 6 d_t_side), (A_t 14, eI cZ 10 d_t_was)] := by
    intro n
    induction n with
    | zero =>
      intro y1 y2 y3 y4 y5 d_t_many d_t_below d_t_above1 d_t_below1 d_t_now d_t_side d_t_was w0 w1 w2 w3 w4 hf
      cases hf
    | succ n ih =>
      intro y1 y2 y3 y4 y5 d_t_many d_t_below d_t_above1 d_t_below1 d_t_now d_t_side d_t_was w0 w1 w2 w3 w4 hf hk
      unfold fX5_least_L17 at hf
      refine g_iload Γ 5 dX5_least_17 rfl ?_
      refine g_iconst (v := 1) Γ dX5_least_19 (by decide) ?_
      refine g_aload_n Γ 0 dX5_least_20 rfl ?_
      obtain ⟨v4, e5, hf⟩ := ya_ob hf
      refine g_vi (q := (RX5, TX5, 19)) (wr := [(A_t 9, eI cZ 6 d_t_side), (A_t 14, eI cZ 10 d_t_was)]) (ws' := [(A_t 9, eI cZ 6 d_t_side), (A_t 14, eI cZ 10 d_t_was), (h_t, oR A_t d_t_many d_t_below d_t_above1 d_t_below1), (A_t 0, eI cI 242 d_t_now)]) Γ (fun sz => mX5_flows (l := l) (D := D) (sz := sz) (cI := cI) (cJ := cJ) (cZ := cZ) (cW := cW) (cR := cR) (h_t := h_t) (A_t := A_t) (hf := e5)) eX5_flows gX5_least_X5_flows rfl rfl 0 rfl rfl rfl (Nat.le_of_ble_eq_true rfl) ⟨Nat.le_of_ble_eq_true rfl, Nat.le_of_ble_eq_true rfl⟩ dX5_least_21 [0, 1] [2, 3] rfl rfl rfl rfl (by decide) rfl ?_
      refine g_ishl Γ dX5_least_24 ?_
      refine g_icmp_ge Γ 141 dX5_least_25 (by decide) (fun c6 => ?_) (fun c6 => ?_)
      · have hf := ya_if1 c6 hf
        cases hf
        refine g_lv [2, 3, 4] rfl ?_
        refine g_ws (ws' := [(h_t, oR A_t d_t_many d_t_below d_t_above1 d_t_below1), (A_t 0, eI cI 242 d_t_now), (A_t 9, eI cZ 6 d_t_side), (A_t 14, eI cZ 10 d_t_was)]) [2, 3, 0, 1] rfl rfl ?_
        exact hk
      · have hf := ya_if2 c6 hf
        refine g_iconst (v := 0) Γ dX5_least_28 (by decide) ?_
        refine g_istore (lv' := [(6, .int 0), (0, .ref h_t), (1, .int y1), (2, .int y2), (3, .int y3), (4, .int y4), (5, .int y5)]) Γ dX5_least_29 (by decide) rfl ?_
        refine g_iconst (v := 1) Γ dX5_least_31 (by decide) ?_
        refine g_istore (lv' := [(7, .int 1), (6, .int 0), (0, .ref h_t), (1, .int y1), (2, .int y2), (3, .int y3), (4, .int y4), (5, .int y5)]) Γ dX5_least_32 (by decide) rfl ?_
        refine g_iconst (v := 0) Γ dX5_least_34 (by decide) ?_
        refine g_istore (lv' := [(8, .int 0), (7, .int 1), (6, .int 0), (0, .ref h_t), (1, .int y1), (2, .int y2), (3, .int y3), (4, .int y4), (5, .int y5)]) Γ dX5_least_35 (by decide) rfl ?_
        obtain ⟨⟨v27, v28⟩, e29, hf⟩ := ya_ob hf
        refine g_lv [3, 4, 5, 6, 7, 8, 2, 1, 0] rfl ?_
        refine g_ws (ws' := [(h_t, oR A_t d_t_many d_t_below d_t_above1 d_t_below1), (A_t 0, eI cI 242 d_t_now), (A_t 9, eI cZ 6 d_t_side), (A_t 14, eI cZ 10 d_t_was)]) [2, 3, 0, 1] rfl rfl ?_
        refine loop37 N _ _ _ _ _ _ _ _ _ _ _ _ _ _ _ _ _ e29  ?_
        refine g_iload Γ 7 dX5_least_98 rfl ?_
        refine g_if_eq Γ 135 dX5_least_100 (by decide) (fun c30 => ?_) (fun c30 => ?_)
        · have hf := ya_if1 c30 hf
          obtain ⟨v31, e32, hf⟩ := ya_lt_inv hf
          refine g_iinc (lv' := [(5, .int v31), (0, .ref h_t), (1, .int y1), (2, .int y2), (3, .int y3), (4, .int y4), (6, .int v27), (7, .int v28)]) Γ 5 dX5_least_135 rfl (by rw [e32]; rfl) (by decide) rfl ?_
          refine g_goto Γ 17 dX5_least_138 (by decide) ?_
          refine g_lv [1, 2, 3, 4, 5, 0] rfl ?_
          exact ih _ _ _ _ _ _ _ _ _ _ _ _ _ _ _ _ _ hf hk
        · have hf := ya_if2 c30 hf
          refine g_iload_n Γ 3 dX5_least_103 rfl ?_
          refine g_iconst (v := (-1)) Γ dX5_least_104 (by decide) ?_
          refine g_icmp_eq Γ 115 dX5_least_105 (by decide) (fun c33 => ?_) (fun c33 => ?_)
          · have hf := ya_if1 c33 hf
            refine g_aload_n Γ 0 dX5_least_115 rfl ?_
            refine g_iload Γ 5 dX5_least_116 rfl ?_
            refine g_iload_n Γ 1 dX5_least_118 rfl ?_
            obtain ⟨⟨v34, v35, v36, v37⟩, e38, hf⟩ := ya_ob hf
            refine g_vi (q := (RX5, TX5, 19)) (wr := []) (ws' := [(h_t, oR A_t d_t_many d_t_below d_t_above1 d_t_below1), (A_t 0, eI cI 242 v35), (A_t 9, eI cZ 6 v36), (A_t 14, eI cZ 10 v37)]) Γ (fun sz => mX5_shows (l := l) (D := D) (sz := sz) (cI := cI) (cJ := cJ) (cZ := cZ) (cW := cW) (cR := cR) (h_t := h_t) (A_t := A_t) (hf := e38)) eX5_shows gX5_least_X5_shows rfl rfl 0 rfl rfl rfl (Nat.le_of_ble_eq_true rfl) ⟨Nat.le_of_ble_eq_true rfl, Nat.le_of_ble_eq_true rfl⟩ dX5_least_119 [0, 1, 2, 3] [] rfl rfl rfl rfl (by decide) rfl ?_
            refine g_if_ne Γ 128 dX5_least_122 (by decide) (fun c39 => ?_) (fun c39 => ?_)
            · have hf := ya_if2 c39 hf
              refine g_iload Γ 5 dX5_least_128 rfl ?_
              refine g_istore_n (lv' := [(3, .int y5), (0, .ref h_t), (1, .int y1), (2, .int y2), (4, .int y4), (5, .int y5), (6, .int v27), (7, .int v28)]) Γ dX5_least_130 (by decide) rfl ?_
              refine g_iload Γ 6 dX5_least_131 rfl ?_
              refine g_istore (lv' := [(4, .int v27), (3, .int y5), (0, .ref h_t), (1, .int y1), (2, .int y2), (5, .int y5), (6, .int v27), (7, .int v28)]) Γ dX5_least_133 (by decide) rfl ?_
              obtain ⟨v40, e41, hf⟩ := ya_lt_inv hf
              refine g_iinc (lv' := [(5, .int v40), (4, .int v27), (3, .int y5), (0, .ref h_t), (1, .int y1), (2, .int y2), (6, .int v27), (7, .int v28)]) Γ 5 dX5_least_135 rfl (by rw [e41]; rfl) (by decide) rfl ?_
              refine g_goto Γ 17 dX5_least_138 (by decide) ?_
              refine g_lv [3, 4, 5, 2, 1, 0] rfl ?_
              exact ih _ _ _ _ _ _ _ _ _ _ _ _ _ _ _ _ _ hf hk
            · have hf := ya_if1 c39 hf
              refine g_goto Γ 135 dX5_least_125 (by decide) ?_
              obtain ⟨v42, e43, hf⟩ := ya_lt_inv hf
              refine g_iinc (lv' := [(5, .int v42), (0, .ref h_t), (1, .int y1), (2, .int y2), (3, .int y3), (4, .int y4), (6, .int v27), (7, .int v28)]) Γ 5 dX5_least_135 rfl (by rw [e43]; rfl) (by decide) rfl ?_
              refine g_goto Γ 17 dX5_least_138 (by decide) ?_
              refine g_lv [1, 2, 3, 4, 5, 0] rfl ?_
              exact ih _ _ _ _ _ _ _ _ _ _ _ _ _ _ _ _ _ hf hk
          · have hf := ya_if2 c33 hf
            refine g_iload Γ 6 dX5_least_108 rfl ?_
            refine g_iload Γ 4 dX5_least_110 rfl ?_
            refine g_icmp_ge Γ 135 dX5_least_112 (by decide) (fun c44 => ?_) (fun c44 => ?_)
            · have hf := ya_if1 c44 hf
              obtain ⟨v45, e46, hf⟩ := ya_lt_inv hf
              refine g_iinc (lv' := [(5, .int v45), (0, .ref h_t), (1, .int y1), (2, .int y2), (3, .int y3), (4, .int y4), (6, .int v27), (7, .int v28)]) Γ 5 dX5_least_135 rfl (by rw [e46]; rfl) (by decide) rfl ?_
              refine g_goto Γ 17 dX5_least_138 (by decide) ?_
              refine g_lv [1, 2, 3, 4, 5, 0] rfl ?_
              exact ih _ _ _ _ _ _ _ _ _ _ _ _ _ _ _ _ _ hf hk
            · have hf := ya_if2 c44 hf
              refine g_aload_n Γ 0 dX5_least_115 rfl ?_
              refine g_iload Γ 5 dX5_least_116 rfl ?_
              refine g_iload_n Γ 1 dX5_least_118 rfl ?_
              obtain ⟨⟨v47, v48, v49, v50⟩, e51, hf⟩ := ya_ob hf
              refine g_vi (q := (RX5, TX5, 19)) (wr := []) (ws' := [(h_t, oR A_t d_t_many d_t_below d_t_above1 d_t_below1), (A_t 0, eI cI 242 v48), (A_t 9, eI cZ 6 v49), (A_t 14, eI cZ 10 v50)]) Γ (fun sz => mX5_shows (l := l) (D := D) (sz := sz) (cI := cI) (cJ := cJ) (cZ := cZ) (cW := cW) (cR := cR) (h_t := h_t) (A_t := A_t) (hf := e51)) eX5_shows gX5_least_X5_shows rfl rfl 0 rfl rfl rfl (Nat.le_of_ble_eq_true rfl) ⟨Nat.le_of_ble_eq_true rfl, Nat.le_of_ble_eq_true rfl⟩ dX5_least_119 [0, 1, 2, 3] [] rfl rfl rfl rfl (by decide) rfl ?_
              refine g_if_ne Γ 128 dX5_least_122 (by decide) (fun c52 => ?_) (fun c52 => ?_)
              · have hf := ya_if2 c52 hf
                refine g_iload Γ 5 dX5_least_128 rfl ?_
                refine g_istore_n (lv' := [(3, .int y5), (0, .ref h_t), (1, .int y1), (2, .int y2), (4, .int y4), (5, .int y5), (6, .int v27), (7, .int v28)]) Γ dX5_least_130 (by decide) rfl ?_
                refine g_iload Γ 6 dX5_least_131 rfl ?_
                refine g_istore (lv' := [(4, .int v27), (3, .int y5), (0, .ref h_t), (1, .int y1), (2, .int y2), (5, .int y5), (6, .int v27), (7, .int v28)]) Γ dX5_least_133 (by decide) rfl ?_
                obtain ⟨v53, e54, hf⟩ := ya_lt_inv hf
                refine g_iinc (lv' := [(5, .int v53), (4, .int v27), (3, .int y5), (0, .ref h_t), (1, .int y1), (2, .int y2), (6, .int v27), (7, .int v28)]) Γ 5 dX5_least_135 rfl (by rw [e54]; rfl) (by decide) rfl ?_
                refine g_goto Γ 17 dX5_least_138 (by decide) ?_
                refine g_lv [3, 4, 5, 2, 1, 0] rfl ?_
                exact ih _ _ _ _ _ _ _ _ _ _ _ _ _ _ _ _ _ hf hk
              · have hf := ya_if1 c52 hf
                refine g_goto Γ 135 dX5_least_125 (by decide) ?_
                obtain ⟨v55, e56, hf⟩ := ya_lt_inv hf
                refine g_iinc (lv' := [(5, .int v55), (0, .ref h_t), (1, .int y1), (2, .int y2), (3, .int y3), (4, .int y4), (6, .int v27), (7, .int v28)]) Γ 5 dX5_least_135 rfl (by rw [e56]; rfl) (by decide) rfl ?_
                refine g_goto Γ 17 dX5_least_138 (by decide) ?_
                refine g_lv [1, 2, 3, 4, 5, 0] rfl ?_
                exact ih _ _ _ _ _ _ _ _ _ _ _ _ _ _ _ _ _ hf hk
  show yG p l e (headSpec wsX5_least rmX5_least).room s m (List.toArray [.ref h_t, .int x1, .int x2]) below meth c D (va_A [(h_t, oR A_t c_t_many c_t_below c_t_above1 c_t_below1), (A_t 0, eI cI 242 c_t_now), (A_t 9, eI cZ 6 c_t_side), (A_t 14, eI cZ 10 c_t_was)] sz) 9 0 0 (MQ below (yQi D (yT cI cJ cZ cW cR) r [(h_t, oR A_t c_t_many c_t_below c_t_above1 c_t_below1), (A_t 0, eI cI 242 zc_t_now), (A_t 9, eI cZ 6 zc_t_side), (A_t 14, eI cZ 10 zc_t_was)] (va_A [(h_t, oR A_t c_t_many c_t_below c_t_above1 c_t_below1), (A_t 0, eI cI 242 c_t_now), (A_t 9, eI cZ 6 c_t_side), (A_t 14, eI cZ 10 c_t_was)] sz)) (List.toArray [.ref h_t, .int x1, .int x2]) s 0 0 (va_A [(h_t, oR A_t c_t_many c_t_below c_t_above1 c_t_below1), (A_t 0, eI cI 242 c_t_now), (A_t 9, eI cZ 6 c_t_side), (A_t 14, eI cZ 10 c_t_was)] sz)) 0 [(0, .ref h_t), (1, .int x1), (2, .int x2)] [] [(h_t, oR A_t c_t_many c_t_below c_t_above1 c_t_below1), (A_t 0, eI cI 242 c_t_now), (A_t 9, eI cZ 6 c_t_side), (A_t 14, eI cZ 10 c_t_was)]
  unfold fX5_least at hf
  refine g_iload_n Γ 2 dX5_least_0 rfl ?_
  obtain ⟨v1, e2, hf⟩ := ya_ob hf
  refine g_si (wr := [(h_t, oR A_t c_t_many c_t_below c_t_above1 c_t_below1), (A_t 0, eI cI 242 c_t_now), (A_t 9, eI cZ 6 c_t_side), (A_t 14, eI cZ 10 c_t_was)]) (ws' := [(h_t, oR A_t c_t_many c_t_below c_t_above1 c_t_below1), (A_t 0, eI cI 242 c_t_now), (A_t 9, eI cZ 6 c_t_side), (A_t 14, eI cZ 10 c_t_was)]) Γ (fun sz => mX5_isWhat (l := l) (D := D) (sz := sz) (cI := cI) (cJ := cJ) (cZ := cZ) (cW := cW) (cR := cR)  (hf := e2)) eX5_isWhat ggX5_least_X5_isWhat (by decide +kernel) (by decide +kernel) (by decide +kernel) rfl rfl (Nat.le_of_ble_eq_true rfl) ⟨Nat.le_of_ble_eq_true rfl, Nat.le_of_ble_eq_true rfl⟩ dX5_least_1 [] [0, 1, 2, 3] rfl rfl rfl rfl (by decide) rfl ?_
  refine g_if_ne Γ 9 dX5_least_4 (by decide) (fun c3 => ?_) (fun c3 => ?_)
  · have hf := ya_if2 c3 hf
    refine g_iconst (v := (-1)) Γ dX5_least_9 (by decide) ?_
    refine g_istore_n (lv' := [(3, .int (-1)), (0, .ref h_t), (1, .int x1), (2, .int x2)]) Γ dX5_least_10 (by decide) rfl ?_
    refine g_iconst (v := 0) Γ dX5_least_11 (by decide) ?_
    refine g_istore (lv' := [(4, .int 0), (3, .int (-1)), (0, .ref h_t), (1, .int x1), (2, .int x2)]) Γ dX5_least_12 (by decide) rfl ?_
    refine g_iconst (v := 0) Γ dX5_least_14 (by decide) ?_
    refine g_istore (lv' := [(5, .int 0), (4, .int 0), (3, .int (-1)), (0, .ref h_t), (1, .int x1), (2, .int x2)]) Γ dX5_least_15 (by decide) rfl ?_
    obtain ⟨⟨v57, v58, v59, v60, v61⟩, e62, hf⟩ := ya_ob hf
    refine g_lv [3, 4, 5, 2, 1, 0] rfl ?_
    refine loop17 N _ _ _ _ _ _ _ _ _ _ _ _ _ _ _ _ _ e62  ?_
    refine g_iload_n Γ 1 dX5_least_141 rfl ?_
    refine g_iconst (v := (-1)) Γ dX5_least_142 (by decide) ?_
    refine g_icmp_ne Γ 150 dX5_least_143 (by decide) (fun c63 => ?_) (fun c63 => ?_)
    · have hf := ya_if2 c63 hf
      refine g_iload_n Γ 0 dX5_least_150 rfl ?_
      refine g_if_ne Γ 159 dX5_least_151 (by decide) (fun c64 => ?_) (fun c64 => ?_)
      · have hf := ya_if2 c64 hf
        refine g_iload_n Γ 1 dX5_least_159 rfl ?_
        cases hf
        exact g_iret Γ hr dX5_least_160 [0, 1, 2, 3] rfl rfl
      · have hf := ya_if1 c64 hf
        refine g_iload Γ 2 dX5_least_154 rfl ?_
        refine g_goto Γ 160 dX5_least_156 (by decide) ?_
        cases hf
        exact g_iret Γ hr dX5_least_160 [0, 1, 2, 3] rfl rfl
    · have hf := ya_if1 c63 hf
      refine g_iconst (v := (-1)) Γ dX5_least_146 (by decide) ?_
      refine g_goto Γ 160 dX5_least_147 (by decide) ?_
      cases hf
      exact g_iret Γ hr dX5_least_160 [0, 1, 2, 3] rfl rfl
  · have hf := ya_if1 c3 hf
    refine g_iconst (v := (-1)) Γ dX5_least_7 (by decide) ?_
    cases hf
    exact g_iret Γ hr dX5_least_8 [0, 1, 2, 3] rfl rfl

set_option maxRecDepth 20000 in
theorem ggX5_isOff_X5_flows : GoodIn wsX5_isOff wsX5_flows := goodIn_r _ [5, 6, 15, 16, 17, 18, 19, 20, 21, 22, 23, 24, 25, 26, 27, 28, 29, 30, 31, 32, 33] rfl (by decide +kernel)
set_option maxRecDepth 20000 in
theorem gX5_isOff_X5_flows : GoodIn wsX5_isOff (wsV RX5 57 RX5 yX5_flows wsX5_flows) := goodIn_app (goodIn_of _ (by decide +kernel)) ggX5_isOff_X5_flows
set_option maxRecDepth 20000 in
theorem ggX5_isOff_X5_get : GoodIn wsX5_isOff wsX5_get := goodIn_r _ [10, 6, 15, 16, 17, 18, 19, 20, 21, 22, 23, 24, 25, 26, 27, 28, 29, 30, 31, 32, 33] rfl (by decide +kernel)
set_option maxRecDepth 20000 in
theorem gX5_isOff_X5_get : GoodIn wsX5_isOff (wsV RX5 86 RX5 yX5_get wsX5_get) := goodIn_app (goodIn_of _ (by decide +kernel)) ggX5_isOff_X5_get
set_option maxRecDepth 20000 in
theorem ggX5_isOff_X5_isRead : GoodIn wsX5_isOff wsX5_isRead := goodIn_r _ [14, 7, 8, 9, 4, 10, 6, 15, 16, 17, 18, 19, 20, 21, 22, 23, 24, 25, 26, 27, 28, 29, 30, 31, 32, 33] rfl (by decide +kernel)
set_option maxRecDepth 20000 in
theorem gX5_isOff_X5_isRead : GoodIn wsX5_isOff (wsV RX5 91 RX5 yX5_isRead wsX5_isRead) := goodIn_app (goodIn_of _ (by decide +kernel)) ggX5_isOff_X5_isRead
theorem dX5_isOff_0 : decode cX5_isOff 0 = .ok (.iconst 0, 1) := by decide +kernel
theorem dX5_isOff_1 : decode cX5_isOff 1 = .ok (.istore_n 2, 1) := by decide +kernel
theorem dX5_isOff_2 : decode cX5_isOff 2 = .ok (.iconst 0, 1) := by decide +kernel
theorem dX5_isOff_3 : decode cX5_isOff 3 = .ok (.istore_n 3, 1) := by decide +kernel
theorem dX5_isOff_4 : decode cX5_isOff 4 = .ok (.iload_n 3, 1) := by decide +kernel
theorem dX5_isOff_5 : decode cX5_isOff 5 = .ok (.aload_n 0, 1) := by decide +kernel
theorem dX5_isOff_6 : decode cX5_isOff 6 = .ok (.invokevirtual 57, 3) := by decide +kernel
theorem dX5_isOff_9 : decode cX5_isOff 9 = .ok (.if_icmp .ge 78, 3) := by decide +kernel
theorem dX5_isOff_12 : decode cX5_isOff 12 = .ok (.aload_n 0, 1) := by decide +kernel
theorem dX5_isOff_13 : decode cX5_isOff 13 = .ok (.iload_n 3, 1) := by decide +kernel
theorem dX5_isOff_14 : decode cX5_isOff 14 = .ok (.iconst 1, 1) := by decide +kernel
theorem dX5_isOff_15 : decode cX5_isOff 15 = .ok (.invokevirtual 86, 3) := by decide +kernel
theorem dX5_isOff_18 : decode cX5_isOff 18 = .ok (.iload_n 1, 1) := by decide +kernel
theorem dX5_isOff_19 : decode cX5_isOff 19 = .ok (.if_icmp .ne 7, 3) := by decide +kernel
theorem dX5_isOff_22 : decode cX5_isOff 22 = .ok (.iconst 1, 1) := by decide +kernel
theorem dX5_isOff_23 : decode cX5_isOff 23 = .ok (.goto 4, 3) := by decide +kernel
theorem dX5_isOff_26 : decode cX5_isOff 26 = .ok (.iconst 0, 1) := by decide +kernel
theorem dX5_isOff_27 : decode cX5_isOff 27 = .ok (.istore 4, 2) := by decide +kernel
theorem dX5_isOff_29 : decode cX5_isOff 29 = .ok (.iload 4, 2) := by decide +kernel
theorem dX5_isOff_31 : decode cX5_isOff 31 = .ok (.ifCond .ne 16, 3) := by decide +kernel
theorem dX5_isOff_34 : decode cX5_isOff 34 = .ok (.aload_n 0, 1) := by decide +kernel
theorem dX5_isOff_35 : decode cX5_isOff 35 = .ok (.iload_n 3, 1) := by decide +kernel
theorem dX5_isOff_36 : decode cX5_isOff 36 = .ok (.iconst 0, 1) := by decide +kernel
theorem dX5_isOff_37 : decode cX5_isOff 37 = .ok (.invokevirtual 86, 3) := by decide +kernel
theorem dX5_isOff_40 : decode cX5_isOff 40 = .ok (.iload_n 1, 1) := by decide +kernel
theorem dX5_isOff_41 : decode cX5_isOff 41 = .ok (.if_icmp .eq 6, 3) := by decide +kernel
theorem dX5_isOff_44 : decode cX5_isOff 44 = .ok (.goto 37, 3) := by decide +kernel
theorem dX5_isOff_47 : decode cX5_isOff 47 = .ok (.aload_n 0, 1) := by decide +kernel
theorem dX5_isOff_48 : decode cX5_isOff 48 = .ok (.iload_n 3, 1) := by decide +kernel
theorem dX5_isOff_49 : decode cX5_isOff 49 = .ok (.invokevirtual 91, 3) := by decide +kernel
theorem dX5_isOff_52 : decode cX5_isOff 52 = .ok (.ifCond .ne 5, 3) := by decide +kernel
theorem dX5_isOff_55 : decode cX5_isOff 55 = .ok (.iconst 0, 1) := by decide +kernel
theorem dX5_isOff_56 : decode cX5_isOff 56 = .ok (.ireturn, 1) := by decide +kernel
theorem dX5_isOff_57 : decode cX5_isOff 57 = .ok (.iload_n 2, 1) := by decide +kernel
theorem dX5_isOff_58 : decode cX5_isOff 58 = .ok (.iload 4, 2) := by decide +kernel
theorem dX5_isOff_60 : decode cX5_isOff 60 = .ok (.ifCond .eq 12, 3) := by decide +kernel
theorem dX5_isOff_63 : decode cX5_isOff 63 = .ok (.aload_n 0, 1) := by decide +kernel
theorem dX5_isOff_64 : decode cX5_isOff 64 = .ok (.iload_n 3, 1) := by decide +kernel
theorem dX5_isOff_65 : decode cX5_isOff 65 = .ok (.iconst 3, 1) := by decide +kernel
theorem dX5_isOff_66 : decode cX5_isOff 66 = .ok (.invokevirtual 86, 3) := by decide +kernel
theorem dX5_isOff_69 : decode cX5_isOff 69 = .ok (.goto 10, 3) := by decide +kernel
theorem dX5_isOff_72 : decode cX5_isOff 72 = .ok (.aload_n 0, 1) := by decide +kernel
theorem dX5_isOff_73 : decode cX5_isOff 73 = .ok (.iload_n 3, 1) := by decide +kernel
theorem dX5_isOff_74 : decode cX5_isOff 74 = .ok (.iconst 3, 1) := by decide +kernel
theorem dX5_isOff_75 : decode cX5_isOff 75 = .ok (.invokevirtual 86, 3) := by decide +kernel
theorem dX5_isOff_78 : decode cX5_isOff 78 = .ok (.ineg, 1) := by decide +kernel
theorem dX5_isOff_79 : decode cX5_isOff 79 = .ok (.iadd, 1) := by decide +kernel
theorem dX5_isOff_80 : decode cX5_isOff 80 = .ok (.istore_n 2, 1) := by decide +kernel
theorem dX5_isOff_81 : decode cX5_isOff 81 = .ok (.iinc 3 1, 3) := by decide +kernel
theorem dX5_isOff_84 : decode cX5_isOff 84 = .ok (.goto (-80), 3) := by decide +kernel
theorem dX5_isOff_87 : decode cX5_isOff 87 = .ok (.iload_n 2, 1) := by decide +kernel
theorem dX5_isOff_88 : decode cX5_isOff 88 = .ok (.ifCond .eq 7, 3) := by decide +kernel
theorem dX5_isOff_91 : decode cX5_isOff 91 = .ok (.iconst 1, 1) := by decide +kernel
theorem dX5_isOff_92 : decode cX5_isOff 92 = .ok (.goto 4, 3) := by decide +kernel
theorem dX5_isOff_95 : decode cX5_isOff 95 = .ok (.iconst 0, 1) := by decide +kernel
theorem dX5_isOff_96 : decode cX5_isOff 96 = .ok (.ireturn, 1) := by decide +kernel
/-! ===== FlowMetersModel.isOff(I)Z ===== -/
def fX5_isOff_L4 (N : Nat) (n : Nat) (y1 : Int32) (y2 : Int32) (y3 : Int32) (d_t_now : Nat → Int32) : Option ((Unit) ⊕ (Int32)) := match n with
  | 0 => none
  | n + 1 =>
    (fX5_flows d_t_now).bind fun v1 =>
      (if v1 ≤ y3 then
        some (.inr y2)
      else
        (fX5_get d_t_now y3 1).bind fun v4 =>
        (if v4 = y1 then
          (fX5_isRead d_t_now y3).bind fun v24 =>
            (if v24 = 0 then
              some (.inl ())
            else
              (fX5_get d_t_now y3 3).bind fun v28 =>
                ya_lt (y2 + v28) fun v30 =>
                ya_lt (y3 + 1) fun v32 =>
                fX5_isOff_L4 N n y1 v30 v32 d_t_now)
        else
          (fX5_get d_t_now y3 0).bind fun v8 =>
            (if v8 = y1 then
              (fX5_isRead d_t_now y3).bind fun v11 =>
              (if v11 = 0 then
                some (.inl ())
              else
                (fX5_get d_t_now y3 3).bind fun v15 =>
                  ya_lt (y2 + (-v15)) fun v17 =>
                  ya_lt (y3 + 1) fun v19 =>
                  fX5_isOff_L4 N n y1 v17 v19 d_t_now)
            else
              ya_lt (y3 + 1) fun v21 =>
              fX5_isOff_L4 N n y1 y2 v21 d_t_now)))
def fX5_isOff (N : Nat) (c_t_now : Nat → Int32) (x1 : Int32) : Option (Int32) :=
  (fX5_isOff_L4 N N x1 0 0 c_t_now).bind fun o34 => match o34 with
    | .inl _ => some 0
    | .inr v36 => (if v36 = 0 then
      some 0
    else
      some 1)
abbrev rmX5_isOff : Room := { frames := 2, cells := 0, slots := 0, locals := 43 }
theorem eX5_isOff : yY yX5_isOff wsX5_isOff cX5_isOff 5 (some .boolean) rmX5_isOff 1 := ⟨⟨_, rfl⟩, rfl, rfl, by decide, by decide, by decide +kernel⟩
set_option maxHeartbeats 4000000 in
set_option maxRecDepth 100000 in
theorem mX5_isOff {l : Launch} {D : va_G} {sz : Nat} {cI cJ cZ cW cR : ClassId} {N : Nat} {h_t : Nat} {A_t : Nat → Nat} {c_t_many : Int32} {c_t_below : Int64} {c_t_above1 : Int64} {c_t_below1 : Int64} {c_t_now : Nat → Int32} {x1 : Int32} {r : Int32} (hf : fX5_isOff N c_t_now x1 = some r) : Met l yX5_isOff wsX5_isOff rmX5_isOff (yP D (yT cI cJ cZ cW cR) [(h_t, oR A_t c_t_many c_t_below c_t_above1 c_t_below1), (A_t 0, eI cI 242 c_t_now)] sz [.ref h_t, .int x1]) (yQi D (yT cI cJ cZ cW cR) r [(h_t, oR A_t c_t_many c_t_below c_t_above1 c_t_below1), (A_t 0, eI cI 242 c_t_now)] (va_A [(h_t, oR A_t c_t_many c_t_below c_t_above1 c_t_below1), (A_t 0, eI cI 242 c_t_now)] sz)) 0 0 (va_A [(h_t, oR A_t c_t_many c_t_below c_t_above1 c_t_below1), (A_t 0, eI cI 242 c_t_now)] sz) := by
  refine yM (cc := cX5_isOff) (maxL := 5) (ret := (some .boolean)) RX5 (by decide) rfl rfl (Nat.le_of_ble_eq_true rfl) ?_
  intro p e s m below meth c Γ hr
  have loop4 : ∀ (n : Nat) (y1 : Int32) (y2 : Int32) (y3 : Int32) (d_t_many : Int32) (d_t_below : Int64) (d_t_above1 : Int64) (d_t_below1 : Int64) (d_t_now : Nat → Int32) (o : (Unit) ⊕ (Int32)), fX5_isOff_L4 N n y1 y2 y3 d_t_now = some o → (∀ (w : Unit), o = .inl w → yG p l e (headSpec wsX5_isOff rmX5_isOff).room s m (List.toArray [.ref h_t, .int x1]) below meth c D (va_A [(h_t, oR A_t c_t_many c_t_below c_t_above1 c_t_below1), (A_t 0, eI cI 242 c_t_now)] sz) 5 0 0 (MQ below (yQi D (yT cI cJ cZ cW cR) r [(h_t, oR A_t c_t_many c_t_below c_t_above1 c_t_below1), (A_t 0, eI cI 242 c_t_now)] (va_A [(h_t, oR A_t c_t_many c_t_below c_t_above1 c_t_below1), (A_t 0, eI cI 242 c_t_now)] sz)) (List.toArray [.ref h_t, .int x1]) s 0 0 (va_A [(h_t, oR A_t c_t_many c_t_below c_t_above1 c_t_below1), (A_t 0, eI cI 242 c_t_now)] sz)) 55 [] [] [(h_t, oR A_t d_t_many d_t_below d_t_above1 d_t_below1), (A_t 0, eI cI 242 d_t_now)]) → (∀ (w0 : Int32), o = .inr w0 → yG p l e (headSpec wsX5_isOff rmX5_isOff).room s m (List.toArray [.ref h_t, .int x1]) below meth c D (va_A [(h_t, oR A_t c_t_many c_t_below c_t_above1 c_t_below1), (A_t 0, eI cI 242 c_t_now)] sz) 5 0 0 (MQ below (yQi D (yT cI cJ cZ cW cR) r [(h_t, oR A_t c_t_many c_t_below c_t_above1 c_t_below1), (A_t 0, eI cI 242 c_t_now)] (va_A [(h_t, oR A_t c_t_many c_t_below c_t_above1 c_t_below1), (A_t 0, eI cI 242 c_t_now)] sz)) (List.toArray [.ref h_t, .int x1]) s 0 0 (va_A [(h_t, oR A_t c_t_many c_t_below c_t_above1 c_t_below1), (A_t 0, eI cI 242 c_t_now)] sz)) 87 [(2, .int w0)] [] [(h_t, oR A_t d_t_many d_t_below d_t_above1 d_t_below1), (A_t 0, eI cI 242 d_t_now)]) → yG p l e (headSpec wsX5_isOff rmX5_isOff).room s m (List.toArray [.ref h_t, .int x1]) below meth c D (va_A [(h_t, oR A_t c_t_many c_t_below c_t_above1 c_t_below1), (A_t 0, eI cI 242 c_t_now)] sz) 5 0 0 (MQ below (yQi D (yT cI cJ cZ cW cR) r [(h_t, oR A_t c_t_many c_t_below c_t_above1 c_t_below1), (A_t 0, eI cI 242 c_t_now)] (va_A [(h_t, oR A_t c_t_many c_t_below c_t_above1 c_t_below1), (A_t 0, eI cI 242 c_t_now)] sz)) (List.toArray [.ref h_t, .int x1]) s 0 0 (va_A [(h_t, oR A_t c_t_many c_t_below c_t_above1 c_t_below1), (A_t 0, eI cI 242 c_t_now)] sz)) 4 [(0, .ref h_t), (1, .int y1), (2, .int y2), (3, .int y3)] [] [(h_t, oR A_t d_t_many d_t_below d_t_above1 d_t_below1), (A_t 0, eI cI 242 d_t_now)] := by
    intro n
    induction n with
    | zero =>
      intro y1 y2 y3 d_t_many d_t_below d_t_above1 d_t_below1 d_t_now o hf
      cases hf
    | succ n ih =>
      intro y1 y2 y3 d_t_many d_t_below d_t_above1 d_t_below1 d_t_now o hf hk1 hk2
      unfold fX5_isOff_L4 at hf
      refine g_iload_n Γ 3 dX5_isOff_4 rfl ?_
      refine g_aload_n Γ 0 dX5_isOff_5 rfl ?_
      obtain ⟨v1, e2, hf⟩ := ya_ob hf
      refine g_vi (q := (RX5, TX5, 19)) (wr := []) (ws' := [(h_t, oR A_t d_t_many d_t_below d_t_above1 d_t_below1), (A_t 0, eI cI 242 d_t_now)]) Γ (fun sz => mX5_flows (l := l) (D := D) (sz := sz) (cI := cI) (cJ := cJ) (cZ := cZ) (cW := cW) (cR := cR) (h_t := h_t) (A_t := A_t) (hf := e2)) eX5_flows gX5_isOff_X5_flows rfl rfl 0 rfl rfl rfl (Nat.le_of_ble_eq_true rfl) ⟨Nat.le_of_ble_eq_true rfl, Nat.le_of_ble_eq_true rfl⟩ dX5_isOff_6 [0, 1] [] rfl rfl rfl rfl (by decide) rfl ?_
      refine g_icmp_ge Γ 87 dX5_isOff_9 (by decide) (fun c3 => ?_) (fun c3 => ?_)
      · have hf := ya_if1 c3 hf
        cases hf
        refine g_lv [2] rfl ?_
        exact hk2 _ rfl
      · have hf := ya_if2 c3 hf
        refine g_aload_n Γ 0 dX5_isOff_12 rfl ?_
        refine g_iload_n Γ 3 dX5_isOff_13 rfl ?_
        refine g_iconst (v := 1) Γ dX5_isOff_14 (by decide) ?_
        obtain ⟨v4, e5, hf⟩ := ya_ob hf
        refine g_vi (q := (RX5, TX5, 19)) (wr := []) (ws' := [(h_t, oR A_t d_t_many d_t_below d_t_above1 d_t_below1), (A_t 0, eI cI 242 d_t_now)]) Γ (fun sz => mX5_get (l := l) (D := D) (sz := sz) (cI := cI) (cJ := cJ) (cZ := cZ) (cW := cW) (cR := cR) (h_t := h_t) (A_t := A_t) (hf := e5)) eX5_get gX5_isOff_X5_get rfl rfl 0 rfl rfl rfl (Nat.le_of_ble_eq_true rfl) ⟨Nat.le_of_ble_eq_true rfl, Nat.le_of_ble_eq_true rfl⟩ dX5_isOff_15 [0, 1] [] rfl rfl rfl rfl (by decide) rfl ?_
        refine g_iload_n Γ 1 dX5_isOff_18 rfl ?_
        refine g_icmp_ne Γ 26 dX5_isOff_19 (by decide) (fun c6 => ?_) (fun c6 => ?_)
        · have hf := ya_if2 c6 hf
          refine g_iconst (v := 0) Γ dX5_isOff_26 (by decide) ?_
          refine g_istore (lv' := [(4, .int 0), (0, .ref h_t), (1, .int y1), (2, .int y2), (3, .int y3)]) Γ dX5_isOff_27 (by decide) rfl ?_
          refine g_iload Γ 0 dX5_isOff_29 rfl ?_
          refine g_if_ne Γ 47 dX5_isOff_31 (by decide) (fun c7 => ?_) (fun c7 => ?_)
          · exact absurd c7 (by decide)
          · skip
            refine g_aload_n Γ 1 dX5_isOff_34 rfl ?_
            refine g_iload_n Γ 4 dX5_isOff_35 rfl ?_
            refine g_iconst (v := 0) Γ dX5_isOff_36 (by decide) ?_
            obtain ⟨v8, e9, hf⟩ := ya_ob hf
            refine g_vi (q := (RX5, TX5, 19)) (wr := []) (ws' := [(h_t, oR A_t d_t_many d_t_below d_t_above1 d_t_below1), (A_t 0, eI cI 242 d_t_now)]) Γ (fun sz => mX5_get (l := l) (D := D) (sz := sz) (cI := cI) (cJ := cJ) (cZ := cZ) (cW := cW) (cR := cR) (h_t := h_t) (A_t := A_t) (hf := e9)) eX5_get gX5_isOff_X5_get rfl rfl 0 rfl rfl rfl (Nat.le_of_ble_eq_true rfl) ⟨Nat.le_of_ble_eq_true rfl, Nat.le_of_ble_eq_true rfl⟩ dX5_isOff_37 [0, 1] [] rfl rfl rfl rfl (by decide) rfl ?_
            refine g_iload_n Γ 2 dX5_isOff_40 rfl ?_
            refine g_icmp_eq Γ 47 dX5_isOff_41 (by decide) (fun c10 => ?_) (fun c10 => ?_)
            · have hf := ya_if1 c10 hf
              refine g_aload_n Γ 1 dX5_isOff_47 rfl ?_
              refine g_iload_n Γ 4 dX5_isOff_48 rfl ?_
              obtain ⟨v11, e12, hf⟩ := ya_ob hf
              refine g_vi (q := (RX5, TX5, 19)) (wr := []) (ws' := [(h_t, oR A_t d_t_many d_t_below d_t_above1 d_t_below1), (A_t 0, eI cI 242 d_t_now)]) Γ (fun sz => mX5_isRead (l := l) (D := D) (sz := sz) (cI := cI) (cJ := cJ) (cZ := cZ) (cW := cW) (cR := cR) (h_t := h_t) (A_t := A_t) (hf := e12)) eX5_isRead gX5_isOff_X5_isRead rfl rfl 0 rfl rfl rfl (Nat.le_of_ble_eq_true rfl) ⟨Nat.le_of_ble_eq_true rfl, Nat.le_of_ble_eq_true rfl⟩ dX5_isOff_49 [0, 1] [] rfl rfl rfl rfl (by decide) rfl ?_
              refine g_if_ne Γ 57 dX5_isOff_52 (by decide) (fun c13 => ?_) (fun c13 => ?_)
              · have hf := ya_if2 c13 hf
                refine g_iload_n Γ 3 dX5_isOff_57 rfl ?_
                refine g_iload Γ 0 dX5_isOff_58 rfl ?_
                refine g_if_eq Γ 72 dX5_isOff_60 (by decide) (fun c14 => ?_) (fun c14 => ?_)
                · skip
                  refine g_aload_n Γ 1 dX5_isOff_72 rfl ?_
                  refine g_iload_n Γ 4 dX5_isOff_73 rfl ?_
                  refine g_iconst (v := 3) Γ dX5_isOff_74 (by decide) ?_
                  obtain ⟨v15, e16, hf⟩ := ya_ob hf
                  refine g_vi (q := (RX5, TX5, 19)) (wr := []) (ws' := [(h_t, oR A_t d_t_many d_t_below d_t_above1 d_t_below1), (A_t 0, eI cI 242 d_t_now)]) Γ (fun sz => mX5_get (l := l) (D := D) (sz := sz) (cI := cI) (cJ := cJ) (cZ := cZ) (cW := cW) (cR := cR) (h_t := h_t) (A_t := A_t) (hf := e16)) eX5_get gX5_isOff_X5_get rfl rfl 0 rfl rfl rfl (Nat.le_of_ble_eq_true rfl) ⟨Nat.le_of_ble_eq_true rfl, Nat.le_of_ble_eq_true rfl⟩ dX5_isOff_75 [0, 1] [] rfl rfl rfl rfl (by decide) rfl ?_
                  refine g_ineg Γ dX5_isOff_78 ?_
                  refine g_iadd Γ dX5_isOff_79 ?_
                  obtain ⟨v17, e18, hf⟩ := ya_lt_inv hf
                  refine g_nmi e18 ?_
                  refine g_istore_n (lv' := [(2, .int v17), (4, .int 0), (0, .ref h_t), (1, .int y1), (3, .int y3)]) Γ dX5_isOff_80 (by decide) rfl ?_
                  obtain ⟨v19, e20, hf⟩ := ya_lt_inv hf
                  refine g_iinc (lv' := [(3, .int v19), (2, .int v17), (4, .int 0), (0, .ref h_t), (1, .int y1)]) Γ 4 dX5_isOff_81 rfl (by rw [e20]; rfl) (by decide) rfl ?_
                  refine g_goto Γ 4 dX5_isOff_84 (by decide) ?_
                  refine g_lv [3, 4, 1, 0] rfl ?_
                  exact ih _ _ _ _ _ _ _ _ _ hf hk1 hk2
                · exact absurd c14 (by decide)
              · have hf := ya_if1 c13 hf
                cases hf
                refine g_lv [] rfl ?_
                exact hk1 _ rfl
            · have hf := ya_if2 c10 hf
              refine g_goto Γ 81 dX5_isOff_44 (by decide) ?_
              obtain ⟨v21, e22, hf⟩ := ya_lt_inv hf
              refine g_iinc (lv' := [(3, .int v21), (4, .int 0), (0, .ref h_t), (1, .int y1), (2, .int y2)]) Γ 4 dX5_isOff_81 rfl (by rw [e22]; rfl) (by decide) rfl ?_
              refine g_goto Γ 4 dX5_isOff_84 (by decide) ?_
              refine g_lv [2, 3, 4, 0] rfl ?_
              exact ih _ _ _ _ _ _ _ _ _ hf hk1 hk2
        · have hf := ya_if1 c6 hf
          refine g_iconst (v := 1) Γ dX5_isOff_22 (by decide) ?_
          refine g_goto Γ 27 dX5_isOff_23 (by decide) ?_
          refine g_istore (lv' := [(4, .int 1), (0, .ref h_t), (1, .int y1), (2, .int y2), (3, .int y3)]) Γ dX5_isOff_27 (by decide) rfl ?_
          refine g_iload Γ 0 dX5_isOff_29 rfl ?_
          refine g_if_ne Γ 47 dX5_isOff_31 (by decide) (fun c23 => ?_) (fun c23 => ?_)
          · skip
            refine g_aload_n Γ 1 dX5_isOff_47 rfl ?_
            refine g_iload_n Γ 4 dX5_isOff_48 rfl ?_
            obtain ⟨v24, e25, hf⟩ := ya_ob hf
            refine g_vi (q := (RX5, TX5, 19)) (wr := []) (ws' := [(h_t, oR A_t d_t_many d_t_below d_t_above1 d_t_below1), (A_t 0, eI cI 242 d_t_now)]) Γ (fun sz => mX5_isRead (l := l) (D := D) (sz := sz) (cI := cI) (cJ := cJ) (cZ := cZ) (cW := cW) (cR := cR) (h_t := h_t) (A_t := A_t) (hf := e25)) eX5_isRead gX5_isOff_X5_isRead rfl rfl 0 rfl rfl rfl (Nat.le_of_ble_eq_true rfl) ⟨Nat.le_of_ble_eq_true rfl, Nat.le_of_ble_eq_true rfl⟩ dX5_isOff_49 [0, 1] [] rfl rfl rfl rfl (by decide) rfl ?_
            refine g_if_ne Γ 57 dX5_isOff_52 (by decide) (fun c26 => ?_) (fun c26 => ?_)
            · have hf := ya_if2 c26 hf
              refine g_iload_n Γ 3 dX5_isOff_57 rfl ?_
              refine g_iload Γ 0 dX5_isOff_58 rfl ?_
              refine g_if_eq Γ 72 dX5_isOff_60 (by decide) (fun c27 => ?_) (fun c27 => ?_)
              · exact absurd c27 (by decide)
              · skip
                refine g_aload_n Γ 1 dX5_isOff_63 rfl ?_
                refine g_iload_n Γ 4 dX5_isOff_64 rfl ?_
                refine g_iconst (v := 3) Γ dX5_isOff_65 (by decide) ?_
                obtain ⟨v28, e29, hf⟩ := ya_ob hf
                refine g_vi (q := (RX5, TX5, 19)) (wr := []) (ws' := [(h_t, oR A_t d_t_many d_t_below d_t_above1 d_t_below1), (A_t 0, eI cI 242 d_t_now)]) Γ (fun sz => mX5_get (l := l) (D := D) (sz := sz) (cI := cI) (cJ := cJ) (cZ := cZ) (cW := cW) (cR := cR) (h_t := h_t) (A_t := A_t) (hf := e29)) eX5_get gX5_isOff_X5_get rfl rfl 0 rfl rfl rfl (Nat.le_of_ble_eq_true rfl) ⟨Nat.le_of_ble_eq_true rfl, Nat.le_of_ble_eq_true rfl⟩ dX5_isOff_66 [0, 1] [] rfl rfl rfl rfl (by decide) rfl ?_
                refine g_goto Γ 79 dX5_isOff_69 (by decide) ?_
                refine g_iadd Γ dX5_isOff_79 ?_
                obtain ⟨v30, e31, hf⟩ := ya_lt_inv hf
                refine g_nmi e31 ?_
                refine g_istore_n (lv' := [(2, .int v30), (4, .int 1), (0, .ref h_t), (1, .int y1), (3, .int y3)]) Γ dX5_isOff_80 (by decide) rfl ?_
                obtain ⟨v32, e33, hf⟩ := ya_lt_inv hf
                refine g_iinc (lv' := [(3, .int v32), (2, .int v30), (4, .int 1), (0, .ref h_t), (1, .int y1)]) Γ 4 dX5_isOff_81 rfl (by rw [e33]; rfl) (by decide) rfl ?_
                refine g_goto Γ 4 dX5_isOff_84 (by decide) ?_
                refine g_lv [3, 4, 1, 0] rfl ?_
                exact ih _ _ _ _ _ _ _ _ _ hf hk1 hk2
            · have hf := ya_if1 c26 hf
              cases hf
              refine g_lv [] rfl ?_
              exact hk1 _ rfl
          · exact absurd c23 (by decide)
  show yG p l e (headSpec wsX5_isOff rmX5_isOff).room s m (List.toArray [.ref h_t, .int x1]) below meth c D (va_A [(h_t, oR A_t c_t_many c_t_below c_t_above1 c_t_below1), (A_t 0, eI cI 242 c_t_now)] sz) 5 0 0 (MQ below (yQi D (yT cI cJ cZ cW cR) r [(h_t, oR A_t c_t_many c_t_below c_t_above1 c_t_below1), (A_t 0, eI cI 242 c_t_now)] (va_A [(h_t, oR A_t c_t_many c_t_below c_t_above1 c_t_below1), (A_t 0, eI cI 242 c_t_now)] sz)) (List.toArray [.ref h_t, .int x1]) s 0 0 (va_A [(h_t, oR A_t c_t_many c_t_below c_t_above1 c_t_below1), (A_t 0, eI cI 242 c_t_now)] sz)) 0 [(0, .ref h_t), (1, .int x1)] [] [(h_t, oR A_t c_t_many c_t_below c_t_above1 c_t_below1), (A_t 0, eI cI 242 c_t_now)]
  unfold fX5_isOff at hf
  refine g_iconst (v := 0) Γ dX5_isOff_0 (by decide) ?_
  refine g_istore_n (lv' := [(2, .int 0), (0, .ref h_t), (1, .int x1)]) Γ dX5_isOff_1 (by decide) rfl ?_
  refine g_iconst (v := 0) Γ dX5_isOff_2 (by decide) ?_
  refine g_istore_n (lv' := [(3, .int 0), (2, .int 0), (0, .ref h_t), (1, .int x1)]) Γ dX5_isOff_3 (by decide) rfl ?_
  obtain ⟨o34, e35, hf⟩ := ya_ob hf
  refine g_lv [2, 3, 1, 0] rfl ?_
  refine loop4 N _ _ _ _ _ _ _ _ o34 e35 ?_ ?_
  · intro _ ho; subst ho
    refine g_iconst (v := 0) Γ dX5_isOff_55 (by decide) ?_
    cases hf
    exact g_zret Γ hr (show ya_bo 0 = some 0 from rfl) dX5_isOff_56 [0, 1] rfl rfl
  · intro v36 ho; subst ho
    refine g_iload_n Γ 0 dX5_isOff_87 rfl ?_
    refine g_if_eq Γ 95 dX5_isOff_88 (by decide) (fun c37 => ?_) (fun c37 => ?_)
    · have hf := ya_if1 c37 hf
      refine g_iconst (v := 0) Γ dX5_isOff_95 (by decide) ?_
      cases hf
      exact g_zret Γ hr (show ya_bo 0 = some 0 from rfl) dX5_isOff_96 [0, 1] rfl rfl
    · have hf := ya_if2 c37 hf
      refine g_iconst (v := 1) Γ dX5_isOff_91 (by decide) ?_
      refine g_goto Γ 96 dX5_isOff_92 (by decide) ?_
      cases hf
      exact g_zret Γ hr (show ya_bo 1 = some 1 from rfl) dX5_isOff_96 [0, 1] rfl rfl

set_option maxRecDepth 20000 in
theorem ggX5_look_X5_heaps : GoodIn wsX5_look wsX5_heaps := goodIn_r _ [6, 1, 7, 8, 9, 5, 10, 11, 12, 13, 14, 15, 16, 17, 18, 19, 41, 42, 43, 44, 45, 46, 47, 48, 49, 50, 51, 52, 53, 54, 55, 56, 57, 58, 59] rfl (by decide +kernel)
set_option maxRecDepth 20000 in
theorem gX5_look_X5_heaps : GoodIn wsX5_look (wsV RX5 98 RX5 yX5_heaps wsX5_heaps) := goodIn_app (goodIn_of _ (by decide +kernel)) ggX5_look_X5_heaps
set_option maxRecDepth 20000 in
theorem ggX5_look_X5_knots : GoodIn wsX5_look wsX5_knots := goodIn_r _ [23, 11, 41, 42, 43, 44, 45, 46, 47, 48, 49, 50, 51, 52, 53, 54, 55, 56, 57, 58, 59] rfl (by decide +kernel)
set_option maxRecDepth 20000 in
theorem gX5_look_X5_knots : GoodIn wsX5_look (wsV RX5 65 RX5 yX5_knots wsX5_knots) := goodIn_app (goodIn_of _ (by decide +kernel)) ggX5_look_X5_knots
set_option maxRecDepth 20000 in
theorem ggX5_look_X5_flows : GoodIn wsX5_look wsX5_flows := goodIn_r _ [10, 11, 41, 42, 43, 44, 45, 46, 47, 48, 49, 50, 51, 52, 53, 54, 55, 56, 57, 58, 59] rfl (by decide +kernel)
set_option maxRecDepth 20000 in
theorem gX5_look_X5_flows : GoodIn wsX5_look (wsV RX5 57 RX5 yX5_flows wsX5_flows) := goodIn_app (goodIn_of _ (by decide +kernel)) ggX5_look_X5_flows
set_option maxRecDepth 20000 in
theorem ggX5_look_X5_get : GoodIn wsX5_look wsX5_get := goodIn_r _ [19, 11, 41, 42, 43, 44, 45, 46, 47, 48, 49, 50, 51, 52, 53, 54, 55, 56, 57, 58, 59] rfl (by decide +kernel)
set_option maxRecDepth 20000 in
theorem gX5_look_X5_get : GoodIn wsX5_look (wsV RX5 86 RX5 yX5_get wsX5_get) := goodIn_app (goodIn_of _ (by decide +kernel)) ggX5_look_X5_get
set_option maxRecDepth 20000 in
theorem ggX5_look_X5_isSeen : GoodIn wsX5_look wsX5_isSeen := goodIn_r _ [27, 28, 12, 13, 14, 5, 15, 16, 17, 18, 19, 11, 29, 30, 31, 32, 7, 8, 9, 10, 41, 42, 43, 44, 45, 46, 47, 48, 49, 50, 51, 52, 53, 54, 55, 56, 57, 58, 59] rfl (by decide +kernel)
set_option maxRecDepth 20000 in
theorem gX5_look_X5_isSeen : GoodIn wsX5_look (wsV RX5 136 RX5 yX5_isSeen wsX5_isSeen) := goodIn_app (goodIn_of _ (by decide +kernel)) ggX5_look_X5_isSeen
set_option maxRecDepth 20000 in
theorem ggX5_look_X5_isSpare : GoodIn wsX5_look wsX5_isSpare := goodIn_r _ [36, 1, 2, 3, 4, 5, 6, 7, 8, 9, 10, 11, 12, 13, 14, 15, 16, 17, 18, 19, 41, 42, 43, 44, 45, 46, 47, 48, 49, 50, 51, 52, 53, 54, 55, 56, 57, 58, 59] rfl (by decide +kernel)
set_option maxRecDepth 20000 in
theorem gX5_look_X5_isSpare : GoodIn wsX5_look (wsV RX5 146 RX5 yX5_isSpare wsX5_isSpare) := goodIn_app (goodIn_of _ (by decide +kernel)) ggX5_look_X5_isSpare
set_option maxRecDepth 20000 in
theorem ggX5_look_X5_isOff : GoodIn wsX5_look wsX5_isOff := goodIn_r _ [40, 7, 8, 9, 5, 10, 11, 16, 17, 18, 19, 12, 13, 14, 15, 41, 42, 43, 44, 45, 46, 47, 48, 49, 50, 51, 52, 53, 54, 55, 56, 57, 58, 59] rfl (by decide +kernel)
set_option maxRecDepth 20000 in
theorem gX5_look_X5_isOff : GoodIn wsX5_look (wsV RX5 171 RX5 yX5_isOff wsX5_isOff) := goodIn_app (goodIn_of _ (by decide +kernel)) ggX5_look_X5_isOff
theorem dX5_look_0 : decode cX5_look 0 = .ok (.iconst 0, 1) := by decide +kernel
theorem dX5_look_1 : decode cX5_look 1 = .ok (.istore_n 2, 1) := by decide +kernel
theorem dX5_look_2 : decode cX5_look 2 = .ok (.aload_n 0, 1) := by decide +kernel
theorem dX5_look_3 : decode cX5_look 3 = .ok (.invokevirtual 98, 3) := by decide +kernel
theorem dX5_look_6 : decode cX5_look 6 = .ok (.iload_n 1, 1) := by decide +kernel
theorem dX5_look_7 : decode cX5_look 7 = .ok (.tableswitch 216 0 6 #[41, 46, 51, 78, 114, 148, 182], 41) := by decide +kernel
theorem dX5_look_48 : decode cX5_look 48 = .ok (.aload_n 0, 1) := by decide +kernel
theorem dX5_look_49 : decode cX5_look 49 = .ok (.invokevirtual 65, 3) := by decide +kernel
theorem dX5_look_52 : decode cX5_look 52 = .ok (.ireturn, 1) := by decide +kernel
theorem dX5_look_53 : decode cX5_look 53 = .ok (.aload_n 0, 1) := by decide +kernel
theorem dX5_look_54 : decode cX5_look 54 = .ok (.invokevirtual 57, 3) := by decide +kernel
theorem dX5_look_57 : decode cX5_look 57 = .ok (.ireturn, 1) := by decide +kernel
theorem dX5_look_58 : decode cX5_look 58 = .ok (.iconst 0, 1) := by decide +kernel
theorem dX5_look_59 : decode cX5_look 59 = .ok (.istore_n 3, 1) := by decide +kernel
theorem dX5_look_60 : decode cX5_look 60 = .ok (.iload_n 3, 1) := by decide +kernel
theorem dX5_look_61 : decode cX5_look 61 = .ok (.aload_n 0, 1) := by decide +kernel
theorem dX5_look_62 : decode cX5_look 62 = .ok (.invokevirtual 57, 3) := by decide +kernel
theorem dX5_look_65 : decode cX5_look 65 = .ok (.if_icmp .ge 18, 3) := by decide +kernel
theorem dX5_look_68 : decode cX5_look 68 = .ok (.iload_n 2, 1) := by decide +kernel
theorem dX5_look_69 : decode cX5_look 69 = .ok (.aload_n 0, 1) := by decide +kernel
theorem dX5_look_70 : decode cX5_look 70 = .ok (.iload_n 3, 1) := by decide +kernel
theorem dX5_look_71 : decode cX5_look 71 = .ok (.iconst 2, 1) := by decide +kernel
theorem dX5_look_72 : decode cX5_look 72 = .ok (.invokevirtual 86, 3) := by decide +kernel
theorem dX5_look_75 : decode cX5_look 75 = .ok (.iadd, 1) := by decide +kernel
theorem dX5_look_76 : decode cX5_look 76 = .ok (.istore_n 2, 1) := by decide +kernel
theorem dX5_look_77 : decode cX5_look 77 = .ok (.iinc 3 1, 3) := by decide +kernel
theorem dX5_look_80 : decode cX5_look 80 = .ok (.goto (-20), 3) := by decide +kernel
theorem dX5_look_83 : decode cX5_look 83 = .ok (.iload_n 2, 1) := by decide +kernel
theorem dX5_look_84 : decode cX5_look 84 = .ok (.ireturn, 1) := by decide +kernel
theorem dX5_look_85 : decode cX5_look 85 = .ok (.iconst 0, 1) := by decide +kernel
theorem dX5_look_86 : decode cX5_look 86 = .ok (.istore_n 3, 1) := by decide +kernel
theorem dX5_look_87 : decode cX5_look 87 = .ok (.iload_n 3, 1) := by decide +kernel
theorem dX5_look_88 : decode cX5_look 88 = .ok (.aload_n 0, 1) := by decide +kernel
theorem dX5_look_89 : decode cX5_look 89 = .ok (.invokevirtual 65, 3) := by decide +kernel
theorem dX5_look_92 : decode cX5_look 92 = .ok (.if_icmp .ge 27, 3) := by decide +kernel
theorem dX5_look_95 : decode cX5_look 95 = .ok (.iload_n 2, 1) := by decide +kernel
theorem dX5_look_96 : decode cX5_look 96 = .ok (.aload_n 0, 1) := by decide +kernel
theorem dX5_look_97 : decode cX5_look 97 = .ok (.getfield 16, 3) := by decide +kernel
theorem dX5_look_100 : decode cX5_look 100 = .ok (.iload_n 3, 1) := by decide +kernel
theorem dX5_look_101 : decode cX5_look 101 = .ok (.iaload, 1) := by decide +kernel
theorem dX5_look_102 : decode cX5_look 102 = .ok (.iload_n 3, 1) := by decide +kernel
theorem dX5_look_103 : decode cX5_look 103 = .ok (.if_icmp .ne 7, 3) := by decide +kernel
theorem dX5_look_106 : decode cX5_look 106 = .ok (.iconst 1, 1) := by decide +kernel
theorem dX5_look_107 : decode cX5_look 107 = .ok (.goto 4, 3) := by decide +kernel
theorem dX5_look_110 : decode cX5_look 110 = .ok (.iconst 0, 1) := by decide +kernel
theorem dX5_look_111 : decode cX5_look 111 = .ok (.iadd, 1) := by decide +kernel
theorem dX5_look_112 : decode cX5_look 112 = .ok (.istore_n 2, 1) := by decide +kernel
theorem dX5_look_113 : decode cX5_look 113 = .ok (.iinc 3 1, 3) := by decide +kernel
theorem dX5_look_116 : decode cX5_look 116 = .ok (.goto (-29), 3) := by decide +kernel
theorem dX5_look_119 : decode cX5_look 119 = .ok (.iload_n 2, 1) := by decide +kernel
theorem dX5_look_120 : decode cX5_look 120 = .ok (.ireturn, 1) := by decide +kernel
theorem dX5_look_121 : decode cX5_look 121 = .ok (.iconst 0, 1) := by decide +kernel
theorem dX5_look_122 : decode cX5_look 122 = .ok (.istore_n 3, 1) := by decide +kernel
theorem dX5_look_123 : decode cX5_look 123 = .ok (.iload_n 3, 1) := by decide +kernel
theorem dX5_look_124 : decode cX5_look 124 = .ok (.aload_n 0, 1) := by decide +kernel
theorem dX5_look_125 : decode cX5_look 125 = .ok (.invokevirtual 57, 3) := by decide +kernel
theorem dX5_look_128 : decode cX5_look 128 = .ok (.if_icmp .ge 25, 3) := by decide +kernel
theorem dX5_look_131 : decode cX5_look 131 = .ok (.iload_n 2, 1) := by decide +kernel
theorem dX5_look_132 : decode cX5_look 132 = .ok (.aload_n 0, 1) := by decide +kernel
theorem dX5_look_133 : decode cX5_look 133 = .ok (.iload_n 3, 1) := by decide +kernel
theorem dX5_look_134 : decode cX5_look 134 = .ok (.invokevirtual 136, 3) := by decide +kernel
theorem dX5_look_137 : decode cX5_look 137 = .ok (.ifCond .eq 7, 3) := by decide +kernel
theorem dX5_look_140 : decode cX5_look 140 = .ok (.iconst 1, 1) := by decide +kernel
theorem dX5_look_141 : decode cX5_look 141 = .ok (.goto 4, 3) := by decide +kernel
theorem dX5_look_144 : decode cX5_look 144 = .ok (.iconst 0, 1) := by decide +kernel
theorem dX5_look_145 : decode cX5_look 145 = .ok (.iadd, 1) := by decide +kernel
theorem dX5_look_146 : decode cX5_look 146 = .ok (.istore_n 2, 1) := by decide +kernel
theorem dX5_look_147 : decode cX5_look 147 = .ok (.iinc 3 1, 3) := by decide +kernel
theorem dX5_look_150 : decode cX5_look 150 = .ok (.goto (-27), 3) := by decide +kernel
theorem dX5_look_153 : decode cX5_look 153 = .ok (.iload_n 2, 1) := by decide +kernel
theorem dX5_look_154 : decode cX5_look 154 = .ok (.ireturn, 1) := by decide +kernel
theorem dX5_look_155 : decode cX5_look 155 = .ok (.iconst 0, 1) := by decide +kernel
theorem dX5_look_156 : decode cX5_look 156 = .ok (.istore_n 3, 1) := by decide +kernel
theorem dX5_look_157 : decode cX5_look 157 = .ok (.iload_n 3, 1) := by decide +kernel
theorem dX5_look_158 : decode cX5_look 158 = .ok (.aload_n 0, 1) := by decide +kernel
theorem dX5_look_159 : decode cX5_look 159 = .ok (.invokevirtual 57, 3) := by decide +kernel
theorem dX5_look_162 : decode cX5_look 162 = .ok (.if_icmp .ge 25, 3) := by decide +kernel
theorem dX5_look_165 : decode cX5_look 165 = .ok (.iload_n 2, 1) := by decide +kernel
theorem dX5_look_166 : decode cX5_look 166 = .ok (.aload_n 0, 1) := by decide +kernel
theorem dX5_look_167 : decode cX5_look 167 = .ok (.iload_n 3, 1) := by decide +kernel
theorem dX5_look_168 : decode cX5_look 168 = .ok (.invokevirtual 146, 3) := by decide +kernel
theorem dX5_look_171 : decode cX5_look 171 = .ok (.ifCond .eq 7, 3) := by decide +kernel
theorem dX5_look_174 : decode cX5_look 174 = .ok (.iconst 1, 1) := by decide +kernel
theorem dX5_look_175 : decode cX5_look 175 = .ok (.goto 4, 3) := by decide +kernel
theorem dX5_look_178 : decode cX5_look 178 = .ok (.iconst 0, 1) := by decide +kernel
theorem dX5_look_179 : decode cX5_look 179 = .ok (.iadd, 1) := by decide +kernel
theorem dX5_look_180 : decode cX5_look 180 = .ok (.istore_n 2, 1) := by decide +kernel
theorem dX5_look_181 : decode cX5_look 181 = .ok (.iinc 3 1, 3) := by decide +kernel
theorem dX5_look_184 : decode cX5_look 184 = .ok (.goto (-27), 3) := by decide +kernel
theorem dX5_look_187 : decode cX5_look 187 = .ok (.iload_n 2, 1) := by decide +kernel
theorem dX5_look_188 : decode cX5_look 188 = .ok (.ireturn, 1) := by decide +kernel
theorem dX5_look_189 : decode cX5_look 189 = .ok (.iconst 0, 1) := by decide +kernel
theorem dX5_look_190 : decode cX5_look 190 = .ok (.istore_n 3, 1) := by decide +kernel
theorem dX5_look_191 : decode cX5_look 191 = .ok (.iload_n 3, 1) := by decide +kernel
theorem dX5_look_192 : decode cX5_look 192 = .ok (.aload_n 0, 1) := by decide +kernel
theorem dX5_look_193 : decode cX5_look 193 = .ok (.invokevirtual 65, 3) := by decide +kernel
theorem dX5_look_196 : decode cX5_look 196 = .ok (.if_icmp .ge 25, 3) := by decide +kernel
theorem dX5_look_199 : decode cX5_look 199 = .ok (.iload_n 2, 1) := by decide +kernel
theorem dX5_look_200 : decode cX5_look 200 = .ok (.aload_n 0, 1) := by decide +kernel
theorem dX5_look_201 : decode cX5_look 201 = .ok (.iload_n 3, 1) := by decide +kernel
theorem dX5_look_202 : decode cX5_look 202 = .ok (.invokevirtual 171, 3) := by decide +kernel
theorem dX5_look_205 : decode cX5_look 205 = .ok (.ifCond .eq 7, 3) := by decide +kernel
theorem dX5_look_208 : decode cX5_look 208 = .ok (.iconst 1, 1) := by decide +kernel
theorem dX5_look_209 : decode cX5_look 209 = .ok (.goto 4, 3) := by decide +kernel
theorem dX5_look_212 : decode cX5_look 212 = .ok (.iconst 0, 1) := by decide +kernel
theorem dX5_look_213 : decode cX5_look 213 = .ok (.iadd, 1) := by decide +kernel
theorem dX5_look_214 : decode cX5_look 214 = .ok (.istore_n 2, 1) := by decide +kernel
theorem dX5_look_215 : decode cX5_look 215 = .ok (.iinc 3 1, 3) := by decide +kernel
theorem dX5_look_218 : decode cX5_look 218 = .ok (.goto (-27), 3) := by decide +kernel
theorem dX5_look_221 : decode cX5_look 221 = .ok (.iload_n 2, 1) := by decide +kernel
theorem dX5_look_222 : decode cX5_look 222 = .ok (.ireturn, 1) := by decide +kernel
theorem dX5_look_223 : decode cX5_look 223 = .ok (.iconst (-1), 1) := by decide +kernel
theorem dX5_look_224 : decode cX5_look 224 = .ok (.ireturn, 1) := by decide +kernel
/-! ===== FlowMetersModel.look(I)I ===== -/
def fX5_look_L60 (N : Nat) (n : Nat) (y2 : Int32) (y3 : Int32) (d_t_now : Nat → Int32) : Option (Int32) := match n with
  | 0 => none
  | n + 1 =>
    (fX5_flows d_t_now).bind fun v7 =>
      (if v7 ≤ y3 then
        some y2
      else
        (fX5_get d_t_now y3 2).bind fun v10 =>
        ya_lt (y2 + v10) fun v12 =>
        ya_lt (y3 + 1) fun v14 =>
        fX5_look_L60 N n v12 v14 d_t_now)
def fX5_look_L87 (N : Nat) (n : Nat) (y2 : Int32) (y3 : Int32) (d_t_now : Nat → Int32) (d_t_heapOf : Nat → Int32) : Option (Int32) := match n with
  | 0 => none
  | n + 1 =>
    (fX5_knots d_t_now).bind fun v18 =>
      (if v18 ≤ y3 then
        some y2
      else
        (ya_rd d_t_heapOf 6 y3).bind fun v21 =>
        (if v21 = y3 then
          ya_lt (y2 + 1) fun v28 =>
          ya_lt (y3 + 1) fun v30 =>
          fX5_look_L87 N n v28 v30 d_t_now d_t_heapOf
        else
          ya_lt (y2 + 0) fun v24 =>
          ya_lt (y3 + 1) fun v26 =>
          fX5_look_L87 N n v24 v26 d_t_now d_t_heapOf))
def fX5_look_L123 (N : Nat) (n : Nat) (y2 : Int32) (y3 : Int32) (d_t_now : Nat → Int32) (d_t_side : Nat → Int32) : Option (Int32 × (Nat → Int32)) := match n with
  | 0 => none
  | n + 1 =>
    (fX5_flows d_t_now).bind fun v34 =>
      (if v34 ≤ y3 then
        some (y2, d_t_side)
      else
        (fX5_isSeen N d_t_now d_t_side y3).bind fun (v37, v38) =>
        (if v37 = 0 then
          ya_lt (y2 + 0) fun v41 =>
          ya_lt (y3 + 1) fun v43 =>
          fX5_look_L123 N n v41 v43 d_t_now v38
        else
          ya_lt (y2 + 1) fun v45 =>
          ya_lt (y3 + 1) fun v47 =>
          fX5_look_L123 N n v45 v47 d_t_now v38))
def fX5_look_L157 (N : Nat) (n : Nat) (y2 : Int32) (y3 : Int32) (d_t_now : Nat → Int32) (d_t_heapOf : Nat → Int32) : Option (Int32 × (Nat → Int32)) := match n with
  | 0 => none
  | n + 1 =>
    (fX5_flows d_t_now).bind fun v52 =>
      (if v52 ≤ y3 then
        some (y2, d_t_heapOf)
      else
        (fX5_isSpare N d_t_now d_t_heapOf y3).bind fun (v55, v56) =>
        (if v55 = 0 then
          ya_lt (y2 + 0) fun v59 =>
          ya_lt (y3 + 1) fun v61 =>
          fX5_look_L157 N n v59 v61 d_t_now v56
        else
          ya_lt (y2 + 1) fun v63 =>
          ya_lt (y3 + 1) fun v65 =>
          fX5_look_L157 N n v63 v65 d_t_now v56))
def fX5_look_L191 (N : Nat) (n : Nat) (y2 : Int32) (y3 : Int32) (d_t_now : Nat → Int32) : Option (Int32) := match n with
  | 0 => none
  | n + 1 =>
    (fX5_knots d_t_now).bind fun v70 =>
      (if v70 ≤ y3 then
        some y2
      else
        (fX5_isOff N d_t_now y3).bind fun v73 =>
        (if v73 = 0 then
          ya_lt (y2 + 0) fun v76 =>
          ya_lt (y3 + 1) fun v78 =>
          fX5_look_L191 N n v76 v78 d_t_now
        else
          ya_lt (y2 + 1) fun v80 =>
          ya_lt (y3 + 1) fun v82 =>
          fX5_look_L191 N n v80 v82 d_t_now))
def fX5_look (N : Nat) (c_t_now : Nat → Int32) (c_t_heapOf : Nat → Int32) (c_t_side : Nat → Int32) (x1 : Int32) : Option (Int32 × (Nat → Int32) × (Nat → Int32)) :=
  (fX5_heaps N c_t_now c_t_heapOf).bind fun v1 =>
  (if x1 = 0 then
    (fX5_knots c_t_now).bind fun v3 =>
    some (v3, v1, c_t_side)
  else
    (if x1 = 1 then
      (fX5_flows c_t_now).bind fun v5 =>
      some (v5, v1, c_t_side)
    else
      (if x1 = 2 then
        (fX5_look_L60 N N 0 0 c_t_now).bind fun v16 =>
        some (v16, v1, c_t_side)
      else
        (if x1 = 3 then
          (fX5_look_L87 N N 0 0 c_t_now v1).bind fun v32 =>
          some (v32, v1, c_t_side)
        else
          (if x1 = 4 then
            (fX5_look_L123 N N 0 0 c_t_now c_t_side).bind fun (v49, v50) =>
            some (v49, v1, v50)
          else
            (if x1 = 5 then
              (fX5_look_L157 N N 0 0 c_t_now v1).bind fun (v67, v68) =>
              some (v67, v68, c_t_side)
            else
              (if x1 = 6 then
                (fX5_look_L191 N N 0 0 c_t_now).bind fun v84 =>
                some (v84, v1, c_t_side)
              else
                some ((-1), v1, c_t_side))))))))
theorem fX5_look_16 : yF wsX5_look RX5 16 5 3 RX5 TX5 19 := ⟨rfl, by decide, by decide +kernel, by decide +kernel⟩
abbrev rmX5_look : Room := { frames := 4, cells := 0, slots := 0, locals := 89 }
theorem eX5_look : yY yX5_look wsX5_look cX5_look 4 (some .int) rmX5_look 1 := ⟨⟨_, rfl⟩, rfl, rfl, by decide, by decide, by decide +kernel⟩
set_option maxHeartbeats 4000000 in
set_option maxRecDepth 100000 in
theorem mX5_look {l : Launch} {D : va_G} {sz : Nat} {cI cJ cZ cW cR : ClassId} {N : Nat} {h_t : Nat} {A_t : Nat → Nat} {c_t_many : Int32} {c_t_below : Int64} {c_t_above1 : Int64} {c_t_below1 : Int64} {c_t_now : Nat → Int32} {c_t_heapOf : Nat → Int32} {c_t_side : Nat → Int32} {x1 : Int32} {r : Int32} {zc_t_heapOf : Nat → Int32} {zc_t_side : Nat → Int32} (hf : fX5_look N c_t_now c_t_heapOf c_t_side x1 = some (r, zc_t_heapOf, zc_t_side)) : Met l yX5_look wsX5_look rmX5_look (yP D (yT cI cJ cZ cW cR) [(h_t, oR A_t c_t_many c_t_below c_t_above1 c_t_below1), (A_t 0, eI cI 242 c_t_now), (A_t 2, eI cI 6 c_t_heapOf), (A_t 9, eI cZ 6 c_t_side)] sz [.ref h_t, .int x1]) (yQi D (yT cI cJ cZ cW cR) r [(h_t, oR A_t c_t_many c_t_below c_t_above1 c_t_below1), (A_t 0, eI cI 242 c_t_now), (A_t 2, eI cI 6 zc_t_heapOf), (A_t 9, eI cZ 6 zc_t_side)] (va_A [(h_t, oR A_t c_t_many c_t_below c_t_above1 c_t_below1), (A_t 0, eI cI 242 c_t_now), (A_t 2, eI cI 6 c_t_heapOf), (A_t 9, eI cZ 6 c_t_side)] sz)) 0 0 (va_A [(h_t, oR A_t c_t_many c_t_below c_t_above1 c_t_below1), (A_t 0, eI cI 242 c_t_now), (A_t 2, eI cI 6 c_t_heapOf), (A_t 9, eI cZ 6 c_t_side)] sz) := by
  refine yM (cc := cX5_look) (maxL := 4) (ret := (some .int)) RX5 (by decide) rfl rfl (Nat.le_of_ble_eq_true rfl) ?_
  intro p e s m below meth c Γ hr
  have loop60 : ∀ (n : Nat) (y2 : Int32) (y3 : Int32) (d_t_many : Int32) (d_t_below : Int64) (d_t_above1 : Int64) (d_t_below1 : Int64) (d_t_now : Nat → Int32) (d_t_heapOf : Nat → Int32) (d_t_side : Nat → Int32) (w0 : Int32), fX5_look_L60 N n y2 y3 d_t_now = some w0 → yG p l e (headSpec wsX5_look rmX5_look).room s m (List.toArray [.ref h_t, .int x1]) below meth c D (va_A [(h_t, oR A_t c_t_many c_t_below c_t_above1 c_t_below1), (A_t 0, eI cI 242 c_t_now), (A_t 2, eI cI 6 c_t_heapOf), (A_t 9, eI cZ 6 c_t_side)] sz) 4 0 0 (MQ below (yQi D (yT cI cJ cZ cW cR) r [(h_t, oR A_t c_t_many c_t_below c_t_above1 c_t_below1), (A_t 0, eI cI 242 c_t_now), (A_t 2, eI cI 6 zc_t_heapOf), (A_t 9, eI cZ 6 zc_t_side)] (va_A [(h_t, oR A_t c_t_many c_t_below c_t_above1 c_t_below1), (A_t 0, eI cI 242 c_t_now), (A_t 2, eI cI 6 c_t_heapOf), (A_t 9, eI cZ 6 c_t_side)] sz)) (List.toArray [.ref h_t, .int x1]) s 0 0 (va_A [(h_t, oR A_t c_t_many c_t_below c_t_above1 c_t_below1), (A_t 0, eI cI 242 c_t_now), (A_t 2, eI cI 6 c_t_heapOf), (A_t 9, eI cZ 6 c_t_side)] sz)) 83 [(2, .int w0)] [] [(h_t, oR A_t d_t_many d_t_below d_t_above1 d_t_below1), (A_t 0, eI cI 242 d_t_now), (A_t 2, eI cI 6 d_t_heapOf), (A_t 9, eI cZ 6 d_t_side)] → yG p l e (headSpec wsX5_look rmX5_look).room s m (List.toArray [.ref h_t, .int x1]) below meth c D (va_A [(h_t, oR A_t c_t_many c_t_below c_t_above1 c_t_below1), (A_t 0, eI cI 242 c_t_now), (A_t 2, eI cI 6 c_t_heapOf), (A_t 9, eI cZ 6 c_t_side)] sz) 4 0 0 (MQ below (yQi D (yT cI cJ cZ cW cR) r [(h_t, oR A_t c_t_many c_t_below c_t_above1 c_t_below1), (A_t 0, eI cI 242 c_t_now), (A_t 2, eI cI 6 zc_t_heapOf), (A_t 9, eI cZ 6 zc_t_side)] (va_A [(h_t, oR A_t c_t_many c_t_below c_t_above1 c_t_below1), (A_t 0, eI cI 242 c_t_now), (A_t 2, eI cI 6 c_t_heapOf), (A_t 9, eI cZ 6 c_t_side)] sz)) (List.toArray [.ref h_t, .int x1]) s 0 0 (va_A [(h_t, oR A_t c_t_many c_t_below c_t_above1 c_t_below1), (A_t 0, eI cI 242 c_t_now), (A_t 2, eI cI 6 c_t_heapOf), (A_t 9, eI cZ 6 c_t_side)] sz)) 60 [(0, .ref h_t), (2, .int y2), (3, .int y3)] [] [(h_t, oR A_t d_t_many d_t_below d_t_above1 d_t_below1), (A_t 0, eI cI 242 d_t_now), (A_t 2, eI cI 6 d_t_heapOf), (A_t 9, eI cZ 6 d_t_side)] := by
    intro n
    induction n with
    | zero =>
      intro y2 y3 d_t_many d_t_below d_t_above1 d_t_below1 d_t_now d_t_heapOf d_t_side w0 hf
      cases hf
    | succ n ih =>
      intro y2 y3 d_t_many d_t_below d_t_above1 d_t_below1 d_t_now d_t_heapOf d_t_side w0 hf hk
      unfold fX5_look_L60 at hf
      refine g_iload_n Γ 2 dX5_look_60 rfl ?_
      refine g_aload_n Γ 0 dX5_look_61 rfl ?_
      obtain ⟨v7, e8, hf⟩ := ya_ob hf
      refine g_vi (q := (RX5, TX5, 19)) (wr := [(A_t 2, eI cI 6 d_t_heapOf), (A_t 9, eI cZ 6 d_t_side)]) (ws' := [(A_t 2, eI cI 6 d_t_heapOf), (A_t 9, eI cZ 6 d_t_side), (h_t, oR A_t d_t_many d_t_below d_t_above1 d_t_below1), (A_t 0, eI cI 242 d_t_now)]) Γ (fun sz => mX5_flows (l := l) (D := D) (sz := sz) (cI := cI) (cJ := cJ) (cZ := cZ) (cW := cW) (cR := cR) (h_t := h_t) (A_t := A_t) (hf := e8)) eX5_flows gX5_look_X5_flows rfl rfl 0 rfl rfl rfl (Nat.le_of_ble_eq_true rfl) ⟨Nat.le_of_ble_eq_true rfl, Nat.le_of_ble_eq_true rfl⟩ dX5_look_62 [0, 1] [2, 3] rfl rfl rfl rfl (by decide) rfl ?_
      refine g_icmp_ge Γ 83 dX5_look_65 (by decide) (fun c9 => ?_) (fun c9 => ?_)
      · have hf := ya_if1 c9 hf
        cases hf
        refine g_lv [1] rfl ?_
        refine g_ws (ws' := [(h_t, oR A_t d_t_many d_t_below d_t_above1 d_t_below1), (A_t 0, eI cI 242 d_t_now), (A_t 2, eI cI 6 d_t_heapOf), (A_t 9, eI cZ 6 d_t_side)]) [2, 3, 0, 1] rfl rfl ?_
        exact hk
      · have hf := ya_if2 c9 hf
        refine g_iload_n Γ 1 dX5_look_68 rfl ?_
        refine g_aload_n Γ 0 dX5_look_69 rfl ?_
        refine g_iload_n Γ 2 dX5_look_70 rfl ?_
        refine g_iconst (v := 2) Γ dX5_look_71 (by decide) ?_
        obtain ⟨v10, e11, hf⟩ := ya_ob hf
        refine g_vi (q := (RX5, TX5, 19)) (wr := [(A_t 2, eI cI 6 d_t_heapOf), (A_t 9, eI cZ 6 d_t_side)]) (ws' := [(A_t 2, eI cI 6 d_t_heapOf), (A_t 9, eI cZ 6 d_t_side), (h_t, oR A_t d_t_many d_t_below d_t_above1 d_t_below1), (A_t 0, eI cI 242 d_t_now)]) Γ (fun sz => mX5_get (l := l) (D := D) (sz := sz) (cI := cI) (cJ := cJ) (cZ := cZ) (cW := cW) (cR := cR) (h_t := h_t) (A_t := A_t) (hf := e11)) eX5_get gX5_look_X5_get rfl rfl 0 rfl rfl rfl (Nat.le_of_ble_eq_true rfl) ⟨Nat.le_of_ble_eq_true rfl, Nat.le_of_ble_eq_true rfl⟩ dX5_look_72 [2, 3] [0, 1] rfl rfl rfl rfl (by decide) rfl ?_
        refine g_iadd Γ dX5_look_75 ?_
        obtain ⟨v12, e13, hf⟩ := ya_lt_inv hf
        refine g_nmi e13 ?_
        refine g_istore_n (lv' := [(2, .int v12), (0, .ref h_t), (3, .int y3)]) Γ dX5_look_76 (by decide) rfl ?_
        obtain ⟨v14, e15, hf⟩ := ya_lt_inv hf
        refine g_iinc (lv' := [(3, .int v14), (2, .int v12), (0, .ref h_t)]) Γ 2 dX5_look_77 rfl (by rw [e15]; rfl) (by decide) rfl ?_
        refine g_goto Γ 60 dX5_look_80 (by decide) ?_
        refine g_lv [2, 1, 0] rfl ?_
        refine g_ws (ws' := [(h_t, oR A_t d_t_many d_t_below d_t_above1 d_t_below1), (A_t 0, eI cI 242 d_t_now), (A_t 2, eI cI 6 d_t_heapOf), (A_t 9, eI cZ 6 d_t_side)]) [2, 3, 0, 1] rfl rfl ?_
        exact ih _ _ _ _ _ _ _ _ _ _ hf hk
  have loop87 : ∀ (n : Nat) (y2 : Int32) (y3 : Int32) (d_t_many : Int32) (d_t_below : Int64) (d_t_above1 : Int64) (d_t_below1 : Int64) (d_t_now : Nat → Int32) (d_t_heapOf : Nat → Int32) (d_t_side : Nat → Int32) (w0 : Int32), fX5_look_L87 N n y2 y3 d_t_now d_t_heapOf = some w0 → yG p l e (headSpec wsX5_look rmX5_look).room s m (List.toArray [.ref h_t, .int x1]) below meth c D (va_A [(h_t, oR A_t c_t_many c_t_below c_t_above1 c_t_below1), (A_t 0, eI cI 242 c_t_now), (A_t 2, eI cI 6 c_t_heapOf), (A_t 9, eI cZ 6 c_t_side)] sz) 4 0 0 (MQ below (yQi D (yT cI cJ cZ cW cR) r [(h_t, oR A_t c_t_many c_t_below c_t_above1 c_t_below1), (A_t 0, eI cI 242 c_t_now), (A_t 2, eI cI 6 zc_t_heapOf), (A_t 9, eI cZ 6 zc_t_side)] (va_A [(h_t, oR A_t c_t_many c_t_below c_t_above1 c_t_below1), (A_t 0, eI cI 242 c_t_now), (A_t 2, eI cI 6 c_t_heapOf), (A_t 9, eI cZ 6 c_t_side)] sz)) (List.toArray [.ref h_t, .int x1]) s 0 0 (va_A [(h_t, oR A_t c_t_many c_t_below c_t_above1 c_t_below1), (A_t 0, eI cI 242 c_t_now), (A_t 2, eI cI 6 c_t_heapOf), (A_t 9, eI cZ 6 c_t_side)] sz)) 119 [(2, .int w0)] [] [(h_t, oR A_t d_t_many d_t_below d_t_above1 d_t_below1), (A_t 0, eI cI 242 d_t_now), (A_t 2, eI cI 6 d_t_heapOf), (A_t 9, eI cZ 6 d_t_side)] → yG p l e (headSpec wsX5_look rmX5_look).room s m (List.toArray [.ref h_t, .int x1]) below meth c D (va_A [(h_t, oR A_t c_t_many c_t_below c_t_above1 c_t_below1), (A_t 0, eI cI 242 c_t_now), (A_t 2, eI cI 6 c_t_heapOf), (A_t 9, eI cZ 6 c_t_side)] sz) 4 0 0 (MQ below (yQi D (yT cI cJ cZ cW cR) r [(h_t, oR A_t c_t_many c_t_below c_t_above1 c_t_below1), (A_t 0, eI cI 242 c_t_now), (A_t 2, eI cI 6 zc_t_heapOf), (A_t 9, eI cZ 6 zc_t_side)] (va_A [(h_t, oR A_t c_t_many c_t_below c_t_above1 c_t_below1), (A_t 0, eI cI 242 c_t_now), (A_t 2, eI cI 6 c_t_heapOf), (A_t 9, eI cZ 6 c_t_side)] sz)) (List.toArray [.ref h_t, .int x1]) s 0 0 (va_A [(h_t, oR A_t c_t_many c_t_below c_t_above1 c_t_below1), (A_t 0, eI cI 242 c_t_now), (A_t 2, eI cI 6 c_t_heapOf), (A_t 9, eI cZ 6 c_t_side)] sz)) 87 [(0, .ref h_t), (2, .int y2), (3, .int y3)] [] [(h_t, oR A_t d_t_many d_t_below d_t_above1 d_t_below1), (A_t 0, eI cI 242 d_t_now), (A_t 2, eI cI 6 d_t_heapOf), (A_t 9, eI cZ 6 d_t_side)] := by
    intro n
    induction n with
    | zero =>
      intro y2 y3 d_t_many d_t_below d_t_above1 d_t_below1 d_t_now d_t_heapOf d_t_side w0 hf
      cases hf
    | succ n ih =>
      intro y2 y3 d_t_many d_t_below d_t_above1 d_t_below1 d_t_now d_t_heapOf d_t_side w0 hf hk
      unfold fX5_look_L87 at hf
      refine g_iload_n Γ 2 dX5_look_87 rfl ?_
      refine g_aload_n Γ 0 dX5_look_88 rfl ?_
      obtain ⟨v18, e19, hf⟩ := ya_ob hf
      refine g_vi (q := (RX5, TX5, 19)) (wr := [(A_t 2, eI cI 6 d_t_heapOf), (A_t 9, eI cZ 6 d_t_side)]) (ws' := [(A_t 2, eI cI 6 d_t_heapOf), (A_t 9, eI cZ 6 d_t_side), (h_t, oR A_t d_t_many d_t_below d_t_above1 d_t_below1), (A_t 0, eI cI 242 d_t_now)]) Γ (fun sz => mX5_knots (l := l) (D := D) (sz := sz) (cI := cI) (cJ := cJ) (cZ := cZ) (cW := cW) (cR := cR) (h_t := h_t) (A_t := A_t) (hf := e19)) eX5_knots gX5_look_X5_knots rfl rfl 0 rfl rfl rfl (Nat.le_of_ble_eq_true rfl) ⟨Nat.le_of_ble_eq_true rfl, Nat.le_of_ble_eq_true rfl⟩ dX5_look_89 [0, 1] [2, 3] rfl rfl rfl rfl (by decide) rfl ?_
      refine g_icmp_ge Γ 119 dX5_look_92 (by decide) (fun c20 => ?_) (fun c20 => ?_)
      · have hf := ya_if1 c20 hf
        cases hf
        refine g_lv [1] rfl ?_
        refine g_ws (ws' := [(h_t, oR A_t d_t_many d_t_below d_t_above1 d_t_below1), (A_t 0, eI cI 242 d_t_now), (A_t 2, eI cI 6 d_t_heapOf), (A_t 9, eI cZ 6 d_t_side)]) [2, 3, 0, 1] rfl rfl ?_
        exact hk
      · have hf := ya_if2 c20 hf
        refine g_iload_n Γ 1 dX5_look_95 rfl ?_
        refine g_aload_n Γ 0 dX5_look_96 rfl ?_
        refine g_get Γ fX5_look_16 2 rfl rfl dX5_look_97 ?_
        refine g_iload_n Γ 2 dX5_look_100 rfl ?_
        obtain ⟨v21, e22, hf⟩ := ya_ob hf
        refine g_iald Γ e22 0 0 rfl rfl dX5_look_101 ?_
        refine g_iload_n Γ 2 dX5_look_102 rfl ?_
        refine g_icmp_ne Γ 110 dX5_look_103 (by decide) (fun c23 => ?_) (fun c23 => ?_)
        · have hf := ya_if2 c23 hf
          refine g_iconst (v := 0) Γ dX5_look_110 (by decide) ?_
          refine g_iadd Γ dX5_look_111 ?_
          obtain ⟨v24, e25, hf⟩ := ya_lt_inv hf
          refine g_nmi e25 ?_
          refine g_istore_n (lv' := [(2, .int v24), (0, .ref h_t), (3, .int y3)]) Γ dX5_look_112 (by decide) rfl ?_
          obtain ⟨v26, e27, hf⟩ := ya_lt_inv hf
          refine g_iinc (lv' := [(3, .int v26), (2, .int v24), (0, .ref h_t)]) Γ 2 dX5_look_113 rfl (by rw [e27]; rfl) (by decide) rfl ?_
          refine g_goto Γ 87 dX5_look_116 (by decide) ?_
          refine g_lv [2, 1, 0] rfl ?_
          refine g_ws (ws' := [(h_t, oR A_t d_t_many d_t_below d_t_above1 d_t_below1), (A_t 0, eI cI 242 d_t_now), (A_t 2, eI cI 6 d_t_heapOf), (A_t 9, eI cZ 6 d_t_side)]) [2, 3, 0, 1] rfl rfl ?_
          exact ih _ _ _ _ _ _ _ _ _ _ hf hk
        · have hf := ya_if1 c23 hf
          refine g_iconst (v := 1) Γ dX5_look_106 (by decide) ?_
          refine g_goto Γ 111 dX5_look_107 (by decide) ?_
          refine g_iadd Γ dX5_look_111 ?_
          obtain ⟨v28, e29, hf⟩ := ya_lt_inv hf
          refine g_nmi e29 ?_
          refine g_istore_n (lv' := [(2, .int v28), (0, .ref h_t), (3, .int y3)]) Γ dX5_look_112 (by decide) rfl ?_
          obtain ⟨v30, e31, hf⟩ := ya_lt_inv hf
          refine g_iinc (lv' := [(3, .int v30), (2, .int v28), (0, .ref h_t)]) Γ 2 dX5_look_113 rfl (by rw [e31]; rfl) (by decide) rfl ?_
          refine g_goto Γ 87 dX5_look_116 (by decide) ?_
          refine g_lv [2, 1, 0] rfl ?_
          refine g_ws (ws' := [(h_t, oR A_t d_t_many d_t_below d_t_above1 d_t_below1), (A_t 0, eI cI 242 d_t_now), (A_t 2, eI cI 6 d_t_heapOf), (A_t 9, eI cZ 6 d_t_side)]) [2, 3, 0, 1] rfl rfl ?_
          exact ih _ _ _ _ _ _ _ _ _ _ hf hk
  have loop123 : ∀ (n : Nat) (y2 : Int32) (y3 : Int32) (d_t_many : Int32) (d_t_below : Int64) (d_t_above1 : Int64) (d_t_below1 : Int64) (d_t_now : Nat → Int32) (d_t_heapOf : Nat → Int32) (d_t_side : Nat → Int32) (w0 : Int32) (w1 : Nat → Int32), fX5_look_L123 N n y2 y3 d_t_now d_t_side = some (w0, w1) → yG p l e (headSpec wsX5_look rmX5_look).room s m (List.toArray [.ref h_t, .int x1]) below meth c D (va_A [(h_t, oR A_t c_t_many c_t_below c_t_above1 c_t_below1), (A_t 0, eI cI 242 c_t_now), (A_t 2, eI cI 6 c_t_heapOf), (A_t 9, eI cZ 6 c_t_side)] sz) 4 0 0 (MQ below (yQi D (yT cI cJ cZ cW cR) r [(h_t, oR A_t c_t_many c_t_below c_t_above1 c_t_below1), (A_t 0, eI cI 242 c_t_now), (A_t 2, eI cI 6 zc_t_heapOf), (A_t 9, eI cZ 6 zc_t_side)] (va_A [(h_t, oR A_t c_t_many c_t_below c_t_above1 c_t_below1), (A_t 0, eI cI 242 c_t_now), (A_t 2, eI cI 6 c_t_heapOf), (A_t 9, eI cZ 6 c_t_side)] sz)) (List.toArray [.ref h_t, .int x1]) s 0 0 (va_A [(h_t, oR A_t c_t_many c_t_below c_t_above1 c_t_below1), (A_t 0, eI cI 242 c_t_now), (A_t 2, eI cI 6 c_t_heapOf), (A_t 9, eI cZ 6 c_t_side)] sz)) 153 [(2, .int w0)] [] [(h_t, oR A_t d_t_many d_t_below d_t_above1 d_t_below1), (A_t 0, eI cI 242 d_t_now), (A_t 2, eI cI 6 d_t_heapOf), (A_t 9, eI cZ 6 w1)] → yG p l e (headSpec wsX5_look rmX5_look).room s m (List.toArray [.ref h_t, .int x1]) below meth c D (va_A [(h_t, oR A_t c_t_many c_t_below c_t_above1 c_t_below1), (A_t 0, eI cI 242 c_t_now), (A_t 2, eI cI 6 c_t_heapOf), (A_t 9, eI cZ 6 c_t_side)] sz) 4 0 0 (MQ below (yQi D (yT cI cJ cZ cW cR) r [(h_t, oR A_t c_t_many c_t_below c_t_above1 c_t_below1), (A_t 0, eI cI 242 c_t_now), (A_t 2, eI cI 6 zc_t_heapOf), (A_t 9, eI cZ 6 zc_t_side)] (va_A [(h_t, oR A_t c_t_many c_t_below c_t_above1 c_t_below1), (A_t 0, eI cI 242 c_t_now), (A_t 2, eI cI 6 c_t_heapOf), (A_t 9, eI cZ 6 c_t_side)] sz)) (List.toArray [.ref h_t, .int x1]) s 0 0 (va_A [(h_t, oR A_t c_t_many c_t_below c_t_above1 c_t_below1), (A_t 0, eI cI 242 c_t_now), (A_t 2, eI cI 6 c_t_heapOf), (A_t 9, eI cZ 6 c_t_side)] sz)) 123 [(0, .ref h_t), (2, .int y2), (3, .int y3)] [] [(h_t, oR A_t d_t_many d_t_below d_t_above1 d_t_below1), (A_t 0, eI cI 242 d_t_now), (A_t 2, eI cI 6 d_t_heapOf), (A_t 9, eI cZ 6 d_t_side)] := by
    intro n
    induction n with
    | zero =>
      intro y2 y3 d_t_many d_t_below d_t_above1 d_t_below1 d_t_now d_t_heapOf d_t_side w0 w1 hf
      cases hf
    | succ n ih =>
      intro y2 y3 d_t_many d_t_below d_t_above1 d_t_below1 d_t_now d_t_heapOf d_t_side w0 w1 hf hk
      unfold fX5_look_L123 at hf
      refine g_iload_n Γ 2 dX5_look_123 rfl ?_
      refine g_aload_n Γ 0 dX5_look_124 rfl ?_
      obtain ⟨v34, e35, hf⟩ := ya_ob hf
      refine g_vi (q := (RX5, TX5, 19)) (wr := [(A_t 2, eI cI 6 d_t_heapOf), (A_t 9, eI cZ 6 d_t_side)]) (ws' := [(A_t 2, eI cI 6 d_t_heapOf), (A_t 9, eI cZ 6 d_t_side), (h_t, oR A_t d_t_many d_t_below d_t_above1 d_t_below1), (A_t 0, eI cI 242 d_t_now)]) Γ (fun sz => mX5_flows (l := l) (D := D) (sz := sz) (cI := cI) (cJ := cJ) (cZ := cZ) (cW := cW) (cR := cR) (h_t := h_t) (A_t := A_t) (hf := e35)) eX5_flows gX5_look_X5_flows rfl rfl 0 rfl rfl rfl (Nat.le_of_ble_eq_true rfl) ⟨Nat.le_of_ble_eq_true rfl, Nat.le_of_ble_eq_true rfl⟩ dX5_look_125 [0, 1] [2, 3] rfl rfl rfl rfl (by decide) rfl ?_
      refine g_icmp_ge Γ 153 dX5_look_128 (by decide) (fun c36 => ?_) (fun c36 => ?_)
      · have hf := ya_if1 c36 hf
        cases hf
        refine g_lv [1] rfl ?_
        refine g_ws (ws' := [(h_t, oR A_t d_t_many d_t_below d_t_above1 d_t_below1), (A_t 0, eI cI 242 d_t_now), (A_t 2, eI cI 6 d_t_heapOf), (A_t 9, eI cZ 6 d_t_side)]) [2, 3, 0, 1] rfl rfl ?_
        exact hk
      · have hf := ya_if2 c36 hf
        refine g_iload_n Γ 1 dX5_look_131 rfl ?_
        refine g_aload_n Γ 0 dX5_look_132 rfl ?_
        refine g_iload_n Γ 2 dX5_look_133 rfl ?_
        obtain ⟨⟨v37, v38⟩, e39, hf⟩ := ya_ob hf
        refine g_vi (q := (RX5, TX5, 19)) (wr := [(A_t 2, eI cI 6 d_t_heapOf)]) (ws' := [(A_t 2, eI cI 6 d_t_heapOf), (h_t, oR A_t d_t_many d_t_below d_t_above1 d_t_below1), (A_t 0, eI cI 242 d_t_now), (A_t 9, eI cZ 6 v38)]) Γ (fun sz => mX5_isSeen (l := l) (D := D) (sz := sz) (cI := cI) (cJ := cJ) (cZ := cZ) (cW := cW) (cR := cR) (h_t := h_t) (A_t := A_t) (hf := e39)) eX5_isSeen gX5_look_X5_isSeen rfl rfl 0 rfl rfl rfl (Nat.le_of_ble_eq_true rfl) ⟨Nat.le_of_ble_eq_true rfl, Nat.le_of_ble_eq_true rfl⟩ dX5_look_134 [2, 3, 1] [0] rfl rfl rfl rfl (by decide) rfl ?_
        refine g_if_eq Γ 144 dX5_look_137 (by decide) (fun c40 => ?_) (fun c40 => ?_)
        · have hf := ya_if1 c40 hf
          refine g_iconst (v := 0) Γ dX5_look_144 (by decide) ?_
          refine g_iadd Γ dX5_look_145 ?_
          obtain ⟨v41, e42, hf⟩ := ya_lt_inv hf
          refine g_nmi e42 ?_
          refine g_istore_n (lv' := [(2, .int v41), (0, .ref h_t), (3, .int y3)]) Γ dX5_look_146 (by decide) rfl ?_
          obtain ⟨v43, e44, hf⟩ := ya_lt_inv hf
          refine g_iinc (lv' := [(3, .int v43), (2, .int v41), (0, .ref h_t)]) Γ 2 dX5_look_147 rfl (by rw [e44]; rfl) (by decide) rfl ?_
          refine g_goto Γ 123 dX5_look_150 (by decide) ?_
          refine g_lv [2, 1, 0] rfl ?_
          refine g_ws (ws' := [(h_t, oR A_t d_t_many d_t_below d_t_above1 d_t_below1), (A_t 0, eI cI 242 d_t_now), (A_t 2, eI cI 6 d_t_heapOf), (A_t 9, eI cZ 6 v38)]) [1, 2, 0, 3] rfl rfl ?_
          exact ih _ _ _ _ _ _ _ _ _ _ _ hf hk
        · have hf := ya_if2 c40 hf
          refine g_iconst (v := 1) Γ dX5_look_140 (by decide) ?_
          refine g_goto Γ 145 dX5_look_141 (by decide) ?_
          refine g_iadd Γ dX5_look_145 ?_
          obtain ⟨v45, e46, hf⟩ := ya_lt_inv hf
          refine g_nmi e46 ?_
          refine g_istore_n (lv' := [(2, .int v45), (0, .ref h_t), (3, .int y3)]) Γ dX5_look_146 (by decide) rfl ?_
          obtain ⟨v47, e48, hf⟩ := ya_lt_inv hf
          refine g_iinc (lv' := [(3, .int v47), (2, .int v45), (0, .ref h_t)]) Γ 2 dX5_look_147 rfl (by rw [e48]; rfl) (by decide) rfl ?_
          refine g_goto Γ 123 dX5_look_150 (by decide) ?_
          refine g_lv [2, 1, 0] rfl ?_
          refine g_ws (ws' := [(h_t, oR A_t d_t_many d_t_below d_t_above1 d_t_below1), (A_t 0, eI cI 242 d_t_now), (A_t 2, eI cI 6 d_t_heapOf), (A_t 9, eI cZ 6 v38)]) [1, 2, 0, 3] rfl rfl ?_
          exact ih _ _ _ _ _ _ _ _ _ _ _ hf hk
  have loop157 : ∀ (n : Nat) (y2 : Int32) (y3 : Int32) (d_t_many : Int32) (d_t_below : Int64) (d_t_above1 : Int64) (d_t_below1 : Int64) (d_t_now : Nat → Int32) (d_t_heapOf : Nat → Int32) (d_t_side : Nat → Int32) (w0 : Int32) (w1 : Nat → Int32), fX5_look_L157 N n y2 y3 d_t_now d_t_heapOf = some (w0, w1) → yG p l e (headSpec wsX5_look rmX5_look).room s m (List.toArray [.ref h_t, .int x1]) below meth c D (va_A [(h_t, oR A_t c_t_many c_t_below c_t_above1 c_t_below1), (A_t 0, eI cI 242 c_t_now), (A_t 2, eI cI 6 c_t_heapOf), (A_t 9, eI cZ 6 c_t_side)] sz) 4 0 0 (MQ below (yQi D (yT cI cJ cZ cW cR) r [(h_t, oR A_t c_t_many c_t_below c_t_above1 c_t_below1), (A_t 0, eI cI 242 c_t_now), (A_t 2, eI cI 6 zc_t_heapOf), (A_t 9, eI cZ 6 zc_t_side)] (va_A [(h_t, oR A_t c_t_many c_t_below c_t_above1 c_t_below1), (A_t 0, eI cI 242 c_t_now), (A_t 2, eI cI 6 c_t_heapOf), (A_t 9, eI cZ 6 c_t_side)] sz)) (List.toArray [.ref h_t, .int x1]) s 0 0 (va_A [(h_t, oR A_t c_t_many c_t_below c_t_above1 c_t_below1), (A_t 0, eI cI 242 c_t_now), (A_t 2, eI cI 6 c_t_heapOf), (A_t 9, eI cZ 6 c_t_side)] sz)) 187 [(2, .int w0)] [] [(h_t, oR A_t d_t_many d_t_below d_t_above1 d_t_below1), (A_t 0, eI cI 242 d_t_now), (A_t 2, eI cI 6 w1), (A_t 9, eI cZ 6 d_t_side)] → yG p l e (headSpec wsX5_look rmX5_look).room s m (List.toArray [.ref h_t, .int x1]) below meth c D (va_A [(h_t, oR A_t c_t_many c_t_below c_t_above1 c_t_below1), (A_t 0, eI cI 242 c_t_now), (A_t 2, eI cI 6 c_t_heapOf), (A_t 9, eI cZ 6 c_t_side)] sz) 4 0 0 (MQ below (yQi D (yT cI cJ cZ cW cR) r [(h_t, oR A_t c_t_many c_t_below c_t_above1 c_t_below1), (A_t 0, eI cI 242 c_t_now), (A_t 2, eI cI 6 zc_t_heapOf), (A_t 9, eI cZ 6 zc_t_side)] (va_A [(h_t, oR A_t c_t_many c_t_below c_t_above1 c_t_below1), (A_t 0, eI cI 242 c_t_now), (A_t 2, eI cI 6 c_t_heapOf), (A_t 9, eI cZ 6 c_t_side)] sz)) (List.toArray [.ref h_t, .int x1]) s 0 0 (va_A [(h_t, oR A_t c_t_many c_t_below c_t_above1 c_t_below1), (A_t 0, eI cI 242 c_t_now), (A_t 2, eI cI 6 c_t_heapOf), (A_t 9, eI cZ 6 c_t_side)] sz)) 157 [(0, .ref h_t), (2, .int y2), (3, .int y3)] [] [(h_t, oR A_t d_t_many d_t_below d_t_above1 d_t_below1), (A_t 0, eI cI 242 d_t_now), (A_t 2, eI cI 6 d_t_heapOf), (A_t 9, eI cZ 6 d_t_side)] := by
    intro n
    induction n with
    | zero =>
      intro y2 y3 d_t_many d_t_below d_t_above1 d_t_below1 d_t_now d_t_heapOf d_t_side w0 w1 hf
      cases hf
    | succ n ih =>
      intro y2 y3 d_t_many d_t_below d_t_above1 d_t_below1 d_t_now d_t_heapOf d_t_side w0 w1 hf hk
      unfold fX5_look_L157 at hf
      refine g_iload_n Γ 2 dX5_look_157 rfl ?_
      refine g_aload_n Γ 0 dX5_look_158 rfl ?_
      obtain ⟨v52, e53, hf⟩ := ya_ob hf
      refine g_vi (q := (RX5, TX5, 19)) (wr := [(A_t 2, eI cI 6 d_t_heapOf), (A_t 9, eI cZ 6 d_t_side)]) (ws' := [(A_t 2, eI cI 6 d_t_heapOf), (A_t 9, eI cZ 6 d_t_side), (h_t, oR A_t d_t_many d_t_below d_t_above1 d_t_below1), (A_t 0, eI cI 242 d_t_now)]) Γ (fun sz => mX5_flows (l := l) (D := D) (sz := sz) (cI := cI) (cJ := cJ) (cZ := cZ) (cW := cW) (cR := cR) (h_t := h_t) (A_t := A_t) (hf := e53)) eX5_flows gX5_look_X5_flows rfl rfl 0 rfl rfl rfl (Nat.le_of_ble_eq_true rfl) ⟨Nat.le_of_ble_eq_true rfl, Nat.le_of_ble_eq_true rfl⟩ dX5_look_159 [0, 1] [2, 3] rfl rfl rfl rfl (by decide) rfl ?_
      refine g_icmp_ge Γ 187 dX5_look_162 (by decide) (fun c54 => ?_) (fun c54 => ?_)
      · have hf := ya_if1 c54 hf
        cases hf
        refine g_lv [1] rfl ?_
        refine g_ws (ws' := [(h_t, oR A_t d_t_many d_t_below d_t_above1 d_t_below1), (A_t 0, eI cI 242 d_t_now), (A_t 2, eI cI 6 d_t_heapOf), (A_t 9, eI cZ 6 d_t_side)]) [2, 3, 0, 1] rfl rfl ?_
        exact hk
      · have hf := ya_if2 c54 hf
        refine g_iload_n Γ 1 dX5_look_165 rfl ?_
        refine g_aload_n Γ 0 dX5_look_166 rfl ?_
        refine g_iload_n Γ 2 dX5_look_167 rfl ?_
        obtain ⟨⟨v55, v56⟩, e57, hf⟩ := ya_ob hf
        refine g_vi (q := (RX5, TX5, 19)) (wr := [(A_t 9, eI cZ 6 d_t_side)]) (ws' := [(A_t 9, eI cZ 6 d_t_side), (h_t, oR A_t d_t_many d_t_below d_t_above1 d_t_below1), (A_t 0, eI cI 242 d_t_now), (A_t 2, eI cI 6 v56)]) Γ (fun sz => mX5_isSpare (l := l) (D := D) (sz := sz) (cI := cI) (cJ := cJ) (cZ := cZ) (cW := cW) (cR := cR) (h_t := h_t) (A_t := A_t) (hf := e57)) eX5_isSpare gX5_look_X5_isSpare rfl rfl 0 rfl rfl rfl (Nat.le_of_ble_eq_true rfl) ⟨Nat.le_of_ble_eq_true rfl, Nat.le_of_ble_eq_true rfl⟩ dX5_look_168 [2, 3, 0] [1] rfl rfl rfl rfl (by decide) rfl ?_
        refine g_if_eq Γ 178 dX5_look_171 (by decide) (fun c58 => ?_) (fun c58 => ?_)
        · have hf := ya_if1 c58 hf
          refine g_iconst (v := 0) Γ dX5_look_178 (by decide) ?_
          refine g_iadd Γ dX5_look_179 ?_
          obtain ⟨v59, e60, hf⟩ := ya_lt_inv hf
          refine g_nmi e60 ?_
          refine g_istore_n (lv' := [(2, .int v59), (0, .ref h_t), (3, .int y3)]) Γ dX5_look_180 (by decide) rfl ?_
          obtain ⟨v61, e62, hf⟩ := ya_lt_inv hf
          refine g_iinc (lv' := [(3, .int v61), (2, .int v59), (0, .ref h_t)]) Γ 2 dX5_look_181 rfl (by rw [e62]; rfl) (by decide) rfl ?_
          refine g_goto Γ 157 dX5_look_184 (by decide) ?_
          refine g_lv [2, 1, 0] rfl ?_
          refine g_ws (ws' := [(h_t, oR A_t d_t_many d_t_below d_t_above1 d_t_below1), (A_t 0, eI cI 242 d_t_now), (A_t 2, eI cI 6 v56), (A_t 9, eI cZ 6 d_t_side)]) [1, 2, 3, 0] rfl rfl ?_
          exact ih _ _ _ _ _ _ _ _ _ _ _ hf hk
        · have hf := ya_if2 c58 hf
          refine g_iconst (v := 1) Γ dX5_look_174 (by decide) ?_
          refine g_goto Γ 179 dX5_look_175 (by decide) ?_
          refine g_iadd Γ dX5_look_179 ?_
          obtain ⟨v63, e64, hf⟩ := ya_lt_inv hf
          refine g_nmi e64 ?_
          refine g_istore_n (lv' := [(2, .int v63), (0, .ref h_t), (3, .int y3)]) Γ dX5_look_180 (by decide) rfl ?_
          obtain ⟨v65, e66, hf⟩ := ya_lt_inv hf
          refine g_iinc (lv' := [(3, .int v65), (2, .int v63), (0, .ref h_t)]) Γ 2 dX5_look_181 rfl (by rw [e66]; rfl) (by decide) rfl ?_
          refine g_goto Γ 157 dX5_look_184 (by decide) ?_
          refine g_lv [2, 1, 0] rfl ?_
          refine g_ws (ws' := [(h_t, oR A_t d_t_many d_t_below d_t_above1 d_t_below1), (A_t 0, eI cI 242 d_t_now), (A_t 2, eI cI 6 v56), (A_t 9, eI cZ 6 d_t_side)]) [1, 2, 3, 0] rfl rfl ?_
          exact ih _ _ _ _ _ _ _ _ _ _ _ hf hk
  have loop191 : ∀ (n : Nat) (y2 : Int32) (y3 : Int32) (d_t_many : Int32) (d_t_below : Int64) (d_t_above1 : Int64) (d_t_below1 : Int64) (d_t_now : Nat → Int32) (d_t_heapOf : Nat → Int32) (d_t_side : Nat → Int32) (w0 : Int32), fX5_look_L191 N n y2 y3 d_t_now = some w0 → yG p l e (headSpec wsX5_look rmX5_look).room s m (List.toArray [.ref h_t, .int x1]) below meth c D (va_A [(h_t, oR A_t c_t_many c_t_below c_t_above1 c_t_below1), (A_t 0, eI cI 242 c_t_now), (A_t 2, eI cI 6 c_t_heapOf), (A_t 9, eI cZ 6 c_t_side)] sz) 4 0 0 (MQ below (yQi D (yT cI cJ cZ cW cR) r [(h_t, oR A_t c_t_many c_t_below c_t_above1 c_t_below1), (A_t 0, eI cI 242 c_t_now), (A_t 2, eI cI 6 zc_t_heapOf), (A_t 9, eI cZ 6 zc_t_side)] (va_A [(h_t, oR A_t c_t_many c_t_below c_t_above1 c_t_below1), (A_t 0, eI cI 242 c_t_now), (A_t 2, eI cI 6 c_t_heapOf), (A_t 9, eI cZ 6 c_t_side)] sz)) (List.toArray [.ref h_t, .int x1]) s 0 0 (va_A [(h_t, oR A_t c_t_many c_t_below c_t_above1 c_t_below1), (A_t 0, eI cI 242 c_t_now), (A_t 2, eI cI 6 c_t_heapOf), (A_t 9, eI cZ 6 c_t_side)] sz)) 221 [(2, .int w0)] [] [(h_t, oR A_t d_t_many d_t_below d_t_above1 d_t_below1), (A_t 0, eI cI 242 d_t_now), (A_t 2, eI cI 6 d_t_heapOf), (A_t 9, eI cZ 6 d_t_side)] → yG p l e (headSpec wsX5_look rmX5_look).room s m (List.toArray [.ref h_t, .int x1]) below meth c D (va_A [(h_t, oR A_t c_t_many c_t_below c_t_above1 c_t_below1), (A_t 0, eI cI 242 c_t_now), (A_t 2, eI cI 6 c_t_heapOf), (A_t 9, eI cZ 6 c_t_side)] sz) 4 0 0 (MQ below (yQi D (yT cI cJ cZ cW cR) r [(h_t, oR A_t c_t_many c_t_below c_t_above1 c_t_below1), (A_t 0, eI cI 242 c_t_now), (A_t 2, eI cI 6 zc_t_heapOf), (A_t 9, eI cZ 6 zc_t_side)] (va_A [(h_t, oR A_t c_t_many c_t_below c_t_above1 c_t_below1), (A_t 0, eI cI 242 c_t_now), (A_t 2, eI cI 6 c_t_heapOf), (A_t 9, eI cZ 6 c_t_side)] sz)) (List.toArray [.ref h_t, .int x1]) s 0 0 (va_A [(h_t, oR A_t c_t_many c_t_below c_t_above1 c_t_below1), (A_t 0, eI cI 242 c_t_now), (A_t 2, eI cI 6 c_t_heapOf), (A_t 9, eI cZ 6 c_t_side)] sz)) 191 [(0, .ref h_t), (2, .int y2), (3, .int y3)] [] [(h_t, oR A_t d_t_many d_t_below d_t_above1 d_t_below1), (A_t 0, eI cI 242 d_t_now), (A_t 2, eI cI 6 d_t_heapOf), (A_t 9, eI cZ 6 d_t_side)] := by
    intro n
    induction n with
    | zero =>
      intro y2 y3 d_t_many d_t_below d_t_above1 d_t_below1 d_t_now d_t_heapOf d_t_side w0 hf
      cases hf
    | succ n ih =>
      intro y2 y3 d_t_many d_t_below d_t_above1 d_t_below1 d_t_now d_t_heapOf d_t_side w0 hf hk
      unfold fX5_look_L191 at hf
      refine g_iload_n Γ 2 dX5_look_191 rfl ?_
      refine g_aload_n Γ 0 dX5_look_192 rfl ?_
      obtain ⟨v70, e71, hf⟩ := ya_ob hf
      refine g_vi (q := (RX5, TX5, 19)) (wr := [(A_t 2, eI cI 6 d_t_heapOf), (A_t 9, eI cZ 6 d_t_side)]) (ws' := [(A_t 2, eI cI 6 d_t_heapOf), (A_t 9, eI cZ 6 d_t_side), (h_t, oR A_t d_t_many d_t_below d_t_above1 d_t_below1), (A_t 0, eI cI 242 d_t_now)]) Γ (fun sz => mX5_knots (l := l) (D := D) (sz := sz) (cI := cI) (cJ := cJ) (cZ := cZ) (cW := cW) (cR := cR) (h_t := h_t) (A_t := A_t) (hf := e71)) eX5_knots gX5_look_X5_knots rfl rfl 0 rfl rfl rfl (Nat.le_of_ble_eq_true rfl) ⟨Nat.le_of_ble_eq_true rfl, Nat.le_of_ble_eq_true rfl⟩ dX5_look_193 [0, 1] [2, 3] rfl rfl rfl rfl (by decide) rfl ?_
      refine g_icmp_ge Γ 221 dX5_look_196 (by decide) (fun c72 => ?_) (fun c72 => ?_)
      · have hf := ya_if1 c72 hf
        cases hf
        refine g_lv [1] rfl ?_
        refine g_ws (ws' := [(h_t, oR A_t d_t_many d_t_below d_t_above1 d_t_below1), (A_t 0, eI cI 242 d_t_now), (A_t 2, eI cI 6 d_t_heapOf), (A_t 9, eI cZ 6 d_t_side)]) [2, 3, 0, 1] rfl rfl ?_
        exact hk
      · have hf := ya_if2 c72 hf
        refine g_iload_n Γ 1 dX5_look_199 rfl ?_
        refine g_aload_n Γ 0 dX5_look_200 rfl ?_
        refine g_iload_n Γ 2 dX5_look_201 rfl ?_
        obtain ⟨v73, e74, hf⟩ := ya_ob hf
        refine g_vi (q := (RX5, TX5, 19)) (wr := [(A_t 2, eI cI 6 d_t_heapOf), (A_t 9, eI cZ 6 d_t_side)]) (ws' := [(A_t 2, eI cI 6 d_t_heapOf), (A_t 9, eI cZ 6 d_t_side), (h_t, oR A_t d_t_many d_t_below d_t_above1 d_t_below1), (A_t 0, eI cI 242 d_t_now)]) Γ (fun sz => mX5_isOff (l := l) (D := D) (sz := sz) (cI := cI) (cJ := cJ) (cZ := cZ) (cW := cW) (cR := cR) (h_t := h_t) (A_t := A_t) (hf := e74)) eX5_isOff gX5_look_X5_isOff rfl rfl 0 rfl rfl rfl (Nat.le_of_ble_eq_true rfl) ⟨Nat.le_of_ble_eq_true rfl, Nat.le_of_ble_eq_true rfl⟩ dX5_look_202 [2, 3] [0, 1] rfl rfl rfl rfl (by decide) rfl ?_
        refine g_if_eq Γ 212 dX5_look_205 (by decide) (fun c75 => ?_) (fun c75 => ?_)
        · have hf := ya_if1 c75 hf
          refine g_iconst (v := 0) Γ dX5_look_212 (by decide) ?_
          refine g_iadd Γ dX5_look_213 ?_
          obtain ⟨v76, e77, hf⟩ := ya_lt_inv hf
          refine g_nmi e77 ?_
          refine g_istore_n (lv' := [(2, .int v76), (0, .ref h_t), (3, .int y3)]) Γ dX5_look_214 (by decide) rfl ?_
          obtain ⟨v78, e79, hf⟩ := ya_lt_inv hf
          refine g_iinc (lv' := [(3, .int v78), (2, .int v76), (0, .ref h_t)]) Γ 2 dX5_look_215 rfl (by rw [e79]; rfl) (by decide) rfl ?_
          refine g_goto Γ 191 dX5_look_218 (by decide) ?_
          refine g_lv [2, 1, 0] rfl ?_
          refine g_ws (ws' := [(h_t, oR A_t d_t_many d_t_below d_t_above1 d_t_below1), (A_t 0, eI cI 242 d_t_now), (A_t 2, eI cI 6 d_t_heapOf), (A_t 9, eI cZ 6 d_t_side)]) [2, 3, 0, 1] rfl rfl ?_
          exact ih _ _ _ _ _ _ _ _ _ _ hf hk
        · have hf := ya_if2 c75 hf
          refine g_iconst (v := 1) Γ dX5_look_208 (by decide) ?_
          refine g_goto Γ 213 dX5_look_209 (by decide) ?_
          refine g_iadd Γ dX5_look_213 ?_
          obtain ⟨v80, e81, hf⟩ := ya_lt_inv hf
          refine g_nmi e81 ?_
          refine g_istore_n (lv' := [(2, .int v80), (0, .ref h_t), (3, .int y3)]) Γ dX5_look_214 (by decide) rfl ?_
          obtain ⟨v82, e83, hf⟩ := ya_lt_inv hf
          refine g_iinc (lv' := [(3, .int v82), (2, .int v80), (0, .ref h_t)]) Γ 2 dX5_look_215 rfl (by rw [e83]; rfl) (by decide) rfl ?_
          refine g_goto Γ 191 dX5_look_218 (by decide) ?_
          refine g_lv [2, 1, 0] rfl ?_
          refine g_ws (ws' := [(h_t, oR A_t d_t_many d_t_below d_t_above1 d_t_below1), (A_t 0, eI cI 242 d_t_now), (A_t 2, eI cI 6 d_t_heapOf), (A_t 9, eI cZ 6 d_t_side)]) [2, 3, 0, 1] rfl rfl ?_
          exact ih _ _ _ _ _ _ _ _ _ _ hf hk
  show yG p l e (headSpec wsX5_look rmX5_look).room s m (List.toArray [.ref h_t, .int x1]) below meth c D (va_A [(h_t, oR A_t c_t_many c_t_below c_t_above1 c_t_below1), (A_t 0, eI cI 242 c_t_now), (A_t 2, eI cI 6 c_t_heapOf), (A_t 9, eI cZ 6 c_t_side)] sz) 4 0 0 (MQ below (yQi D (yT cI cJ cZ cW cR) r [(h_t, oR A_t c_t_many c_t_below c_t_above1 c_t_below1), (A_t 0, eI cI 242 c_t_now), (A_t 2, eI cI 6 zc_t_heapOf), (A_t 9, eI cZ 6 zc_t_side)] (va_A [(h_t, oR A_t c_t_many c_t_below c_t_above1 c_t_below1), (A_t 0, eI cI 242 c_t_now), (A_t 2, eI cI 6 c_t_heapOf), (A_t 9, eI cZ 6 c_t_side)] sz)) (List.toArray [.ref h_t, .int x1]) s 0 0 (va_A [(h_t, oR A_t c_t_many c_t_below c_t_above1 c_t_below1), (A_t 0, eI cI 242 c_t_now), (A_t 2, eI cI 6 c_t_heapOf), (A_t 9, eI cZ 6 c_t_side)] sz)) 0 [(0, .ref h_t), (1, .int x1)] [] [(h_t, oR A_t c_t_many c_t_below c_t_above1 c_t_below1), (A_t 0, eI cI 242 c_t_now), (A_t 2, eI cI 6 c_t_heapOf), (A_t 9, eI cZ 6 c_t_side)]
  unfold fX5_look at hf
  refine g_iconst (v := 0) Γ dX5_look_0 (by decide) ?_
  refine g_istore_n (lv' := [(2, .int 0), (0, .ref h_t), (1, .int x1)]) Γ dX5_look_1 (by decide) rfl ?_
  refine g_aload_n Γ 1 dX5_look_2 rfl ?_
  obtain ⟨v1, e2, hf⟩ := ya_ob hf
  refine g_vv (q := (RX5, TX5, 19)) (wr := [(A_t 9, eI cZ 6 c_t_side)]) (ws' := [(A_t 9, eI cZ 6 c_t_side), (h_t, oR A_t c_t_many c_t_below c_t_above1 c_t_below1), (A_t 0, eI cI 242 c_t_now), (A_t 2, eI cI 6 v1)]) Γ (fun sz => mX5_heaps (l := l) (D := D) (sz := sz) (cI := cI) (cJ := cJ) (cZ := cZ) (cW := cW) (cR := cR) (h_t := h_t) (A_t := A_t) (hf := e2)) eX5_heaps gX5_look_X5_heaps rfl rfl 0 rfl rfl rfl (Nat.le_of_ble_eq_true rfl) ⟨Nat.le_of_ble_eq_true rfl, Nat.le_of_ble_eq_true rfl⟩ dX5_look_3 [0, 1, 2] [3] rfl rfl rfl rfl (by decide) rfl ?_
  refine g_iload_n Γ 2 dX5_look_6 rfl ?_
  by_cases c7_0 : x1 = 0
  · have hf := ya_if1 c7_0 hf
    refine g_tableIn (v := 0) (off := 41) Γ 48 dX5_look_7 c7_0 (by decide) (by decide) (by decide +kernel) (by decide) ?_
    refine g_aload_n Γ 1 dX5_look_48 rfl ?_
    obtain ⟨v3, e4, hf⟩ := ya_ob hf
    refine g_vi (q := (RX5, TX5, 19)) (wr := [(A_t 9, eI cZ 6 c_t_side), (A_t 2, eI cI 6 v1)]) (ws' := [(A_t 9, eI cZ 6 c_t_side), (A_t 2, eI cI 6 v1), (h_t, oR A_t c_t_many c_t_below c_t_above1 c_t_below1), (A_t 0, eI cI 242 c_t_now)]) Γ (fun sz => mX5_knots (l := l) (D := D) (sz := sz) (cI := cI) (cJ := cJ) (cZ := cZ) (cW := cW) (cR := cR) (h_t := h_t) (A_t := A_t) (hf := e4)) eX5_knots gX5_look_X5_knots rfl rfl 0 rfl rfl rfl (Nat.le_of_ble_eq_true rfl) ⟨Nat.le_of_ble_eq_true rfl, Nat.le_of_ble_eq_true rfl⟩ dX5_look_49 [1, 2] [0, 3] rfl rfl rfl rfl (by decide) rfl ?_
    cases hf
    exact g_iret Γ hr dX5_look_52 [2, 3, 1, 0] rfl rfl
  · have hf := ya_if2 c7_0 hf
    by_cases c7_1 : x1 = 1
    · have hf := ya_if1 c7_1 hf
      refine g_tableIn (v := 1) (off := 46) Γ 53 dX5_look_7 c7_1 (by decide) (by decide) (by decide +kernel) (by decide) ?_
      refine g_aload_n Γ 1 dX5_look_53 rfl ?_
      obtain ⟨v5, e6, hf⟩ := ya_ob hf
      refine g_vi (q := (RX5, TX5, 19)) (wr := [(A_t 9, eI cZ 6 c_t_side), (A_t 2, eI cI 6 v1)]) (ws' := [(A_t 9, eI cZ 6 c_t_side), (A_t 2, eI cI 6 v1), (h_t, oR A_t c_t_many c_t_below c_t_above1 c_t_below1), (A_t 0, eI cI 242 c_t_now)]) Γ (fun sz => mX5_flows (l := l) (D := D) (sz := sz) (cI := cI) (cJ := cJ) (cZ := cZ) (cW := cW) (cR := cR) (h_t := h_t) (A_t := A_t) (hf := e6)) eX5_flows gX5_look_X5_flows rfl rfl 0 rfl rfl rfl (Nat.le_of_ble_eq_true rfl) ⟨Nat.le_of_ble_eq_true rfl, Nat.le_of_ble_eq_true rfl⟩ dX5_look_54 [1, 2] [0, 3] rfl rfl rfl rfl (by decide) rfl ?_
      cases hf
      exact g_iret Γ hr dX5_look_57 [2, 3, 1, 0] rfl rfl
    · have hf := ya_if2 c7_1 hf
      by_cases c7_2 : x1 = 2
      · have hf := ya_if1 c7_2 hf
        refine g_tableIn (v := 2) (off := 51) Γ 58 dX5_look_7 c7_2 (by decide) (by decide) (by decide +kernel) (by decide) ?_
        refine g_iconst (v := 0) Γ dX5_look_58 (by decide) ?_
        refine g_istore_n (lv' := [(3, .int 0), (2, .int 0), (0, .ref h_t), (1, .int x1)]) Γ dX5_look_59 (by decide) rfl ?_
        obtain ⟨v16, e17, hf⟩ := ya_ob hf
        refine g_lv [2, 1, 0] rfl ?_
        refine g_ws (ws' := [(h_t, oR A_t c_t_many c_t_below c_t_above1 c_t_below1), (A_t 0, eI cI 242 c_t_now), (A_t 2, eI cI 6 v1), (A_t 9, eI cZ 6 c_t_side)]) [1, 2, 3, 0] rfl rfl ?_
        refine loop60 N _ _ _ _ _ _ _ _ _ _ e17  ?_
        refine g_iload_n Γ 0 dX5_look_83 rfl ?_
        cases hf
        exact g_iret Γ hr dX5_look_84 [0, 1, 2, 3] rfl rfl
      · have hf := ya_if2 c7_2 hf
        by_cases c7_3 : x1 = 3
        · have hf := ya_if1 c7_3 hf
          refine g_tableIn (v := 3) (off := 78) Γ 85 dX5_look_7 c7_3 (by decide) (by decide) (by decide +kernel) (by decide) ?_
          refine g_iconst (v := 0) Γ dX5_look_85 (by decide) ?_
          refine g_istore_n (lv' := [(3, .int 0), (2, .int 0), (0, .ref h_t), (1, .int x1)]) Γ dX5_look_86 (by decide) rfl ?_
          obtain ⟨v32, e33, hf⟩ := ya_ob hf
          refine g_lv [2, 1, 0] rfl ?_
          refine g_ws (ws' := [(h_t, oR A_t c_t_many c_t_below c_t_above1 c_t_below1), (A_t 0, eI cI 242 c_t_now), (A_t 2, eI cI 6 v1), (A_t 9, eI cZ 6 c_t_side)]) [1, 2, 3, 0] rfl rfl ?_
          refine loop87 N _ _ _ _ _ _ _ _ _ _ e33  ?_
          refine g_iload_n Γ 0 dX5_look_119 rfl ?_
          cases hf
          exact g_iret Γ hr dX5_look_120 [0, 1, 2, 3] rfl rfl
        · have hf := ya_if2 c7_3 hf
          by_cases c7_4 : x1 = 4
          · have hf := ya_if1 c7_4 hf
            refine g_tableIn (v := 4) (off := 114) Γ 121 dX5_look_7 c7_4 (by decide) (by decide) (by decide +kernel) (by decide) ?_
            refine g_iconst (v := 0) Γ dX5_look_121 (by decide) ?_
            refine g_istore_n (lv' := [(3, .int 0), (2, .int 0), (0, .ref h_t), (1, .int x1)]) Γ dX5_look_122 (by decide) rfl ?_
            obtain ⟨⟨v49, v50⟩, e51, hf⟩ := ya_ob hf
            refine g_lv [2, 1, 0] rfl ?_
            refine g_ws (ws' := [(h_t, oR A_t c_t_many c_t_below c_t_above1 c_t_below1), (A_t 0, eI cI 242 c_t_now), (A_t 2, eI cI 6 v1), (A_t 9, eI cZ 6 c_t_side)]) [1, 2, 3, 0] rfl rfl ?_
            refine loop123 N _ _ _ _ _ _ _ _ _ _ _ e51  ?_
            refine g_iload_n Γ 0 dX5_look_153 rfl ?_
            cases hf
            exact g_iret Γ hr dX5_look_154 [0, 1, 2, 3] rfl rfl
          · have hf := ya_if2 c7_4 hf
            by_cases c7_5 : x1 = 5
            · have hf := ya_if1 c7_5 hf
              refine g_tableIn (v := 5) (off := 148) Γ 155 dX5_look_7 c7_5 (by decide) (by decide) (by decide +kernel) (by decide) ?_
              refine g_iconst (v := 0) Γ dX5_look_155 (by decide) ?_
              refine g_istore_n (lv' := [(3, .int 0), (2, .int 0), (0, .ref h_t), (1, .int x1)]) Γ dX5_look_156 (by decide) rfl ?_
              obtain ⟨⟨v67, v68⟩, e69, hf⟩ := ya_ob hf
              refine g_lv [2, 1, 0] rfl ?_
              refine g_ws (ws' := [(h_t, oR A_t c_t_many c_t_below c_t_above1 c_t_below1), (A_t 0, eI cI 242 c_t_now), (A_t 2, eI cI 6 v1), (A_t 9, eI cZ 6 c_t_side)]) [1, 2, 3, 0] rfl rfl ?_
              refine loop157 N _ _ _ _ _ _ _ _ _ _ _ e69  ?_
              refine g_iload_n Γ 0 dX5_look_187 rfl ?_
              cases hf
              exact g_iret Γ hr dX5_look_188 [0, 1, 2, 3] rfl rfl
            · have hf := ya_if2 c7_5 hf
              by_cases c7_6 : x1 = 6
              · have hf := ya_if1 c7_6 hf
                refine g_tableIn (v := 6) (off := 182) Γ 189 dX5_look_7 c7_6 (by decide) (by decide) (by decide +kernel) (by decide) ?_
                refine g_iconst (v := 0) Γ dX5_look_189 (by decide) ?_
                refine g_istore_n (lv' := [(3, .int 0), (2, .int 0), (0, .ref h_t), (1, .int x1)]) Γ dX5_look_190 (by decide) rfl ?_
                obtain ⟨v84, e85, hf⟩ := ya_ob hf
                refine g_lv [2, 1, 0] rfl ?_
                refine g_ws (ws' := [(h_t, oR A_t c_t_many c_t_below c_t_above1 c_t_below1), (A_t 0, eI cI 242 c_t_now), (A_t 2, eI cI 6 v1), (A_t 9, eI cZ 6 c_t_side)]) [1, 2, 3, 0] rfl rfl ?_
                refine loop191 N _ _ _ _ _ _ _ _ _ _ e85  ?_
                refine g_iload_n Γ 0 dX5_look_221 rfl ?_
                cases hf
                exact g_iret Γ hr dX5_look_222 [0, 1, 2, 3] rfl rfl
              · have hf := ya_if2 c7_6 hf
                refine g_tableOut Γ 223 dX5_look_7 (ya_out6 c7_0 c7_1 c7_2 c7_3 c7_4 c7_5 c7_6) (by decide) ?_
                refine g_iconst (v := (-1)) Γ dX5_look_223 (by decide) ?_
                cases hf
                exact g_iret Γ hr dX5_look_224 [1, 2, 3, 0] rfl rfl

set_option maxRecDepth 20000 in
theorem ggX5_heap_X5_isKnot : GoodIn wsX5_heap wsX5_isKnot := goodIn_r _ [6, 7, 8, 9, 5, 10, 11, 12, 13, 14, 31, 32, 33, 34, 35, 36, 37, 38, 39, 40, 41, 42, 43, 44, 45, 46, 47, 48, 49] rfl (by decide +kernel)
set_option maxRecDepth 20000 in
theorem gX5_heap_X5_isKnot : GoodIn wsX5_heap (wsV RX5 75 RX5 yX5_isKnot wsX5_isKnot) := goodIn_app (goodIn_of _ (by decide +kernel)) ggX5_heap_X5_isKnot
set_option maxRecDepth 20000 in
theorem ggX5_heap_X5_heaps : GoodIn wsX5_heap wsX5_heaps := goodIn_r _ [18, 1, 19, 20, 21, 5, 22, 11, 23, 24, 25, 26, 27, 28, 29, 30, 31, 32, 33, 34, 35, 36, 37, 38, 39, 40, 41, 42, 43, 44, 45, 46, 47, 48, 49] rfl (by decide +kernel)
set_option maxRecDepth 20000 in
theorem gX5_heap_X5_heaps : GoodIn wsX5_heap (wsV RX5 98 RX5 yX5_heaps wsX5_heaps) := goodIn_app (goodIn_of _ (by decide +kernel)) ggX5_heap_X5_heaps
theorem dX5_heap_0 : decode cX5_heap 0 = .ok (.aload_n 0, 1) := by decide +kernel
theorem dX5_heap_1 : decode cX5_heap 1 = .ok (.iload_n 1, 1) := by decide +kernel
theorem dX5_heap_2 : decode cX5_heap 2 = .ok (.invokevirtual 75, 3) := by decide +kernel
theorem dX5_heap_5 : decode cX5_heap 5 = .ok (.ifCond .ne 5, 3) := by decide +kernel
theorem dX5_heap_8 : decode cX5_heap 8 = .ok (.iconst (-1), 1) := by decide +kernel
theorem dX5_heap_9 : decode cX5_heap 9 = .ok (.ireturn, 1) := by decide +kernel
theorem dX5_heap_10 : decode cX5_heap 10 = .ok (.aload_n 0, 1) := by decide +kernel
theorem dX5_heap_11 : decode cX5_heap 11 = .ok (.invokevirtual 98, 3) := by decide +kernel
theorem dX5_heap_14 : decode cX5_heap 14 = .ok (.aload_n 0, 1) := by decide +kernel
theorem dX5_heap_15 : decode cX5_heap 15 = .ok (.getfield 16, 3) := by decide +kernel
theorem dX5_heap_18 : decode cX5_heap 18 = .ok (.iload_n 1, 1) := by decide +kernel
theorem dX5_heap_19 : decode cX5_heap 19 = .ok (.iaload, 1) := by decide +kernel
theorem dX5_heap_20 : decode cX5_heap 20 = .ok (.ireturn, 1) := by decide +kernel
/-! ===== FlowMetersModel.heap(I)I ===== -/
def fX5_heap (N : Nat) (c_t_now : Nat → Int32) (c_t_heapOf : Nat → Int32) (x1 : Int32) : Option (Int32 × (Nat → Int32)) :=
  (fX5_isKnot c_t_now x1).bind fun v1 =>
  (if v1 = 0 then
    some ((-1), c_t_heapOf)
  else
    (fX5_heaps N c_t_now c_t_heapOf).bind fun v4 =>
    (ya_rd v4 6 x1).bind fun v6 =>
    some (v6, v4))
theorem fX5_heap_16 : yF wsX5_heap RX5 16 5 3 RX5 TX5 19 := ⟨rfl, by decide, by decide +kernel, by decide +kernel⟩
abbrev rmX5_heap : Room := { frames := 3, cells := 0, slots := 0, locals := 68 }
theorem eX5_heap : yY yX5_heap wsX5_heap cX5_heap 2 (some .int) rmX5_heap 1 := ⟨⟨_, rfl⟩, rfl, rfl, by decide, by decide, by decide +kernel⟩
set_option maxHeartbeats 4000000 in
set_option maxRecDepth 100000 in
theorem mX5_heap {l : Launch} {D : va_G} {sz : Nat} {cI cJ cZ cW cR : ClassId} {N : Nat} {h_t : Nat} {A_t : Nat → Nat} {c_t_many : Int32} {c_t_below : Int64} {c_t_above1 : Int64} {c_t_below1 : Int64} {c_t_now : Nat → Int32} {c_t_heapOf : Nat → Int32} {x1 : Int32} {r : Int32} {zc_t_heapOf : Nat → Int32} (hf : fX5_heap N c_t_now c_t_heapOf x1 = some (r, zc_t_heapOf)) : Met l yX5_heap wsX5_heap rmX5_heap (yP D (yT cI cJ cZ cW cR) [(h_t, oR A_t c_t_many c_t_below c_t_above1 c_t_below1), (A_t 0, eI cI 242 c_t_now), (A_t 2, eI cI 6 c_t_heapOf)] sz [.ref h_t, .int x1]) (yQi D (yT cI cJ cZ cW cR) r [(h_t, oR A_t c_t_many c_t_below c_t_above1 c_t_below1), (A_t 0, eI cI 242 c_t_now), (A_t 2, eI cI 6 zc_t_heapOf)] (va_A [(h_t, oR A_t c_t_many c_t_below c_t_above1 c_t_below1), (A_t 0, eI cI 242 c_t_now), (A_t 2, eI cI 6 c_t_heapOf)] sz)) 0 0 (va_A [(h_t, oR A_t c_t_many c_t_below c_t_above1 c_t_below1), (A_t 0, eI cI 242 c_t_now), (A_t 2, eI cI 6 c_t_heapOf)] sz) := by
  refine yM (cc := cX5_heap) (maxL := 2) (ret := (some .int)) RX5 (by decide) rfl rfl (Nat.le_of_ble_eq_true rfl) ?_
  intro p e s m below meth c Γ hr
  show yG p l e (headSpec wsX5_heap rmX5_heap).room s m (List.toArray [.ref h_t, .int x1]) below meth c D (va_A [(h_t, oR A_t c_t_many c_t_below c_t_above1 c_t_below1), (A_t 0, eI cI 242 c_t_now), (A_t 2, eI cI 6 c_t_heapOf)] sz) 2 0 0 (MQ below (yQi D (yT cI cJ cZ cW cR) r [(h_t, oR A_t c_t_many c_t_below c_t_above1 c_t_below1), (A_t 0, eI cI 242 c_t_now), (A_t 2, eI cI 6 zc_t_heapOf)] (va_A [(h_t, oR A_t c_t_many c_t_below c_t_above1 c_t_below1), (A_t 0, eI cI 242 c_t_now), (A_t 2, eI cI 6 c_t_heapOf)] sz)) (List.toArray [.ref h_t, .int x1]) s 0 0 (va_A [(h_t, oR A_t c_t_many c_t_below c_t_above1 c_t_below1), (A_t 0, eI cI 242 c_t_now), (A_t 2, eI cI 6 c_t_heapOf)] sz)) 0 [(0, .ref h_t), (1, .int x1)] [] [(h_t, oR A_t c_t_many c_t_below c_t_above1 c_t_below1), (A_t 0, eI cI 242 c_t_now), (A_t 2, eI cI 6 c_t_heapOf)]
  unfold fX5_heap at hf
  refine g_aload_n Γ 0 dX5_heap_0 rfl ?_
  refine g_iload_n Γ 1 dX5_heap_1 rfl ?_
  obtain ⟨v1, e2, hf⟩ := ya_ob hf
  refine g_vi (q := (RX5, TX5, 19)) (wr := [(A_t 2, eI cI 6 c_t_heapOf)]) (ws' := [(A_t 2, eI cI 6 c_t_heapOf), (h_t, oR A_t c_t_many c_t_below c_t_above1 c_t_below1), (A_t 0, eI cI 242 c_t_now)]) Γ (fun sz => mX5_isKnot (l := l) (D := D) (sz := sz) (cI := cI) (cJ := cJ) (cZ := cZ) (cW := cW) (cR := cR) (h_t := h_t) (A_t := A_t) (hf := e2)) eX5_isKnot gX5_heap_X5_isKnot rfl rfl 0 rfl rfl rfl (Nat.le_of_ble_eq_true rfl) ⟨Nat.le_of_ble_eq_true rfl, Nat.le_of_ble_eq_true rfl⟩ dX5_heap_2 [0, 1] [2] rfl rfl rfl rfl (by decide) rfl ?_
  refine g_if_ne Γ 10 dX5_heap_5 (by decide) (fun c3 => ?_) (fun c3 => ?_)
  · have hf := ya_if2 c3 hf
    refine g_aload_n Γ 0 dX5_heap_10 rfl ?_
    obtain ⟨v4, e5, hf⟩ := ya_ob hf
    refine g_vv (q := (RX5, TX5, 19)) (wr := []) (ws' := [(h_t, oR A_t c_t_many c_t_below c_t_above1 c_t_below1), (A_t 0, eI cI 242 c_t_now), (A_t 2, eI cI 6 v4)]) Γ (fun sz => mX5_heaps (l := l) (D := D) (sz := sz) (cI := cI) (cJ := cJ) (cZ := cZ) (cW := cW) (cR := cR) (h_t := h_t) (A_t := A_t) (hf := e5)) eX5_heaps gX5_heap_X5_heaps rfl rfl 0 rfl rfl rfl (Nat.le_of_ble_eq_true rfl) ⟨Nat.le_of_ble_eq_true rfl, Nat.le_of_ble_eq_true rfl⟩ dX5_heap_11 [1, 2, 0] [] rfl rfl rfl rfl (by decide) rfl ?_
    refine g_aload_n Γ 0 dX5_heap_14 rfl ?_
    refine g_get Γ fX5_heap_16 0 rfl rfl dX5_heap_15 ?_
    refine g_iload_n Γ 1 dX5_heap_18 rfl ?_
    obtain ⟨v6, e7, hf⟩ := ya_ob hf
    refine g_iald Γ e7 2 0 rfl rfl dX5_heap_19 ?_
    cases hf
    exact g_iret Γ hr dX5_heap_20 [0, 1, 2] rfl rfl
  · have hf := ya_if1 c3 hf
    refine g_iconst (v := (-1)) Γ dX5_heap_8 (by decide) ?_
    cases hf
    exact g_iret Γ hr dX5_heap_9 [1, 2, 0] rfl rfl

