set_option maxRecDepth 20000 in
theorem ggX3_allSet_X4_bit : GoodIn wsX3_allSet wsX4_bit := goodIn_r _ [4] (by decide +kernel) (by decide +kernel)
set_option maxRecDepth 20000 in
theorem gX3_allSet_X4_bit_n56 : GoodIn wsX3_allSet (wsX4_bit) := ggX3_allSet_X4_bit
theorem dX3_allSet_0 : decode cX3_allSet 0 = .ok (.aload_n 0, 1) := by decide +kernel
theorem dX3_allSet_1 : decode cX3_allSet 1 = .ok (.getfield 40, 3) := by decide +kernel
theorem dX3_allSet_4 : decode cX3_allSet 4 = .ok (.invokestatic 56, 3) := by decide +kernel
theorem dX3_allSet_7 : decode cX3_allSet 7 = .ok (.iconst 1, 1) := by decide +kernel
theorem dX3_allSet_8 : decode cX3_allSet 8 = .ok (.isub, 1) := by decide +kernel
theorem dX3_allSet_9 : decode cX3_allSet 9 = .ok (.ireturn, 1) := by decide +kernel
/-! ===== FlowMeters$Works.allSet()I ===== -/
def fX3_allSet (c_t_flows : Int32)  : Option (Int32) :=
  (fX4_bit c_t_flows).bind fun v1 =>
  some (v1 - 1)
theorem fX3_allSet_40 : yF wsX3_allSet RX3 40 3 1 RX3 TX3 11 := ⟨rfl, by decide, by decide +kernel, by decide +kernel⟩
abbrev rmX3_allSet : Room := { frames := 1, cells := 0, slots := 0, locals := 20 }
theorem eX3_allSet : yY yX3_allSet wsX3_allSet cX3_allSet 1 (some .int) rmX3_allSet 0 := ⟨⟨_, rfl⟩, rfl, rfl, by decide, by decide, by decide +kernel⟩
set_option maxHeartbeats 4000000 in
set_option maxRecDepth 100000 in
theorem mX3_allSet {l : Launch} {D : va_G} {sz : Nat} {cI cJ cZ cW cR : ClassId} {h_t : Nat} {A_t : Nat → Nat} {c_t_knots : Int32} {c_t_flows : Int32} {c_t_readSet : Int32} {r : Int32} (hf : fX3_allSet c_t_flows = some r) : Met l yX3_allSet wsX3_allSet rmX3_allSet (yP D (yT cI cJ cZ cW cR) [(h_t, oW A_t c_t_knots c_t_flows c_t_readSet)] sz [.ref h_t]) (yQi D (yT cI cJ cZ cW cR) r [(h_t, oW A_t c_t_knots c_t_flows c_t_readSet)] (va_A [(h_t, oW A_t c_t_knots c_t_flows c_t_readSet)] sz)) 0 0 (va_A [(h_t, oW A_t c_t_knots c_t_flows c_t_readSet)] sz) := by
  refine yM (cc := cX3_allSet) (maxL := 1) (ret := (some .int)) RX3 (by decide) rfl rfl (Nat.le_of_ble_eq_true rfl) ?_
  intro p e s m below meth c Γ hr
  show yG p l e (headSpec wsX3_allSet rmX3_allSet).room s m (List.toArray [.ref h_t]) below meth c D (va_A [(h_t, oW A_t c_t_knots c_t_flows c_t_readSet)] sz) 1 0 0 (MQ below (yQi D (yT cI cJ cZ cW cR) r [(h_t, oW A_t c_t_knots c_t_flows c_t_readSet)] (va_A [(h_t, oW A_t c_t_knots c_t_flows c_t_readSet)] sz)) (List.toArray [.ref h_t]) s 0 0 (va_A [(h_t, oW A_t c_t_knots c_t_flows c_t_readSet)] sz)) 0 [(0, .ref h_t)] [] [(h_t, oW A_t c_t_knots c_t_flows c_t_readSet)]
  unfold fX3_allSet at hf
  refine g_aload_n Γ 0 dX3_allSet_0 rfl ?_
  refine g_get Γ fX3_allSet_40 0 rfl rfl dX3_allSet_1 ?_
  obtain ⟨v1, e2, hf⟩ := ya_ob hf
  refine g_ni (wr := [(h_t, oW A_t c_t_knots c_t_flows c_t_readSet)]) (ws' := [(h_t, oW A_t c_t_knots c_t_flows c_t_readSet)]) Γ (fun sz => mX4_bit (l := l) (D := D) (sz := sz) (cI := cI) (cJ := cJ) (cZ := cZ) (cW := cW) (cR := cR)  (hf := e2)) eX4_bit ggX3_allSet_X4_bit (by decide +kernel) (by decide +kernel) (by decide +kernel) rfl rfl (Nat.le_of_ble_eq_true rfl) ⟨Nat.le_of_ble_eq_true rfl, Nat.le_of_ble_eq_true rfl⟩ dX3_allSet_4 [] [0] rfl rfl rfl rfl (by decide) rfl ?_
  refine g_iconst (v := 1) Γ dX3_allSet_7 (by decide) ?_
  refine g_isub Γ dX3_allSet_8 ?_
  cases hf
  exact g_iret Γ hr dX3_allSet_9 [0] rfl rfl

theorem dX3_clear_0 : decode cX3_clear 0 = .ok (.aload_n 0, 1) := by decide +kernel
theorem dX3_clear_1 : decode cX3_clear 1 = .ok (.iload_n 1, 1) := by decide +kernel
theorem dX3_clear_2 : decode cX3_clear 2 = .ok (.putfield 36, 3) := by decide +kernel
theorem dX3_clear_5 : decode cX3_clear 5 = .ok (.aload_n 0, 1) := by decide +kernel
theorem dX3_clear_6 : decode cX3_clear 6 = .ok (.iconst 0, 1) := by decide +kernel
theorem dX3_clear_7 : decode cX3_clear 7 = .ok (.putfield 40, 3) := by decide +kernel
theorem dX3_clear_10 : decode cX3_clear 10 = .ok (.aload_n 0, 1) := by decide +kernel
theorem dX3_clear_11 : decode cX3_clear 11 = .ok (.iconst 0, 1) := by decide +kernel
theorem dX3_clear_12 : decode cX3_clear 12 = .ok (.putfield 43, 3) := by decide +kernel
theorem dX3_clear_15 : decode cX3_clear 15 = .ok (.return_, 1) := by decide +kernel
/-! ===== FlowMeters$Works.clear(I)V ===== -/
def fX3_clear (c_t_knots : Int32) (c_t_flows : Int32) (c_t_readSet : Int32) (x1 : Int32) : Option (Int32 × Int32 × Int32) :=
  some (x1, 0, 0)
theorem fX3_clear_36 : yF wsX3_clear RX3 36 3 0 RX3 TX3 11 := ⟨rfl, by decide, by decide +kernel, by decide +kernel⟩
theorem fX3_clear_40 : yF wsX3_clear RX3 40 3 1 RX3 TX3 11 := ⟨rfl, by decide, by decide +kernel, by decide +kernel⟩
theorem fX3_clear_43 : yF wsX3_clear RX3 43 3 2 RX3 TX3 11 := ⟨rfl, by decide, by decide +kernel, by decide +kernel⟩
abbrev rmX3_clear : Room := { frames := 0, cells := 0, slots := 0, locals := 0 }
theorem eX3_clear : yY yX3_clear wsX3_clear cX3_clear 2 none rmX3_clear 1 := ⟨⟨_, rfl⟩, rfl, rfl, by decide, by decide, by decide +kernel⟩
set_option maxHeartbeats 4000000 in
set_option maxRecDepth 100000 in
theorem mX3_clear {l : Launch} {D : va_G} {sz : Nat} {cI cJ cZ cW cR : ClassId} {h_t : Nat} {A_t : Nat → Nat} {c_t_knots : Int32} {c_t_flows : Int32} {c_t_readSet : Int32} {x1 : Int32} {zc_t_knots : Int32} {zc_t_flows : Int32} {zc_t_readSet : Int32} (hf : fX3_clear c_t_knots c_t_flows c_t_readSet x1 = some (zc_t_knots, zc_t_flows, zc_t_readSet)) : Met l yX3_clear wsX3_clear rmX3_clear (yP D (yT cI cJ cZ cW cR) [(h_t, oW A_t c_t_knots c_t_flows c_t_readSet)] sz [.ref h_t, .int x1]) (yQv D (yT cI cJ cZ cW cR) [(h_t, oW A_t zc_t_knots zc_t_flows zc_t_readSet)] (va_A [(h_t, oW A_t c_t_knots c_t_flows c_t_readSet)] sz)) 0 0 (va_A [(h_t, oW A_t c_t_knots c_t_flows c_t_readSet)] sz) := by
  refine yM (cc := cX3_clear) (maxL := 2) (ret := none) RX3 (by decide) rfl rfl (Nat.le_of_ble_eq_true rfl) ?_
  intro p e s m below meth c Γ hr
  show yG p l e (headSpec wsX3_clear rmX3_clear).room s m (List.toArray [.ref h_t, .int x1]) below meth c D (va_A [(h_t, oW A_t c_t_knots c_t_flows c_t_readSet)] sz) 2 0 0 (MQ below (yQv D (yT cI cJ cZ cW cR) [(h_t, oW A_t zc_t_knots zc_t_flows zc_t_readSet)] (va_A [(h_t, oW A_t c_t_knots c_t_flows c_t_readSet)] sz)) (List.toArray [.ref h_t, .int x1]) s 0 0 (va_A [(h_t, oW A_t c_t_knots c_t_flows c_t_readSet)] sz)) 0 [(0, .ref h_t), (1, .int x1)] [] [(h_t, oW A_t c_t_knots c_t_flows c_t_readSet)]
  unfold fX3_clear at hf
  refine g_aload_n Γ 0 dX3_clear_0 rfl ?_
  refine g_iload_n Γ 1 dX3_clear_1 rfl ?_
  refine g_put (ws' := [(h_t, oW A_t x1 c_t_flows c_t_readSet)]) Γ fX3_clear_36 tyX3_ok nmX3 0 rfl rfl rfl rfl (Nat.le_of_ble_eq_true rfl) dX3_clear_2 rfl ?_
  refine g_aload_n Γ 0 dX3_clear_5 rfl ?_
  refine g_iconst (v := 0) Γ dX3_clear_6 (by decide) ?_
  refine g_put (ws' := [(h_t, oW A_t x1 0 c_t_readSet)]) Γ fX3_clear_40 tyX3_ok nmX3 0 rfl rfl rfl rfl (Nat.le_of_ble_eq_true rfl) dX3_clear_7 rfl ?_
  refine g_aload_n Γ 0 dX3_clear_10 rfl ?_
  refine g_iconst (v := 0) Γ dX3_clear_11 (by decide) ?_
  refine g_put (ws' := [(h_t, oW A_t x1 0 0)]) Γ fX3_clear_43 tyX3_ok nmX3 0 rfl rfl rfl rfl (Nat.le_of_ble_eq_true rfl) dX3_clear_12 rfl ?_
  cases hf
  exact g_vret Γ hr dX3_clear_15 [0] rfl rfl

theorem dX3_copyFrom_0 : decode cX3_copyFrom 0 = .ok (.aload_n 0, 1) := by decide +kernel
theorem dX3_copyFrom_1 : decode cX3_copyFrom 1 = .ok (.aload_n 1, 1) := by decide +kernel
theorem dX3_copyFrom_2 : decode cX3_copyFrom 2 = .ok (.getfield 36, 3) := by decide +kernel
theorem dX3_copyFrom_5 : decode cX3_copyFrom 5 = .ok (.putfield 36, 3) := by decide +kernel
theorem dX3_copyFrom_8 : decode cX3_copyFrom 8 = .ok (.aload_n 0, 1) := by decide +kernel
theorem dX3_copyFrom_9 : decode cX3_copyFrom 9 = .ok (.aload_n 1, 1) := by decide +kernel
theorem dX3_copyFrom_10 : decode cX3_copyFrom 10 = .ok (.getfield 40, 3) := by decide +kernel
theorem dX3_copyFrom_13 : decode cX3_copyFrom 13 = .ok (.putfield 40, 3) := by decide +kernel
theorem dX3_copyFrom_16 : decode cX3_copyFrom 16 = .ok (.aload_n 0, 1) := by decide +kernel
theorem dX3_copyFrom_17 : decode cX3_copyFrom 17 = .ok (.aload_n 1, 1) := by decide +kernel
theorem dX3_copyFrom_18 : decode cX3_copyFrom 18 = .ok (.getfield 43, 3) := by decide +kernel
theorem dX3_copyFrom_21 : decode cX3_copyFrom 21 = .ok (.putfield 43, 3) := by decide +kernel
theorem dX3_copyFrom_24 : decode cX3_copyFrom 24 = .ok (.aload_n 1, 1) := by decide +kernel
theorem dX3_copyFrom_25 : decode cX3_copyFrom 25 = .ok (.getfield 9, 3) := by decide +kernel
theorem dX3_copyFrom_28 : decode cX3_copyFrom 28 = .ok (.iconst 0, 1) := by decide +kernel
theorem dX3_copyFrom_29 : decode cX3_copyFrom 29 = .ok (.aload_n 0, 1) := by decide +kernel
theorem dX3_copyFrom_30 : decode cX3_copyFrom 30 = .ok (.getfield 9, 3) := by decide +kernel
theorem dX3_copyFrom_33 : decode cX3_copyFrom 33 = .ok (.iconst 0, 1) := by decide +kernel
theorem dX3_copyFrom_34 : decode cX3_copyFrom 34 = .ok (.bipush 10, 2) := by decide +kernel
theorem dX3_copyFrom_36 : decode cX3_copyFrom 36 = .ok (.invokestatic 46, 3) := by decide +kernel
theorem dX3_copyFrom_39 : decode cX3_copyFrom 39 = .ok (.aload_n 1, 1) := by decide +kernel
theorem dX3_copyFrom_40 : decode cX3_copyFrom 40 = .ok (.getfield 15, 3) := by decide +kernel
theorem dX3_copyFrom_43 : decode cX3_copyFrom 43 = .ok (.iconst 0, 1) := by decide +kernel
theorem dX3_copyFrom_44 : decode cX3_copyFrom 44 = .ok (.aload_n 0, 1) := by decide +kernel
theorem dX3_copyFrom_45 : decode cX3_copyFrom 45 = .ok (.getfield 15, 3) := by decide +kernel
theorem dX3_copyFrom_48 : decode cX3_copyFrom 48 = .ok (.iconst 0, 1) := by decide +kernel
theorem dX3_copyFrom_49 : decode cX3_copyFrom 49 = .ok (.bipush 10, 2) := by decide +kernel
theorem dX3_copyFrom_51 : decode cX3_copyFrom 51 = .ok (.invokestatic 46, 3) := by decide +kernel
theorem dX3_copyFrom_54 : decode cX3_copyFrom 54 = .ok (.aload_n 1, 1) := by decide +kernel
theorem dX3_copyFrom_55 : decode cX3_copyFrom 55 = .ok (.getfield 18, 3) := by decide +kernel
theorem dX3_copyFrom_58 : decode cX3_copyFrom 58 = .ok (.iconst 0, 1) := by decide +kernel
theorem dX3_copyFrom_59 : decode cX3_copyFrom 59 = .ok (.aload_n 0, 1) := by decide +kernel
theorem dX3_copyFrom_60 : decode cX3_copyFrom 60 = .ok (.getfield 18, 3) := by decide +kernel
theorem dX3_copyFrom_63 : decode cX3_copyFrom 63 = .ok (.iconst 0, 1) := by decide +kernel
theorem dX3_copyFrom_64 : decode cX3_copyFrom 64 = .ok (.bipush 10, 2) := by decide +kernel
theorem dX3_copyFrom_66 : decode cX3_copyFrom 66 = .ok (.invokestatic 46, 3) := by decide +kernel
theorem dX3_copyFrom_69 : decode cX3_copyFrom 69 = .ok (.aload_n 1, 1) := by decide +kernel
theorem dX3_copyFrom_70 : decode cX3_copyFrom 70 = .ok (.getfield 21, 3) := by decide +kernel
theorem dX3_copyFrom_73 : decode cX3_copyFrom 73 = .ok (.iconst 0, 1) := by decide +kernel
theorem dX3_copyFrom_74 : decode cX3_copyFrom 74 = .ok (.aload_n 0, 1) := by decide +kernel
theorem dX3_copyFrom_75 : decode cX3_copyFrom 75 = .ok (.getfield 21, 3) := by decide +kernel
theorem dX3_copyFrom_78 : decode cX3_copyFrom 78 = .ok (.iconst 0, 1) := by decide +kernel
theorem dX3_copyFrom_79 : decode cX3_copyFrom 79 = .ok (.bipush 10, 2) := by decide +kernel
theorem dX3_copyFrom_81 : decode cX3_copyFrom 81 = .ok (.invokestatic 46, 3) := by decide +kernel
theorem dX3_copyFrom_84 : decode cX3_copyFrom 84 = .ok (.aload_n 1, 1) := by decide +kernel
theorem dX3_copyFrom_85 : decode cX3_copyFrom 85 = .ok (.getfield 24, 3) := by decide +kernel
theorem dX3_copyFrom_88 : decode cX3_copyFrom 88 = .ok (.iconst 0, 1) := by decide +kernel
theorem dX3_copyFrom_89 : decode cX3_copyFrom 89 = .ok (.aload_n 0, 1) := by decide +kernel
theorem dX3_copyFrom_90 : decode cX3_copyFrom 90 = .ok (.getfield 24, 3) := by decide +kernel
theorem dX3_copyFrom_93 : decode cX3_copyFrom 93 = .ok (.iconst 0, 1) := by decide +kernel
theorem dX3_copyFrom_94 : decode cX3_copyFrom 94 = .ok (.bipush 10, 2) := by decide +kernel
theorem dX3_copyFrom_96 : decode cX3_copyFrom 96 = .ok (.invokestatic 46, 3) := by decide +kernel
theorem dX3_copyFrom_99 : decode cX3_copyFrom 99 = .ok (.aload_n 1, 1) := by decide +kernel
theorem dX3_copyFrom_100 : decode cX3_copyFrom 100 = .ok (.getfield 27, 3) := by decide +kernel
theorem dX3_copyFrom_103 : decode cX3_copyFrom 103 = .ok (.iconst 0, 1) := by decide +kernel
theorem dX3_copyFrom_104 : decode cX3_copyFrom 104 = .ok (.aload_n 0, 1) := by decide +kernel
theorem dX3_copyFrom_105 : decode cX3_copyFrom 105 = .ok (.getfield 27, 3) := by decide +kernel
theorem dX3_copyFrom_108 : decode cX3_copyFrom 108 = .ok (.iconst 0, 1) := by decide +kernel
theorem dX3_copyFrom_109 : decode cX3_copyFrom 109 = .ok (.bipush 10, 2) := by decide +kernel
theorem dX3_copyFrom_111 : decode cX3_copyFrom 111 = .ok (.invokestatic 46, 3) := by decide +kernel
theorem dX3_copyFrom_114 : decode cX3_copyFrom 114 = .ok (.aload_n 1, 1) := by decide +kernel
theorem dX3_copyFrom_115 : decode cX3_copyFrom 115 = .ok (.getfield 30, 3) := by decide +kernel
theorem dX3_copyFrom_118 : decode cX3_copyFrom 118 = .ok (.iconst 0, 1) := by decide +kernel
theorem dX3_copyFrom_119 : decode cX3_copyFrom 119 = .ok (.aload_n 0, 1) := by decide +kernel
theorem dX3_copyFrom_120 : decode cX3_copyFrom 120 = .ok (.getfield 30, 3) := by decide +kernel
theorem dX3_copyFrom_123 : decode cX3_copyFrom 123 = .ok (.iconst 0, 1) := by decide +kernel
theorem dX3_copyFrom_124 : decode cX3_copyFrom 124 = .ok (.bipush 10, 2) := by decide +kernel
theorem dX3_copyFrom_126 : decode cX3_copyFrom 126 = .ok (.invokestatic 46, 3) := by decide +kernel
theorem dX3_copyFrom_129 : decode cX3_copyFrom 129 = .ok (.aload_n 1, 1) := by decide +kernel
theorem dX3_copyFrom_130 : decode cX3_copyFrom 130 = .ok (.getfield 33, 3) := by decide +kernel
theorem dX3_copyFrom_133 : decode cX3_copyFrom 133 = .ok (.iconst 0, 1) := by decide +kernel
theorem dX3_copyFrom_134 : decode cX3_copyFrom 134 = .ok (.aload_n 0, 1) := by decide +kernel
theorem dX3_copyFrom_135 : decode cX3_copyFrom 135 = .ok (.getfield 33, 3) := by decide +kernel
theorem dX3_copyFrom_138 : decode cX3_copyFrom 138 = .ok (.iconst 0, 1) := by decide +kernel
theorem dX3_copyFrom_139 : decode cX3_copyFrom 139 = .ok (.sipush 160, 3) := by decide +kernel
theorem dX3_copyFrom_142 : decode cX3_copyFrom 142 = .ok (.invokestatic 46, 3) := by decide +kernel
theorem dX3_copyFrom_145 : decode cX3_copyFrom 145 = .ok (.return_, 1) := by decide +kernel
/-! ===== FlowMeters$Works.copyFrom(LFlowMeters$Works;)V ===== -/
def fX3_copyFrom (c_t_knots : Int32) (c_t_flows : Int32) (c_t_readSet : Int32) (c_t_from : Nat → Int32) (c_t_to : Nat → Int32) (c_t_reading : Nat → Int32) (c_t_miss : Nat → Int32) (c_t_price : Nat → Int32) (c_t_kind : Nat → Int32) (c_t_length : Nat → Int32) (c_t_bytes : Nat → Int32) (c_w_knots : Int32) (c_w_flows : Int32) (c_w_readSet : Int32) (c_w_from : Nat → Int32) (c_w_to : Nat → Int32) (c_w_reading : Nat → Int32) (c_w_miss : Nat → Int32) (c_w_price : Nat → Int32) (c_w_kind : Nat → Int32) (c_w_length : Nat → Int32) (c_w_bytes : Nat → Int32)  : Option (Int32 × Int32 × Int32 × (Nat → Int32) × (Nat → Int32) × (Nat → Int32) × (Nat → Int32) × (Nat → Int32) × (Nat → Int32) × (Nat → Int32) × (Nat → Int32)) :=
  ya_lt (va_cpy c_w_from c_t_from 0 0 10) fun v1 =>
  ya_lt (va_cpy c_w_to c_t_to 0 0 10) fun v3 =>
  ya_lt (va_cpy c_w_reading c_t_reading 0 0 10) fun v5 =>
  ya_lt (va_cpy c_w_miss c_t_miss 0 0 10) fun v7 =>
  ya_lt (va_cpy c_w_price c_t_price 0 0 10) fun v9 =>
  ya_lt (va_cpy c_w_kind c_t_kind 0 0 10) fun v11 =>
  ya_lt (va_cpy c_w_length c_t_length 0 0 10) fun v13 =>
  ya_lt (va_cpy c_w_bytes c_t_bytes 0 0 160) fun v15 =>
  some (c_w_knots, c_w_flows, c_w_readSet, v1, v3, v5, v7, v9, v11, v13, v15)
theorem fX3_copyFrom_36 : yF wsX3_copyFrom RX3 36 3 0 RX3 TX3 11 := ⟨rfl, by decide, by decide +kernel, by decide +kernel⟩
theorem fX3_copyFrom_40 : yF wsX3_copyFrom RX3 40 3 1 RX3 TX3 11 := ⟨rfl, by decide, by decide +kernel, by decide +kernel⟩
theorem fX3_copyFrom_43 : yF wsX3_copyFrom RX3 43 3 2 RX3 TX3 11 := ⟨rfl, by decide, by decide +kernel, by decide +kernel⟩
theorem fX3_copyFrom_9 : yF wsX3_copyFrom RX3 9 3 3 RX3 TX3 11 := ⟨rfl, by decide, by decide +kernel, by decide +kernel⟩
theorem fX3_copyFrom_15 : yF wsX3_copyFrom RX3 15 3 4 RX3 TX3 11 := ⟨rfl, by decide, by decide +kernel, by decide +kernel⟩
theorem fX3_copyFrom_18 : yF wsX3_copyFrom RX3 18 3 5 RX3 TX3 11 := ⟨rfl, by decide, by decide +kernel, by decide +kernel⟩
theorem fX3_copyFrom_21 : yF wsX3_copyFrom RX3 21 3 6 RX3 TX3 11 := ⟨rfl, by decide, by decide +kernel, by decide +kernel⟩
theorem fX3_copyFrom_24 : yF wsX3_copyFrom RX3 24 3 7 RX3 TX3 11 := ⟨rfl, by decide, by decide +kernel, by decide +kernel⟩
theorem fX3_copyFrom_27 : yF wsX3_copyFrom RX3 27 3 8 RX3 TX3 11 := ⟨rfl, by decide, by decide +kernel, by decide +kernel⟩
theorem fX3_copyFrom_30 : yF wsX3_copyFrom RX3 30 3 9 RX3 TX3 11 := ⟨rfl, by decide, by decide +kernel, by decide +kernel⟩
theorem fX3_copyFrom_33 : yF wsX3_copyFrom RX3 33 3 10 RX3 TX3 11 := ⟨rfl, by decide, by decide +kernel, by decide +kernel⟩
abbrev rmX3_copyFrom : Room := { frames := 1, cells := 0, slots := 0, locals := 48 }
theorem eX3_copyFrom : yY yX3_copyFrom wsX3_copyFrom cX3_copyFrom 2 none rmX3_copyFrom 1 := ⟨⟨_, rfl⟩, rfl, rfl, by decide, by decide, by decide +kernel⟩
set_option maxHeartbeats 4000000 in
set_option maxRecDepth 100000 in
theorem mX3_copyFrom {l : Launch} {D : va_G} {sz : Nat} {cI cJ cZ cW cR : ClassId} {h_t : Nat} {h_w : Nat} {A_t : Nat → Nat} {A_w : Nat → Nat} {c_t_knots : Int32} {c_t_flows : Int32} {c_t_readSet : Int32} {c_t_from : Nat → Int32} {c_t_to : Nat → Int32} {c_t_reading : Nat → Int32} {c_t_miss : Nat → Int32} {c_t_price : Nat → Int32} {c_t_kind : Nat → Int32} {c_t_length : Nat → Int32} {c_t_bytes : Nat → Int32} {c_w_knots : Int32} {c_w_flows : Int32} {c_w_readSet : Int32} {c_w_from : Nat → Int32} {c_w_to : Nat → Int32} {c_w_reading : Nat → Int32} {c_w_miss : Nat → Int32} {c_w_price : Nat → Int32} {c_w_kind : Nat → Int32} {c_w_length : Nat → Int32} {c_w_bytes : Nat → Int32} {zc_t_knots : Int32} {zc_t_flows : Int32} {zc_t_readSet : Int32} {zc_t_from : Nat → Int32} {zc_t_to : Nat → Int32} {zc_t_reading : Nat → Int32} {zc_t_miss : Nat → Int32} {zc_t_price : Nat → Int32} {zc_t_kind : Nat → Int32} {zc_t_length : Nat → Int32} {zc_t_bytes : Nat → Int32} (hf : fX3_copyFrom c_t_knots c_t_flows c_t_readSet c_t_from c_t_to c_t_reading c_t_miss c_t_price c_t_kind c_t_length c_t_bytes c_w_knots c_w_flows c_w_readSet c_w_from c_w_to c_w_reading c_w_miss c_w_price c_w_kind c_w_length c_w_bytes = some (zc_t_knots, zc_t_flows, zc_t_readSet, zc_t_from, zc_t_to, zc_t_reading, zc_t_miss, zc_t_price, zc_t_kind, zc_t_length, zc_t_bytes)) : Met l yX3_copyFrom wsX3_copyFrom rmX3_copyFrom (yP D (yT cI cJ cZ cW cR) [(h_t, oW A_t c_t_knots c_t_flows c_t_readSet), (A_t 0, eI cI 10 c_t_from), (A_t 1, eI cI 10 c_t_to), (A_t 2, eI cI 10 c_t_reading), (A_t 3, eI cI 10 c_t_miss), (A_t 4, eI cI 10 c_t_price), (A_t 5, eI cI 10 c_t_kind), (A_t 6, eI cI 10 c_t_length), (A_t 7, eI cI 160 c_t_bytes), (h_w, oW A_w c_w_knots c_w_flows c_w_readSet), (A_w 0, eI cI 10 c_w_from), (A_w 1, eI cI 10 c_w_to), (A_w 2, eI cI 10 c_w_reading), (A_w 3, eI cI 10 c_w_miss), (A_w 4, eI cI 10 c_w_price), (A_w 5, eI cI 10 c_w_kind), (A_w 6, eI cI 10 c_w_length), (A_w 7, eI cI 160 c_w_bytes)] sz [.ref h_t, .ref h_w]) (yQv D (yT cI cJ cZ cW cR) [(h_t, oW A_t zc_t_knots zc_t_flows zc_t_readSet), (A_t 0, eI cI 10 zc_t_from), (A_t 1, eI cI 10 zc_t_to), (A_t 2, eI cI 10 zc_t_reading), (A_t 3, eI cI 10 zc_t_miss), (A_t 4, eI cI 10 zc_t_price), (A_t 5, eI cI 10 zc_t_kind), (A_t 6, eI cI 10 zc_t_length), (A_t 7, eI cI 160 zc_t_bytes), (h_w, oW A_w c_w_knots c_w_flows c_w_readSet), (A_w 0, eI cI 10 c_w_from), (A_w 1, eI cI 10 c_w_to), (A_w 2, eI cI 10 c_w_reading), (A_w 3, eI cI 10 c_w_miss), (A_w 4, eI cI 10 c_w_price), (A_w 5, eI cI 10 c_w_kind), (A_w 6, eI cI 10 c_w_length), (A_w 7, eI cI 160 c_w_bytes)] (va_A [(h_t, oW A_t c_t_knots c_t_flows c_t_readSet), (A_t 0, eI cI 10 c_t_from), (A_t 1, eI cI 10 c_t_to), (A_t 2, eI cI 10 c_t_reading), (A_t 3, eI cI 10 c_t_miss), (A_t 4, eI cI 10 c_t_price), (A_t 5, eI cI 10 c_t_kind), (A_t 6, eI cI 10 c_t_length), (A_t 7, eI cI 160 c_t_bytes), (h_w, oW A_w c_w_knots c_w_flows c_w_readSet), (A_w 0, eI cI 10 c_w_from), (A_w 1, eI cI 10 c_w_to), (A_w 2, eI cI 10 c_w_reading), (A_w 3, eI cI 10 c_w_miss), (A_w 4, eI cI 10 c_w_price), (A_w 5, eI cI 10 c_w_kind), (A_w 6, eI cI 10 c_w_length), (A_w 7, eI cI 160 c_w_bytes)] sz)) 0 0 (va_A [(h_t, oW A_t c_t_knots c_t_flows c_t_readSet), (A_t 0, eI cI 10 c_t_from), (A_t 1, eI cI 10 c_t_to), (A_t 2, eI cI 10 c_t_reading), (A_t 3, eI cI 10 c_t_miss), (A_t 4, eI cI 10 c_t_price), (A_t 5, eI cI 10 c_t_kind), (A_t 6, eI cI 10 c_t_length), (A_t 7, eI cI 160 c_t_bytes), (h_w, oW A_w c_w_knots c_w_flows c_w_readSet), (A_w 0, eI cI 10 c_w_from), (A_w 1, eI cI 10 c_w_to), (A_w 2, eI cI 10 c_w_reading), (A_w 3, eI cI 10 c_w_miss), (A_w 4, eI cI 10 c_w_price), (A_w 5, eI cI 10 c_w_kind), (A_w 6, eI cI 10 c_w_length), (A_w 7, eI cI 160 c_w_bytes)] sz) := by
  refine yM (cc := cX3_copyFrom) (maxL := 2) (ret := none) RX3 (by decide) rfl rfl (Nat.le_of_ble_eq_true rfl) ?_
  intro p e s m below meth c Γ hr
  show yG p l e (headSpec wsX3_copyFrom rmX3_copyFrom).room s m (List.toArray [.ref h_t, .ref h_w]) below meth c D (va_A [(h_t, oW A_t c_t_knots c_t_flows c_t_readSet), (A_t 0, eI cI 10 c_t_from), (A_t 1, eI cI 10 c_t_to), (A_t 2, eI cI 10 c_t_reading), (A_t 3, eI cI 10 c_t_miss), (A_t 4, eI cI 10 c_t_price), (A_t 5, eI cI 10 c_t_kind), (A_t 6, eI cI 10 c_t_length), (A_t 7, eI cI 160 c_t_bytes), (h_w, oW A_w c_w_knots c_w_flows c_w_readSet), (A_w 0, eI cI 10 c_w_from), (A_w 1, eI cI 10 c_w_to), (A_w 2, eI cI 10 c_w_reading), (A_w 3, eI cI 10 c_w_miss), (A_w 4, eI cI 10 c_w_price), (A_w 5, eI cI 10 c_w_kind), (A_w 6, eI cI 10 c_w_length), (A_w 7, eI cI 160 c_w_bytes)] sz) 2 0 0 (MQ below (yQv D (yT cI cJ cZ cW cR) [(h_t, oW A_t zc_t_knots zc_t_flows zc_t_readSet), (A_t 0, eI cI 10 zc_t_from), (A_t 1, eI cI 10 zc_t_to), (A_t 2, eI cI 10 zc_t_reading), (A_t 3, eI cI 10 zc_t_miss), (A_t 4, eI cI 10 zc_t_price), (A_t 5, eI cI 10 zc_t_kind), (A_t 6, eI cI 10 zc_t_length), (A_t 7, eI cI 160 zc_t_bytes), (h_w, oW A_w c_w_knots c_w_flows c_w_readSet), (A_w 0, eI cI 10 c_w_from), (A_w 1, eI cI 10 c_w_to), (A_w 2, eI cI 10 c_w_reading), (A_w 3, eI cI 10 c_w_miss), (A_w 4, eI cI 10 c_w_price), (A_w 5, eI cI 10 c_w_kind), (A_w 6, eI cI 10 c_w_length), (A_w 7, eI cI 160 c_w_bytes)] (va_A [(h_t, oW A_t c_t_knots c_t_flows c_t_readSet), (A_t 0, eI cI 10 c_t_from), (A_t 1, eI cI 10 c_t_to), (A_t 2, eI cI 10 c_t_reading), (A_t 3, eI cI 10 c_t_miss), (A_t 4, eI cI 10 c_t_price), (A_t 5, eI cI 10 c_t_kind), (A_t 6, eI cI 10 c_t_length), (A_t 7, eI cI 160 c_t_bytes), (h_w, oW A_w c_w_knots c_w_flows c_w_readSet), (A_w 0, eI cI 10 c_w_from), (A_w 1, eI cI 10 c_w_to), (A_w 2, eI cI 10 c_w_reading), (A_w 3, eI cI 10 c_w_miss), (A_w 4, eI cI 10 c_w_price), (A_w 5, eI cI 10 c_w_kind), (A_w 6, eI cI 10 c_w_length), (A_w 7, eI cI 160 c_w_bytes)] sz)) (List.toArray [.ref h_t, .ref h_w]) s 0 0 (va_A [(h_t, oW A_t c_t_knots c_t_flows c_t_readSet), (A_t 0, eI cI 10 c_t_from), (A_t 1, eI cI 10 c_t_to), (A_t 2, eI cI 10 c_t_reading), (A_t 3, eI cI 10 c_t_miss), (A_t 4, eI cI 10 c_t_price), (A_t 5, eI cI 10 c_t_kind), (A_t 6, eI cI 10 c_t_length), (A_t 7, eI cI 160 c_t_bytes), (h_w, oW A_w c_w_knots c_w_flows c_w_readSet), (A_w 0, eI cI 10 c_w_from), (A_w 1, eI cI 10 c_w_to), (A_w 2, eI cI 10 c_w_reading), (A_w 3, eI cI 10 c_w_miss), (A_w 4, eI cI 10 c_w_price), (A_w 5, eI cI 10 c_w_kind), (A_w 6, eI cI 10 c_w_length), (A_w 7, eI cI 160 c_w_bytes)] sz)) 0 [(0, .ref h_t), (1, .ref h_w)] [] [(h_t, oW A_t c_t_knots c_t_flows c_t_readSet), (A_t 0, eI cI 10 c_t_from), (A_t 1, eI cI 10 c_t_to), (A_t 2, eI cI 10 c_t_reading), (A_t 3, eI cI 10 c_t_miss), (A_t 4, eI cI 10 c_t_price), (A_t 5, eI cI 10 c_t_kind), (A_t 6, eI cI 10 c_t_length), (A_t 7, eI cI 160 c_t_bytes), (h_w, oW A_w c_w_knots c_w_flows c_w_readSet), (A_w 0, eI cI 10 c_w_from), (A_w 1, eI cI 10 c_w_to), (A_w 2, eI cI 10 c_w_reading), (A_w 3, eI cI 10 c_w_miss), (A_w 4, eI cI 10 c_w_price), (A_w 5, eI cI 10 c_w_kind), (A_w 6, eI cI 10 c_w_length), (A_w 7, eI cI 160 c_w_bytes)]
  unfold fX3_copyFrom at hf
  refine g_aload_n Γ 0 dX3_copyFrom_0 rfl ?_
  refine g_aload_n Γ 1 dX3_copyFrom_1 rfl ?_
  refine g_get Γ fX3_copyFrom_36 9 rfl rfl dX3_copyFrom_2 ?_
  refine g_put (ws' := [(h_t, oW A_t c_w_knots c_t_flows c_t_readSet), (A_t 0, eI cI 10 c_t_from), (A_t 1, eI cI 10 c_t_to), (A_t 2, eI cI 10 c_t_reading), (A_t 3, eI cI 10 c_t_miss), (A_t 4, eI cI 10 c_t_price), (A_t 5, eI cI 10 c_t_kind), (A_t 6, eI cI 10 c_t_length), (A_t 7, eI cI 160 c_t_bytes), (h_w, oW A_w c_w_knots c_w_flows c_w_readSet), (A_w 0, eI cI 10 c_w_from), (A_w 1, eI cI 10 c_w_to), (A_w 2, eI cI 10 c_w_reading), (A_w 3, eI cI 10 c_w_miss), (A_w 4, eI cI 10 c_w_price), (A_w 5, eI cI 10 c_w_kind), (A_w 6, eI cI 10 c_w_length), (A_w 7, eI cI 160 c_w_bytes)]) Γ fX3_copyFrom_36 tyX3_ok nmX3 0 rfl rfl rfl rfl (Nat.le_of_ble_eq_true rfl) dX3_copyFrom_5 rfl ?_
  refine g_aload_n Γ 0 dX3_copyFrom_8 rfl ?_
  refine g_aload_n Γ 1 dX3_copyFrom_9 rfl ?_
  refine g_get Γ fX3_copyFrom_40 9 rfl rfl dX3_copyFrom_10 ?_
  refine g_put (ws' := [(h_t, oW A_t c_w_knots c_w_flows c_t_readSet), (A_t 0, eI cI 10 c_t_from), (A_t 1, eI cI 10 c_t_to), (A_t 2, eI cI 10 c_t_reading), (A_t 3, eI cI 10 c_t_miss), (A_t 4, eI cI 10 c_t_price), (A_t 5, eI cI 10 c_t_kind), (A_t 6, eI cI 10 c_t_length), (A_t 7, eI cI 160 c_t_bytes), (h_w, oW A_w c_w_knots c_w_flows c_w_readSet), (A_w 0, eI cI 10 c_w_from), (A_w 1, eI cI 10 c_w_to), (A_w 2, eI cI 10 c_w_reading), (A_w 3, eI cI 10 c_w_miss), (A_w 4, eI cI 10 c_w_price), (A_w 5, eI cI 10 c_w_kind), (A_w 6, eI cI 10 c_w_length), (A_w 7, eI cI 160 c_w_bytes)]) Γ fX3_copyFrom_40 tyX3_ok nmX3 0 rfl rfl rfl rfl (Nat.le_of_ble_eq_true rfl) dX3_copyFrom_13 rfl ?_
  refine g_aload_n Γ 0 dX3_copyFrom_16 rfl ?_
  refine g_aload_n Γ 1 dX3_copyFrom_17 rfl ?_
  refine g_get Γ fX3_copyFrom_43 9 rfl rfl dX3_copyFrom_18 ?_
  refine g_put (ws' := [(h_t, oW A_t c_w_knots c_w_flows c_w_readSet), (A_t 0, eI cI 10 c_t_from), (A_t 1, eI cI 10 c_t_to), (A_t 2, eI cI 10 c_t_reading), (A_t 3, eI cI 10 c_t_miss), (A_t 4, eI cI 10 c_t_price), (A_t 5, eI cI 10 c_t_kind), (A_t 6, eI cI 10 c_t_length), (A_t 7, eI cI 160 c_t_bytes), (h_w, oW A_w c_w_knots c_w_flows c_w_readSet), (A_w 0, eI cI 10 c_w_from), (A_w 1, eI cI 10 c_w_to), (A_w 2, eI cI 10 c_w_reading), (A_w 3, eI cI 10 c_w_miss), (A_w 4, eI cI 10 c_w_price), (A_w 5, eI cI 10 c_w_kind), (A_w 6, eI cI 10 c_w_length), (A_w 7, eI cI 160 c_w_bytes)]) Γ fX3_copyFrom_43 tyX3_ok nmX3 0 rfl rfl rfl rfl (Nat.le_of_ble_eq_true rfl) dX3_copyFrom_21 rfl ?_
  refine g_aload_n Γ 1 dX3_copyFrom_24 rfl ?_
  refine g_get Γ fX3_copyFrom_9 9 rfl rfl dX3_copyFrom_25 ?_
  refine g_iconst (v := 0) Γ dX3_copyFrom_28 (by decide) ?_
  refine g_aload_n Γ 0 dX3_copyFrom_29 rfl ?_
  refine g_get Γ fX3_copyFrom_9 0 rfl rfl dX3_copyFrom_30 ?_
  refine g_iconst (v := 0) Γ dX3_copyFrom_33 (by decide) ?_
  refine g_bipush (v := 10) Γ dX3_copyFrom_34 (by decide) ?_
  obtain ⟨v1, e2, hf⟩ := ya_lt_inv hf
  refine g_copyi (ws' := [(h_t, oW A_t c_w_knots c_w_flows c_w_readSet), (A_t 0, eI cI 10 v1), (A_t 1, eI cI 10 c_t_to), (A_t 2, eI cI 10 c_t_reading), (A_t 3, eI cI 10 c_t_miss), (A_t 4, eI cI 10 c_t_price), (A_t 5, eI cI 10 c_t_kind), (A_t 6, eI cI 10 c_t_length), (A_t 7, eI cI 160 c_t_bytes), (h_w, oW A_w c_w_knots c_w_flows c_w_readSet), (A_w 0, eI cI 10 c_w_from), (A_w 1, eI cI 10 c_w_to), (A_w 2, eI cI 10 c_w_reading), (A_w 3, eI cI 10 c_w_miss), (A_w 4, eI cI 10 c_w_price), (A_w 5, eI cI 10 c_w_kind), (A_w 6, eI cI 10 c_w_length), (A_w 7, eI cI 160 c_w_bytes)]) Γ (by decide +kernel) (by decide +kernel) (by decide +kernel) (by decide +kernel) 10 1 0 rfl rfl rfl (by decide) (by decide +kernel) (Nat.le_of_ble_eq_true rfl) (Nat.le_of_ble_eq_true rfl) e2 dX3_copyFrom_36 rfl ?_
  refine g_aload_n Γ 1 dX3_copyFrom_39 rfl ?_
  refine g_get Γ fX3_copyFrom_15 9 rfl rfl dX3_copyFrom_40 ?_
  refine g_iconst (v := 0) Γ dX3_copyFrom_43 (by decide) ?_
  refine g_aload_n Γ 0 dX3_copyFrom_44 rfl ?_
  refine g_get Γ fX3_copyFrom_15 0 rfl rfl dX3_copyFrom_45 ?_
  refine g_iconst (v := 0) Γ dX3_copyFrom_48 (by decide) ?_
  refine g_bipush (v := 10) Γ dX3_copyFrom_49 (by decide) ?_
  obtain ⟨v3, e4, hf⟩ := ya_lt_inv hf
  refine g_copyi (ws' := [(h_t, oW A_t c_w_knots c_w_flows c_w_readSet), (A_t 0, eI cI 10 v1), (A_t 1, eI cI 10 v3), (A_t 2, eI cI 10 c_t_reading), (A_t 3, eI cI 10 c_t_miss), (A_t 4, eI cI 10 c_t_price), (A_t 5, eI cI 10 c_t_kind), (A_t 6, eI cI 10 c_t_length), (A_t 7, eI cI 160 c_t_bytes), (h_w, oW A_w c_w_knots c_w_flows c_w_readSet), (A_w 0, eI cI 10 c_w_from), (A_w 1, eI cI 10 c_w_to), (A_w 2, eI cI 10 c_w_reading), (A_w 3, eI cI 10 c_w_miss), (A_w 4, eI cI 10 c_w_price), (A_w 5, eI cI 10 c_w_kind), (A_w 6, eI cI 10 c_w_length), (A_w 7, eI cI 160 c_w_bytes)]) Γ (by decide +kernel) (by decide +kernel) (by decide +kernel) (by decide +kernel) 11 2 0 rfl rfl rfl (by decide) (by decide +kernel) (Nat.le_of_ble_eq_true rfl) (Nat.le_of_ble_eq_true rfl) e4 dX3_copyFrom_51 rfl ?_
  refine g_aload_n Γ 1 dX3_copyFrom_54 rfl ?_
  refine g_get Γ fX3_copyFrom_18 9 rfl rfl dX3_copyFrom_55 ?_
  refine g_iconst (v := 0) Γ dX3_copyFrom_58 (by decide) ?_
  refine g_aload_n Γ 0 dX3_copyFrom_59 rfl ?_
  refine g_get Γ fX3_copyFrom_18 0 rfl rfl dX3_copyFrom_60 ?_
  refine g_iconst (v := 0) Γ dX3_copyFrom_63 (by decide) ?_
  refine g_bipush (v := 10) Γ dX3_copyFrom_64 (by decide) ?_
  obtain ⟨v5, e6, hf⟩ := ya_lt_inv hf
  refine g_copyi (ws' := [(h_t, oW A_t c_w_knots c_w_flows c_w_readSet), (A_t 0, eI cI 10 v1), (A_t 1, eI cI 10 v3), (A_t 2, eI cI 10 v5), (A_t 3, eI cI 10 c_t_miss), (A_t 4, eI cI 10 c_t_price), (A_t 5, eI cI 10 c_t_kind), (A_t 6, eI cI 10 c_t_length), (A_t 7, eI cI 160 c_t_bytes), (h_w, oW A_w c_w_knots c_w_flows c_w_readSet), (A_w 0, eI cI 10 c_w_from), (A_w 1, eI cI 10 c_w_to), (A_w 2, eI cI 10 c_w_reading), (A_w 3, eI cI 10 c_w_miss), (A_w 4, eI cI 10 c_w_price), (A_w 5, eI cI 10 c_w_kind), (A_w 6, eI cI 10 c_w_length), (A_w 7, eI cI 160 c_w_bytes)]) Γ (by decide +kernel) (by decide +kernel) (by decide +kernel) (by decide +kernel) 12 3 0 rfl rfl rfl (by decide) (by decide +kernel) (Nat.le_of_ble_eq_true rfl) (Nat.le_of_ble_eq_true rfl) e6 dX3_copyFrom_66 rfl ?_
  refine g_aload_n Γ 1 dX3_copyFrom_69 rfl ?_
  refine g_get Γ fX3_copyFrom_21 9 rfl rfl dX3_copyFrom_70 ?_
  refine g_iconst (v := 0) Γ dX3_copyFrom_73 (by decide) ?_
  refine g_aload_n Γ 0 dX3_copyFrom_74 rfl ?_
  refine g_get Γ fX3_copyFrom_21 0 rfl rfl dX3_copyFrom_75 ?_
  refine g_iconst (v := 0) Γ dX3_copyFrom_78 (by decide) ?_
  refine g_bipush (v := 10) Γ dX3_copyFrom_79 (by decide) ?_
  obtain ⟨v7, e8, hf⟩ := ya_lt_inv hf
  refine g_copyi (ws' := [(h_t, oW A_t c_w_knots c_w_flows c_w_readSet), (A_t 0, eI cI 10 v1), (A_t 1, eI cI 10 v3), (A_t 2, eI cI 10 v5), (A_t 3, eI cI 10 v7), (A_t 4, eI cI 10 c_t_price), (A_t 5, eI cI 10 c_t_kind), (A_t 6, eI cI 10 c_t_length), (A_t 7, eI cI 160 c_t_bytes), (h_w, oW A_w c_w_knots c_w_flows c_w_readSet), (A_w 0, eI cI 10 c_w_from), (A_w 1, eI cI 10 c_w_to), (A_w 2, eI cI 10 c_w_reading), (A_w 3, eI cI 10 c_w_miss), (A_w 4, eI cI 10 c_w_price), (A_w 5, eI cI 10 c_w_kind), (A_w 6, eI cI 10 c_w_length), (A_w 7, eI cI 160 c_w_bytes)]) Γ (by decide +kernel) (by decide +kernel) (by decide +kernel) (by decide +kernel) 13 4 0 rfl rfl rfl (by decide) (by decide +kernel) (Nat.le_of_ble_eq_true rfl) (Nat.le_of_ble_eq_true rfl) e8 dX3_copyFrom_81 rfl ?_
  refine g_aload_n Γ 1 dX3_copyFrom_84 rfl ?_
  refine g_get Γ fX3_copyFrom_24 9 rfl rfl dX3_copyFrom_85 ?_
  refine g_iconst (v := 0) Γ dX3_copyFrom_88 (by decide) ?_
  refine g_aload_n Γ 0 dX3_copyFrom_89 rfl ?_
  refine g_get Γ fX3_copyFrom_24 0 rfl rfl dX3_copyFrom_90 ?_
  refine g_iconst (v := 0) Γ dX3_copyFrom_93 (by decide) ?_
  refine g_bipush (v := 10) Γ dX3_copyFrom_94 (by decide) ?_
  obtain ⟨v9, e10, hf⟩ := ya_lt_inv hf
  refine g_copyi (ws' := [(h_t, oW A_t c_w_knots c_w_flows c_w_readSet), (A_t 0, eI cI 10 v1), (A_t 1, eI cI 10 v3), (A_t 2, eI cI 10 v5), (A_t 3, eI cI 10 v7), (A_t 4, eI cI 10 v9), (A_t 5, eI cI 10 c_t_kind), (A_t 6, eI cI 10 c_t_length), (A_t 7, eI cI 160 c_t_bytes), (h_w, oW A_w c_w_knots c_w_flows c_w_readSet), (A_w 0, eI cI 10 c_w_from), (A_w 1, eI cI 10 c_w_to), (A_w 2, eI cI 10 c_w_reading), (A_w 3, eI cI 10 c_w_miss), (A_w 4, eI cI 10 c_w_price), (A_w 5, eI cI 10 c_w_kind), (A_w 6, eI cI 10 c_w_length), (A_w 7, eI cI 160 c_w_bytes)]) Γ (by decide +kernel) (by decide +kernel) (by decide +kernel) (by decide +kernel) 14 5 0 rfl rfl rfl (by decide) (by decide +kernel) (Nat.le_of_ble_eq_true rfl) (Nat.le_of_ble_eq_true rfl) e10 dX3_copyFrom_96 rfl ?_
  refine g_aload_n Γ 1 dX3_copyFrom_99 rfl ?_
  refine g_get Γ fX3_copyFrom_27 9 rfl rfl dX3_copyFrom_100 ?_
  refine g_iconst (v := 0) Γ dX3_copyFrom_103 (by decide) ?_
  refine g_aload_n Γ 0 dX3_copyFrom_104 rfl ?_
  refine g_get Γ fX3_copyFrom_27 0 rfl rfl dX3_copyFrom_105 ?_
  refine g_iconst (v := 0) Γ dX3_copyFrom_108 (by decide) ?_
  refine g_bipush (v := 10) Γ dX3_copyFrom_109 (by decide) ?_
  obtain ⟨v11, e12, hf⟩ := ya_lt_inv hf
  refine g_copyi (ws' := [(h_t, oW A_t c_w_knots c_w_flows c_w_readSet), (A_t 0, eI cI 10 v1), (A_t 1, eI cI 10 v3), (A_t 2, eI cI 10 v5), (A_t 3, eI cI 10 v7), (A_t 4, eI cI 10 v9), (A_t 5, eI cI 10 v11), (A_t 6, eI cI 10 c_t_length), (A_t 7, eI cI 160 c_t_bytes), (h_w, oW A_w c_w_knots c_w_flows c_w_readSet), (A_w 0, eI cI 10 c_w_from), (A_w 1, eI cI 10 c_w_to), (A_w 2, eI cI 10 c_w_reading), (A_w 3, eI cI 10 c_w_miss), (A_w 4, eI cI 10 c_w_price), (A_w 5, eI cI 10 c_w_kind), (A_w 6, eI cI 10 c_w_length), (A_w 7, eI cI 160 c_w_bytes)]) Γ (by decide +kernel) (by decide +kernel) (by decide +kernel) (by decide +kernel) 15 6 0 rfl rfl rfl (by decide) (by decide +kernel) (Nat.le_of_ble_eq_true rfl) (Nat.le_of_ble_eq_true rfl) e12 dX3_copyFrom_111 rfl ?_
  refine g_aload_n Γ 1 dX3_copyFrom_114 rfl ?_
  refine g_get Γ fX3_copyFrom_30 9 rfl rfl dX3_copyFrom_115 ?_
  refine g_iconst (v := 0) Γ dX3_copyFrom_118 (by decide) ?_
  refine g_aload_n Γ 0 dX3_copyFrom_119 rfl ?_
  refine g_get Γ fX3_copyFrom_30 0 rfl rfl dX3_copyFrom_120 ?_
  refine g_iconst (v := 0) Γ dX3_copyFrom_123 (by decide) ?_
  refine g_bipush (v := 10) Γ dX3_copyFrom_124 (by decide) ?_
  obtain ⟨v13, e14, hf⟩ := ya_lt_inv hf
  refine g_copyi (ws' := [(h_t, oW A_t c_w_knots c_w_flows c_w_readSet), (A_t 0, eI cI 10 v1), (A_t 1, eI cI 10 v3), (A_t 2, eI cI 10 v5), (A_t 3, eI cI 10 v7), (A_t 4, eI cI 10 v9), (A_t 5, eI cI 10 v11), (A_t 6, eI cI 10 v13), (A_t 7, eI cI 160 c_t_bytes), (h_w, oW A_w c_w_knots c_w_flows c_w_readSet), (A_w 0, eI cI 10 c_w_from), (A_w 1, eI cI 10 c_w_to), (A_w 2, eI cI 10 c_w_reading), (A_w 3, eI cI 10 c_w_miss), (A_w 4, eI cI 10 c_w_price), (A_w 5, eI cI 10 c_w_kind), (A_w 6, eI cI 10 c_w_length), (A_w 7, eI cI 160 c_w_bytes)]) Γ (by decide +kernel) (by decide +kernel) (by decide +kernel) (by decide +kernel) 16 7 0 rfl rfl rfl (by decide) (by decide +kernel) (Nat.le_of_ble_eq_true rfl) (Nat.le_of_ble_eq_true rfl) e14 dX3_copyFrom_126 rfl ?_
  refine g_aload_n Γ 1 dX3_copyFrom_129 rfl ?_
  refine g_get Γ fX3_copyFrom_33 9 rfl rfl dX3_copyFrom_130 ?_
  refine g_iconst (v := 0) Γ dX3_copyFrom_133 (by decide) ?_
  refine g_aload_n Γ 0 dX3_copyFrom_134 rfl ?_
  refine g_get Γ fX3_copyFrom_33 0 rfl rfl dX3_copyFrom_135 ?_
  refine g_iconst (v := 0) Γ dX3_copyFrom_138 (by decide) ?_
  refine g_sipush (v := 160) Γ dX3_copyFrom_139 (by decide) ?_
  obtain ⟨v15, e16, hf⟩ := ya_lt_inv hf
  refine g_copyi (ws' := [(h_t, oW A_t c_w_knots c_w_flows c_w_readSet), (A_t 0, eI cI 10 v1), (A_t 1, eI cI 10 v3), (A_t 2, eI cI 10 v5), (A_t 3, eI cI 10 v7), (A_t 4, eI cI 10 v9), (A_t 5, eI cI 10 v11), (A_t 6, eI cI 10 v13), (A_t 7, eI cI 160 v15), (h_w, oW A_w c_w_knots c_w_flows c_w_readSet), (A_w 0, eI cI 10 c_w_from), (A_w 1, eI cI 10 c_w_to), (A_w 2, eI cI 10 c_w_reading), (A_w 3, eI cI 10 c_w_miss), (A_w 4, eI cI 10 c_w_price), (A_w 5, eI cI 10 c_w_kind), (A_w 6, eI cI 10 c_w_length), (A_w 7, eI cI 160 c_w_bytes)]) Γ (by decide +kernel) (by decide +kernel) (by decide +kernel) (by decide +kernel) 17 8 0 rfl rfl rfl (by decide) (by decide +kernel) (Nat.le_of_ble_eq_true rfl) (Nat.le_of_ble_eq_true rfl) e16 dX3_copyFrom_142 rfl ?_
  cases hf
  exact g_vret Γ hr dX3_copyFrom_145 [0, 1, 2, 3, 4, 5, 6, 7, 8, 9, 10, 11, 12, 13, 14, 15, 16, 17] rfl rfl

set_option maxRecDepth 20000 in
theorem ggX3_dropReading_X4_bit : GoodIn wsX3_dropReading wsX4_bit := goodIn_r _ [5] (by decide +kernel) (by decide +kernel)
set_option maxRecDepth 20000 in
theorem gX3_dropReading_X4_bit_n56 : GoodIn wsX3_dropReading (wsX4_bit) := ggX3_dropReading_X4_bit
theorem dX3_dropReading_0 : decode cX3_dropReading 0 = .ok (.aload_n 0, 1) := by decide +kernel
theorem dX3_dropReading_1 : decode cX3_dropReading 1 = .ok (.dup, 1) := by decide +kernel
theorem dX3_dropReading_2 : decode cX3_dropReading 2 = .ok (.getfield 43, 3) := by decide +kernel
theorem dX3_dropReading_5 : decode cX3_dropReading 5 = .ok (.iload_n 1, 1) := by decide +kernel
theorem dX3_dropReading_6 : decode cX3_dropReading 6 = .ok (.invokestatic 56, 3) := by decide +kernel
theorem dX3_dropReading_9 : decode cX3_dropReading 9 = .ok (.iconst (-1), 1) := by decide +kernel
theorem dX3_dropReading_10 : decode cX3_dropReading 10 = .ok (.ixor, 1) := by decide +kernel
theorem dX3_dropReading_11 : decode cX3_dropReading 11 = .ok (.iand, 1) := by decide +kernel
theorem dX3_dropReading_12 : decode cX3_dropReading 12 = .ok (.putfield 43, 3) := by decide +kernel
theorem dX3_dropReading_15 : decode cX3_dropReading 15 = .ok (.aload_n 0, 1) := by decide +kernel
theorem dX3_dropReading_16 : decode cX3_dropReading 16 = .ok (.getfield 18, 3) := by decide +kernel
theorem dX3_dropReading_19 : decode cX3_dropReading 19 = .ok (.iload_n 1, 1) := by decide +kernel
theorem dX3_dropReading_20 : decode cX3_dropReading 20 = .ok (.iconst 0, 1) := by decide +kernel
theorem dX3_dropReading_21 : decode cX3_dropReading 21 = .ok (.iastore, 1) := by decide +kernel
theorem dX3_dropReading_22 : decode cX3_dropReading 22 = .ok (.return_, 1) := by decide +kernel
/-! ===== FlowMeters$Works.dropReading(I)V ===== -/
def fX3_dropReading (c_t_readSet : Int32) (c_t_reading : Nat → Int32) (x1 : Int32) : Option (Int32 × (Nat → Int32)) :=
  (fX4_bit x1).bind fun v1 =>
  ya_lt (c_t_readSet &&& (v1 ^^^ (-1))) fun v3 =>
  (ya_wr c_t_reading 10 x1 0).bind fun v5 =>
  some (v3, v5)
theorem fX3_dropReading_43 : yF wsX3_dropReading RX3 43 3 2 RX3 TX3 11 := ⟨rfl, by decide, by decide +kernel, by decide +kernel⟩
theorem fX3_dropReading_18 : yF wsX3_dropReading RX3 18 3 5 RX3 TX3 11 := ⟨rfl, by decide, by decide +kernel, by decide +kernel⟩
abbrev rmX3_dropReading : Room := { frames := 1, cells := 0, slots := 0, locals := 20 }
theorem eX3_dropReading : yY yX3_dropReading wsX3_dropReading cX3_dropReading 2 none rmX3_dropReading 1 := ⟨⟨_, rfl⟩, rfl, rfl, by decide, by decide, by decide +kernel⟩
set_option maxHeartbeats 4000000 in
set_option maxRecDepth 100000 in
theorem mX3_dropReading {l : Launch} {D : va_G} {sz : Nat} {cI cJ cZ cW cR : ClassId} {h_t : Nat} {A_t : Nat → Nat} {c_t_knots : Int32} {c_t_flows : Int32} {c_t_readSet : Int32} {c_t_reading : Nat → Int32} {x1 : Int32} {zc_t_readSet : Int32} {zc_t_reading : Nat → Int32} (hf : fX3_dropReading c_t_readSet c_t_reading x1 = some (zc_t_readSet, zc_t_reading)) : Met l yX3_dropReading wsX3_dropReading rmX3_dropReading (yP D (yT cI cJ cZ cW cR) [(h_t, oW A_t c_t_knots c_t_flows c_t_readSet), (A_t 2, eI cI 10 c_t_reading)] sz [.ref h_t, .int x1]) (yQv D (yT cI cJ cZ cW cR) [(h_t, oW A_t c_t_knots c_t_flows zc_t_readSet), (A_t 2, eI cI 10 zc_t_reading)] (va_A [(h_t, oW A_t c_t_knots c_t_flows c_t_readSet), (A_t 2, eI cI 10 c_t_reading)] sz)) 0 0 (va_A [(h_t, oW A_t c_t_knots c_t_flows c_t_readSet), (A_t 2, eI cI 10 c_t_reading)] sz) := by
  refine yM (cc := cX3_dropReading) (maxL := 2) (ret := none) RX3 (by decide) rfl rfl (Nat.le_of_ble_eq_true rfl) ?_
  intro p e s m below meth c Γ hr
  show yG p l e (headSpec wsX3_dropReading rmX3_dropReading).room s m (List.toArray [.ref h_t, .int x1]) below meth c D (va_A [(h_t, oW A_t c_t_knots c_t_flows c_t_readSet), (A_t 2, eI cI 10 c_t_reading)] sz) 2 0 0 (MQ below (yQv D (yT cI cJ cZ cW cR) [(h_t, oW A_t c_t_knots c_t_flows zc_t_readSet), (A_t 2, eI cI 10 zc_t_reading)] (va_A [(h_t, oW A_t c_t_knots c_t_flows c_t_readSet), (A_t 2, eI cI 10 c_t_reading)] sz)) (List.toArray [.ref h_t, .int x1]) s 0 0 (va_A [(h_t, oW A_t c_t_knots c_t_flows c_t_readSet), (A_t 2, eI cI 10 c_t_reading)] sz)) 0 [(0, .ref h_t), (1, .int x1)] [] [(h_t, oW A_t c_t_knots c_t_flows c_t_readSet), (A_t 2, eI cI 10 c_t_reading)]
  unfold fX3_dropReading at hf
  refine g_aload_n Γ 0 dX3_dropReading_0 rfl ?_
  refine g_dup Γ dX3_dropReading_1 rfl ?_
  refine g_get Γ fX3_dropReading_43 0 rfl rfl dX3_dropReading_2 ?_
  refine g_iload_n Γ 1 dX3_dropReading_5 rfl ?_
  obtain ⟨v1, e2, hf⟩ := ya_ob hf
  refine g_ni (wr := [(h_t, oW A_t c_t_knots c_t_flows c_t_readSet), (A_t 2, eI cI 10 c_t_reading)]) (ws' := [(h_t, oW A_t c_t_knots c_t_flows c_t_readSet), (A_t 2, eI cI 10 c_t_reading)]) Γ (fun sz => mX4_bit (l := l) (D := D) (sz := sz) (cI := cI) (cJ := cJ) (cZ := cZ) (cW := cW) (cR := cR)  (hf := e2)) eX4_bit ggX3_dropReading_X4_bit (by decide +kernel) (by decide +kernel) (by decide +kernel) rfl rfl (Nat.le_of_ble_eq_true rfl) ⟨Nat.le_of_ble_eq_true rfl, Nat.le_of_ble_eq_true rfl⟩ dX3_dropReading_6 [] [0, 1] rfl rfl rfl rfl (by decide) rfl ?_
  refine g_iconst (v := (-1)) Γ dX3_dropReading_9 (by decide) ?_
  refine g_ixor Γ dX3_dropReading_10 ?_
  refine g_iand Γ dX3_dropReading_11 ?_
  obtain ⟨v3, e4, hf⟩ := ya_lt_inv hf
  refine g_nmi e4 ?_
  refine g_put (ws' := [(h_t, oW A_t c_t_knots c_t_flows v3), (A_t 2, eI cI 10 c_t_reading)]) Γ fX3_dropReading_43 tyX3_ok nmX3 0 rfl rfl rfl rfl (Nat.le_of_ble_eq_true rfl) dX3_dropReading_12 rfl ?_
  refine g_aload_n Γ 0 dX3_dropReading_15 rfl ?_
  refine g_get Γ fX3_dropReading_18 0 rfl rfl dX3_dropReading_16 ?_
  refine g_iload_n Γ 1 dX3_dropReading_19 rfl ?_
  refine g_iconst (v := 0) Γ dX3_dropReading_20 (by decide) ?_
  obtain ⟨v5, e6, hf⟩ := ya_ob hf
  refine g_iast (ws' := [(h_t, oW A_t c_t_knots c_t_flows v3), (A_t 2, eI cI 10 v5)]) Γ e6 1 0 rfl rfl dX3_dropReading_21 rfl ?_
  cases hf
  exact g_vret Γ hr dX3_dropReading_22 [0, 1] rfl rfl

set_option maxRecDepth 20000 in
theorem ggX3_addFlow_X3_dropReading : GoodIn wsX3_addFlow wsX3_dropReading := goodIn_r _ [12, 13, 14, 15, 16, 17, 18, 19, 20, 21, 22, 23, 24, 25, 26, 27, 28] (by decide +kernel) (by decide +kernel)
set_option maxRecDepth 20000 in
theorem gX3_addFlow_X3_dropReading : GoodIn wsX3_addFlow (wsV RX3 52 RX3 yX3_dropReading wsX3_dropReading) := goodIn_app (goodIn_of _ (by decide +kernel)) ggX3_addFlow_X3_dropReading
theorem dX3_addFlow_0 : decode cX3_addFlow 0 = .ok (.aload_n 0, 1) := by decide +kernel
theorem dX3_addFlow_1 : decode cX3_addFlow 1 = .ok (.getfield 40, 3) := by decide +kernel
theorem dX3_addFlow_4 : decode cX3_addFlow 4 = .ok (.istore_n 3, 1) := by decide +kernel
theorem dX3_addFlow_5 : decode cX3_addFlow 5 = .ok (.aload_n 0, 1) := by decide +kernel
theorem dX3_addFlow_6 : decode cX3_addFlow 6 = .ok (.dup, 1) := by decide +kernel
theorem dX3_addFlow_7 : decode cX3_addFlow 7 = .ok (.getfield 40, 3) := by decide +kernel
theorem dX3_addFlow_10 : decode cX3_addFlow 10 = .ok (.iconst 1, 1) := by decide +kernel
theorem dX3_addFlow_11 : decode cX3_addFlow 11 = .ok (.iadd, 1) := by decide +kernel
theorem dX3_addFlow_12 : decode cX3_addFlow 12 = .ok (.putfield 40, 3) := by decide +kernel
theorem dX3_addFlow_15 : decode cX3_addFlow 15 = .ok (.aload_n 0, 1) := by decide +kernel
theorem dX3_addFlow_16 : decode cX3_addFlow 16 = .ok (.getfield 9, 3) := by decide +kernel
theorem dX3_addFlow_19 : decode cX3_addFlow 19 = .ok (.iload_n 3, 1) := by decide +kernel
theorem dX3_addFlow_20 : decode cX3_addFlow 20 = .ok (.iload_n 1, 1) := by decide +kernel
theorem dX3_addFlow_21 : decode cX3_addFlow 21 = .ok (.iastore, 1) := by decide +kernel
theorem dX3_addFlow_22 : decode cX3_addFlow 22 = .ok (.aload_n 0, 1) := by decide +kernel
theorem dX3_addFlow_23 : decode cX3_addFlow 23 = .ok (.getfield 15, 3) := by decide +kernel
theorem dX3_addFlow_26 : decode cX3_addFlow 26 = .ok (.iload_n 3, 1) := by decide +kernel
theorem dX3_addFlow_27 : decode cX3_addFlow 27 = .ok (.iload_n 2, 1) := by decide +kernel
theorem dX3_addFlow_28 : decode cX3_addFlow 28 = .ok (.iastore, 1) := by decide +kernel
theorem dX3_addFlow_29 : decode cX3_addFlow 29 = .ok (.aload_n 0, 1) := by decide +kernel
theorem dX3_addFlow_30 : decode cX3_addFlow 30 = .ok (.iload_n 3, 1) := by decide +kernel
theorem dX3_addFlow_31 : decode cX3_addFlow 31 = .ok (.invokevirtual 52, 3) := by decide +kernel
theorem dX3_addFlow_34 : decode cX3_addFlow 34 = .ok (.aload_n 0, 1) := by decide +kernel
theorem dX3_addFlow_35 : decode cX3_addFlow 35 = .ok (.getfield 21, 3) := by decide +kernel
theorem dX3_addFlow_38 : decode cX3_addFlow 38 = .ok (.iload_n 3, 1) := by decide +kernel
theorem dX3_addFlow_39 : decode cX3_addFlow 39 = .ok (.iconst 1, 1) := by decide +kernel
theorem dX3_addFlow_40 : decode cX3_addFlow 40 = .ok (.iastore, 1) := by decide +kernel
theorem dX3_addFlow_41 : decode cX3_addFlow 41 = .ok (.aload_n 0, 1) := by decide +kernel
theorem dX3_addFlow_42 : decode cX3_addFlow 42 = .ok (.getfield 24, 3) := by decide +kernel
theorem dX3_addFlow_45 : decode cX3_addFlow 45 = .ok (.iload_n 3, 1) := by decide +kernel
theorem dX3_addFlow_46 : decode cX3_addFlow 46 = .ok (.iconst 1, 1) := by decide +kernel
theorem dX3_addFlow_47 : decode cX3_addFlow 47 = .ok (.iastore, 1) := by decide +kernel
theorem dX3_addFlow_48 : decode cX3_addFlow 48 = .ok (.aload_n 0, 1) := by decide +kernel
theorem dX3_addFlow_49 : decode cX3_addFlow 49 = .ok (.getfield 27, 3) := by decide +kernel
theorem dX3_addFlow_52 : decode cX3_addFlow 52 = .ok (.iload_n 3, 1) := by decide +kernel
theorem dX3_addFlow_53 : decode cX3_addFlow 53 = .ok (.iconst (-1), 1) := by decide +kernel
theorem dX3_addFlow_54 : decode cX3_addFlow 54 = .ok (.iastore, 1) := by decide +kernel
theorem dX3_addFlow_55 : decode cX3_addFlow 55 = .ok (.aload_n 0, 1) := by decide +kernel
theorem dX3_addFlow_56 : decode cX3_addFlow 56 = .ok (.getfield 30, 3) := by decide +kernel
theorem dX3_addFlow_59 : decode cX3_addFlow 59 = .ok (.iload_n 3, 1) := by decide +kernel
theorem dX3_addFlow_60 : decode cX3_addFlow 60 = .ok (.iconst 0, 1) := by decide +kernel
theorem dX3_addFlow_61 : decode cX3_addFlow 61 = .ok (.iastore, 1) := by decide +kernel
theorem dX3_addFlow_62 : decode cX3_addFlow 62 = .ok (.iload_n 3, 1) := by decide +kernel
theorem dX3_addFlow_63 : decode cX3_addFlow 63 = .ok (.ireturn, 1) := by decide +kernel
/-! ===== FlowMeters$Works.addFlow(II)I ===== -/
def fX3_addFlow (c_t_flows : Int32) (c_t_readSet : Int32) (c_t_from : Nat → Int32) (c_t_to : Nat → Int32) (c_t_reading : Nat → Int32) (c_t_miss : Nat → Int32) (c_t_price : Nat → Int32) (c_t_kind : Nat → Int32) (c_t_length : Nat → Int32) (x1 : Int32) (x2 : Int32) : Option (Int32 × Int32 × Int32 × (Nat → Int32) × (Nat → Int32) × (Nat → Int32) × (Nat → Int32) × (Nat → Int32) × (Nat → Int32) × (Nat → Int32)) :=
  ya_lt (c_t_flows + 1) fun v1 =>
  (ya_wr c_t_from 10 c_t_flows x1).bind fun v3 =>
  (ya_wr c_t_to 10 c_t_flows x2).bind fun v5 =>
  (fX3_dropReading c_t_readSet c_t_reading c_t_flows).bind fun (v7, v8) =>
  (ya_wr c_t_miss 10 c_t_flows 1).bind fun v10 =>
  (ya_wr c_t_price 10 c_t_flows 1).bind fun v12 =>
  (ya_wr c_t_kind 10 c_t_flows (-1)).bind fun v14 =>
  (ya_wr c_t_length 10 c_t_flows 0).bind fun v16 =>
  some (c_t_flows, v1, v7, v3, v5, v8, v10, v12, v14, v16)
theorem fX3_addFlow_40 : yF wsX3_addFlow RX3 40 3 1 RX3 TX3 11 := ⟨rfl, by decide, by decide +kernel, by decide +kernel⟩
theorem fX3_addFlow_9 : yF wsX3_addFlow RX3 9 3 3 RX3 TX3 11 := ⟨rfl, by decide, by decide +kernel, by decide +kernel⟩
theorem fX3_addFlow_15 : yF wsX3_addFlow RX3 15 3 4 RX3 TX3 11 := ⟨rfl, by decide, by decide +kernel, by decide +kernel⟩
theorem fX3_addFlow_21 : yF wsX3_addFlow RX3 21 3 6 RX3 TX3 11 := ⟨rfl, by decide, by decide +kernel, by decide +kernel⟩
theorem fX3_addFlow_24 : yF wsX3_addFlow RX3 24 3 7 RX3 TX3 11 := ⟨rfl, by decide, by decide +kernel, by decide +kernel⟩
theorem fX3_addFlow_27 : yF wsX3_addFlow RX3 27 3 8 RX3 TX3 11 := ⟨rfl, by decide, by decide +kernel, by decide +kernel⟩
theorem fX3_addFlow_30 : yF wsX3_addFlow RX3 30 3 9 RX3 TX3 11 := ⟨rfl, by decide, by decide +kernel, by decide +kernel⟩
abbrev rmX3_addFlow : Room := { frames := 2, cells := 0, slots := 0, locals := 41 }
theorem eX3_addFlow : yY yX3_addFlow wsX3_addFlow cX3_addFlow 4 (some .int) rmX3_addFlow 2 := ⟨⟨_, rfl⟩, rfl, rfl, by decide, by decide, by decide +kernel⟩
set_option maxHeartbeats 4000000 in
set_option maxRecDepth 100000 in
theorem mX3_addFlow {l : Launch} {D : va_G} {sz : Nat} {cI cJ cZ cW cR : ClassId} {h_t : Nat} {A_t : Nat → Nat} {c_t_knots : Int32} {c_t_flows : Int32} {c_t_readSet : Int32} {c_t_from : Nat → Int32} {c_t_to : Nat → Int32} {c_t_reading : Nat → Int32} {c_t_miss : Nat → Int32} {c_t_price : Nat → Int32} {c_t_kind : Nat → Int32} {c_t_length : Nat → Int32} {x1 : Int32} {x2 : Int32} {r : Int32} {zc_t_flows : Int32} {zc_t_readSet : Int32} {zc_t_from : Nat → Int32} {zc_t_to : Nat → Int32} {zc_t_reading : Nat → Int32} {zc_t_miss : Nat → Int32} {zc_t_price : Nat → Int32} {zc_t_kind : Nat → Int32} {zc_t_length : Nat → Int32} (hf : fX3_addFlow c_t_flows c_t_readSet c_t_from c_t_to c_t_reading c_t_miss c_t_price c_t_kind c_t_length x1 x2 = some (r, zc_t_flows, zc_t_readSet, zc_t_from, zc_t_to, zc_t_reading, zc_t_miss, zc_t_price, zc_t_kind, zc_t_length)) : Met l yX3_addFlow wsX3_addFlow rmX3_addFlow (yP D (yT cI cJ cZ cW cR) [(h_t, oW A_t c_t_knots c_t_flows c_t_readSet), (A_t 0, eI cI 10 c_t_from), (A_t 1, eI cI 10 c_t_to), (A_t 2, eI cI 10 c_t_reading), (A_t 3, eI cI 10 c_t_miss), (A_t 4, eI cI 10 c_t_price), (A_t 5, eI cI 10 c_t_kind), (A_t 6, eI cI 10 c_t_length)] sz [.ref h_t, .int x1, .int x2]) (yQi D (yT cI cJ cZ cW cR) r [(h_t, oW A_t c_t_knots zc_t_flows zc_t_readSet), (A_t 0, eI cI 10 zc_t_from), (A_t 1, eI cI 10 zc_t_to), (A_t 2, eI cI 10 zc_t_reading), (A_t 3, eI cI 10 zc_t_miss), (A_t 4, eI cI 10 zc_t_price), (A_t 5, eI cI 10 zc_t_kind), (A_t 6, eI cI 10 zc_t_length)] (va_A [(h_t, oW A_t c_t_knots c_t_flows c_t_readSet), (A_t 0, eI cI 10 c_t_from), (A_t 1, eI cI 10 c_t_to), (A_t 2, eI cI 10 c_t_reading), (A_t 3, eI cI 10 c_t_miss), (A_t 4, eI cI 10 c_t_price), (A_t 5, eI cI 10 c_t_kind), (A_t 6, eI cI 10 c_t_length)] sz)) 0 0 (va_A [(h_t, oW A_t c_t_knots c_t_flows c_t_readSet), (A_t 0, eI cI 10 c_t_from), (A_t 1, eI cI 10 c_t_to), (A_t 2, eI cI 10 c_t_reading), (A_t 3, eI cI 10 c_t_miss), (A_t 4, eI cI 10 c_t_price), (A_t 5, eI cI 10 c_t_kind), (A_t 6, eI cI 10 c_t_length)] sz) := by
  refine yM (cc := cX3_addFlow) (maxL := 4) (ret := (some .int)) RX3 (by decide) rfl rfl (Nat.le_of_ble_eq_true rfl) ?_
  intro p e s m below meth c Γ hr
  show yG p l e (headSpec wsX3_addFlow rmX3_addFlow).room s m (List.toArray [.ref h_t, .int x1, .int x2]) below meth c D (va_A [(h_t, oW A_t c_t_knots c_t_flows c_t_readSet), (A_t 0, eI cI 10 c_t_from), (A_t 1, eI cI 10 c_t_to), (A_t 2, eI cI 10 c_t_reading), (A_t 3, eI cI 10 c_t_miss), (A_t 4, eI cI 10 c_t_price), (A_t 5, eI cI 10 c_t_kind), (A_t 6, eI cI 10 c_t_length)] sz) 4 0 0 (MQ below (yQi D (yT cI cJ cZ cW cR) r [(h_t, oW A_t c_t_knots zc_t_flows zc_t_readSet), (A_t 0, eI cI 10 zc_t_from), (A_t 1, eI cI 10 zc_t_to), (A_t 2, eI cI 10 zc_t_reading), (A_t 3, eI cI 10 zc_t_miss), (A_t 4, eI cI 10 zc_t_price), (A_t 5, eI cI 10 zc_t_kind), (A_t 6, eI cI 10 zc_t_length)] (va_A [(h_t, oW A_t c_t_knots c_t_flows c_t_readSet), (A_t 0, eI cI 10 c_t_from), (A_t 1, eI cI 10 c_t_to), (A_t 2, eI cI 10 c_t_reading), (A_t 3, eI cI 10 c_t_miss), (A_t 4, eI cI 10 c_t_price), (A_t 5, eI cI 10 c_t_kind), (A_t 6, eI cI 10 c_t_length)] sz)) (List.toArray [.ref h_t, .int x1, .int x2]) s 0 0 (va_A [(h_t, oW A_t c_t_knots c_t_flows c_t_readSet), (A_t 0, eI cI 10 c_t_from), (A_t 1, eI cI 10 c_t_to), (A_t 2, eI cI 10 c_t_reading), (A_t 3, eI cI 10 c_t_miss), (A_t 4, eI cI 10 c_t_price), (A_t 5, eI cI 10 c_t_kind), (A_t 6, eI cI 10 c_t_length)] sz)) 0 [(0, .ref h_t), (1, .int x1), (2, .int x2)] [] [(h_t, oW A_t c_t_knots c_t_flows c_t_readSet), (A_t 0, eI cI 10 c_t_from), (A_t 1, eI cI 10 c_t_to), (A_t 2, eI cI 10 c_t_reading), (A_t 3, eI cI 10 c_t_miss), (A_t 4, eI cI 10 c_t_price), (A_t 5, eI cI 10 c_t_kind), (A_t 6, eI cI 10 c_t_length)]
  unfold fX3_addFlow at hf
  refine g_aload_n Γ 0 dX3_addFlow_0 rfl ?_
  refine g_get Γ fX3_addFlow_40 0 rfl rfl dX3_addFlow_1 ?_
  refine g_istore_n (lv' := [(3, .int c_t_flows), (0, .ref h_t), (1, .int x1), (2, .int x2)]) Γ dX3_addFlow_4 (by decide) rfl ?_
  refine g_aload_n Γ 1 dX3_addFlow_5 rfl ?_
  refine g_dup Γ dX3_addFlow_6 rfl ?_
  refine g_get Γ fX3_addFlow_40 0 rfl rfl dX3_addFlow_7 ?_
  refine g_iconst (v := 1) Γ dX3_addFlow_10 (by decide) ?_
  refine g_iadd Γ dX3_addFlow_11 ?_
  obtain ⟨v1, e2, hf⟩ := ya_lt_inv hf
  refine g_nmi e2 ?_
  refine g_put (ws' := [(h_t, oW A_t c_t_knots v1 c_t_readSet), (A_t 0, eI cI 10 c_t_from), (A_t 1, eI cI 10 c_t_to), (A_t 2, eI cI 10 c_t_reading), (A_t 3, eI cI 10 c_t_miss), (A_t 4, eI cI 10 c_t_price), (A_t 5, eI cI 10 c_t_kind), (A_t 6, eI cI 10 c_t_length)]) Γ fX3_addFlow_40 tyX3_ok nmX3 0 rfl rfl rfl rfl (Nat.le_of_ble_eq_true rfl) dX3_addFlow_12 rfl ?_
  refine g_aload_n Γ 1 dX3_addFlow_15 rfl ?_
  refine g_get Γ fX3_addFlow_9 0 rfl rfl dX3_addFlow_16 ?_
  refine g_iload_n Γ 0 dX3_addFlow_19 rfl ?_
  refine g_iload_n Γ 2 dX3_addFlow_20 rfl ?_
  obtain ⟨v3, e4, hf⟩ := ya_ob hf
  refine g_iast (ws' := [(h_t, oW A_t c_t_knots v1 c_t_readSet), (A_t 0, eI cI 10 v3), (A_t 1, eI cI 10 c_t_to), (A_t 2, eI cI 10 c_t_reading), (A_t 3, eI cI 10 c_t_miss), (A_t 4, eI cI 10 c_t_price), (A_t 5, eI cI 10 c_t_kind), (A_t 6, eI cI 10 c_t_length)]) Γ e4 1 0 rfl rfl dX3_addFlow_21 rfl ?_
  refine g_aload_n Γ 1 dX3_addFlow_22 rfl ?_
  refine g_get Γ fX3_addFlow_15 0 rfl rfl dX3_addFlow_23 ?_
  refine g_iload_n Γ 0 dX3_addFlow_26 rfl ?_
  refine g_iload_n Γ 3 dX3_addFlow_27 rfl ?_
  obtain ⟨v5, e6, hf⟩ := ya_ob hf
  refine g_iast (ws' := [(h_t, oW A_t c_t_knots v1 c_t_readSet), (A_t 0, eI cI 10 v3), (A_t 1, eI cI 10 v5), (A_t 2, eI cI 10 c_t_reading), (A_t 3, eI cI 10 c_t_miss), (A_t 4, eI cI 10 c_t_price), (A_t 5, eI cI 10 c_t_kind), (A_t 6, eI cI 10 c_t_length)]) Γ e6 2 0 rfl rfl dX3_addFlow_28 rfl ?_
  refine g_aload_n Γ 1 dX3_addFlow_29 rfl ?_
  refine g_iload_n Γ 0 dX3_addFlow_30 rfl ?_
  obtain ⟨⟨v7, v8⟩, e9, hf⟩ := ya_ob hf
  refine g_vv (q := (RX3, TX3, 11)) (wr := [(A_t 0, eI cI 10 v3), (A_t 1, eI cI 10 v5), (A_t 3, eI cI 10 c_t_miss), (A_t 4, eI cI 10 c_t_price), (A_t 5, eI cI 10 c_t_kind), (A_t 6, eI cI 10 c_t_length)]) (ws' := [(A_t 0, eI cI 10 v3), (A_t 1, eI cI 10 v5), (A_t 3, eI cI 10 c_t_miss), (A_t 4, eI cI 10 c_t_price), (A_t 5, eI cI 10 c_t_kind), (A_t 6, eI cI 10 c_t_length), (h_t, oW A_t c_t_knots v1 v7), (A_t 2, eI cI 10 v8)]) Γ (fun sz => mX3_dropReading (l := l) (D := D) (sz := sz) (cI := cI) (cJ := cJ) (cZ := cZ) (cW := cW) (cR := cR) (h_t := h_t) (A_t := A_t) (hf := e9)) eX3_dropReading gX3_addFlow_X3_dropReading rfl rfl 0 rfl rfl rfl (Nat.le_of_ble_eq_true rfl) ⟨Nat.le_of_ble_eq_true rfl, Nat.le_of_ble_eq_true rfl⟩ dX3_addFlow_31 [0, 3] [1, 2, 4, 5, 6, 7] rfl rfl rfl rfl (by decide) rfl ?_
  refine g_aload_n Γ 1 dX3_addFlow_34 rfl ?_
  refine g_get Γ fX3_addFlow_21 6 rfl rfl dX3_addFlow_35 ?_
  refine g_iload_n Γ 0 dX3_addFlow_38 rfl ?_
  refine g_iconst (v := 1) Γ dX3_addFlow_39 (by decide) ?_
  obtain ⟨v10, e11, hf⟩ := ya_ob hf
  refine g_iast (ws' := [(A_t 0, eI cI 10 v3), (A_t 1, eI cI 10 v5), (A_t 3, eI cI 10 v10), (A_t 4, eI cI 10 c_t_price), (A_t 5, eI cI 10 c_t_kind), (A_t 6, eI cI 10 c_t_length), (h_t, oW A_t c_t_knots v1 v7), (A_t 2, eI cI 10 v8)]) Γ e11 2 0 rfl rfl dX3_addFlow_40 rfl ?_
  refine g_aload_n Γ 1 dX3_addFlow_41 rfl ?_
  refine g_get Γ fX3_addFlow_24 6 rfl rfl dX3_addFlow_42 ?_
  refine g_iload_n Γ 0 dX3_addFlow_45 rfl ?_
  refine g_iconst (v := 1) Γ dX3_addFlow_46 (by decide) ?_
  obtain ⟨v12, e13, hf⟩ := ya_ob hf
  refine g_iast (ws' := [(A_t 0, eI cI 10 v3), (A_t 1, eI cI 10 v5), (A_t 3, eI cI 10 v10), (A_t 4, eI cI 10 v12), (A_t 5, eI cI 10 c_t_kind), (A_t 6, eI cI 10 c_t_length), (h_t, oW A_t c_t_knots v1 v7), (A_t 2, eI cI 10 v8)]) Γ e13 3 0 rfl rfl dX3_addFlow_47 rfl ?_
  refine g_aload_n Γ 1 dX3_addFlow_48 rfl ?_
  refine g_get Γ fX3_addFlow_27 6 rfl rfl dX3_addFlow_49 ?_
  refine g_iload_n Γ 0 dX3_addFlow_52 rfl ?_
  refine g_iconst (v := (-1)) Γ dX3_addFlow_53 (by decide) ?_
  obtain ⟨v14, e15, hf⟩ := ya_ob hf
  refine g_iast (ws' := [(A_t 0, eI cI 10 v3), (A_t 1, eI cI 10 v5), (A_t 3, eI cI 10 v10), (A_t 4, eI cI 10 v12), (A_t 5, eI cI 10 v14), (A_t 6, eI cI 10 c_t_length), (h_t, oW A_t c_t_knots v1 v7), (A_t 2, eI cI 10 v8)]) Γ e15 4 0 rfl rfl dX3_addFlow_54 rfl ?_
  refine g_aload_n Γ 1 dX3_addFlow_55 rfl ?_
  refine g_get Γ fX3_addFlow_30 6 rfl rfl dX3_addFlow_56 ?_
  refine g_iload_n Γ 0 dX3_addFlow_59 rfl ?_
  refine g_iconst (v := 0) Γ dX3_addFlow_60 (by decide) ?_
  obtain ⟨v16, e17, hf⟩ := ya_ob hf
  refine g_iast (ws' := [(A_t 0, eI cI 10 v3), (A_t 1, eI cI 10 v5), (A_t 3, eI cI 10 v10), (A_t 4, eI cI 10 v12), (A_t 5, eI cI 10 v14), (A_t 6, eI cI 10 v16), (h_t, oW A_t c_t_knots v1 v7), (A_t 2, eI cI 10 v8)]) Γ e17 5 0 rfl rfl dX3_addFlow_61 rfl ?_
  refine g_iload_n Γ 0 dX3_addFlow_62 rfl ?_
  cases hf
  exact g_iret Γ hr dX3_addFlow_63 [6, 0, 1, 7, 2, 3, 4, 5] rfl rfl

set_option maxRecDepth 20000 in
theorem ggX3_setReading_X4_bit : GoodIn wsX3_setReading wsX4_bit := goodIn_r _ [5] (by decide +kernel) (by decide +kernel)
set_option maxRecDepth 20000 in
theorem gX3_setReading_X4_bit_n56 : GoodIn wsX3_setReading (wsX4_bit) := ggX3_setReading_X4_bit
theorem dX3_setReading_0 : decode cX3_setReading 0 = .ok (.aload_n 0, 1) := by decide +kernel
theorem dX3_setReading_1 : decode cX3_setReading 1 = .ok (.dup, 1) := by decide +kernel
theorem dX3_setReading_2 : decode cX3_setReading 2 = .ok (.getfield 43, 3) := by decide +kernel
theorem dX3_setReading_5 : decode cX3_setReading 5 = .ok (.iload_n 1, 1) := by decide +kernel
theorem dX3_setReading_6 : decode cX3_setReading 6 = .ok (.invokestatic 56, 3) := by decide +kernel
theorem dX3_setReading_9 : decode cX3_setReading 9 = .ok (.ior, 1) := by decide +kernel
theorem dX3_setReading_10 : decode cX3_setReading 10 = .ok (.putfield 43, 3) := by decide +kernel
theorem dX3_setReading_13 : decode cX3_setReading 13 = .ok (.aload_n 0, 1) := by decide +kernel
theorem dX3_setReading_14 : decode cX3_setReading 14 = .ok (.getfield 18, 3) := by decide +kernel
theorem dX3_setReading_17 : decode cX3_setReading 17 = .ok (.iload_n 1, 1) := by decide +kernel
theorem dX3_setReading_18 : decode cX3_setReading 18 = .ok (.iload_n 2, 1) := by decide +kernel
theorem dX3_setReading_19 : decode cX3_setReading 19 = .ok (.iastore, 1) := by decide +kernel
theorem dX3_setReading_20 : decode cX3_setReading 20 = .ok (.return_, 1) := by decide +kernel
/-! ===== FlowMeters$Works.setReading(II)V ===== -/
def fX3_setReading (c_t_readSet : Int32) (c_t_reading : Nat → Int32) (x1 : Int32) (x2 : Int32) : Option (Int32 × (Nat → Int32)) :=
  (fX4_bit x1).bind fun v1 =>
  ya_lt (c_t_readSet ||| v1) fun v3 =>
  (ya_wr c_t_reading 10 x1 x2).bind fun v5 =>
  some (v3, v5)
theorem fX3_setReading_43 : yF wsX3_setReading RX3 43 3 2 RX3 TX3 11 := ⟨rfl, by decide, by decide +kernel, by decide +kernel⟩
theorem fX3_setReading_18 : yF wsX3_setReading RX3 18 3 5 RX3 TX3 11 := ⟨rfl, by decide, by decide +kernel, by decide +kernel⟩
abbrev rmX3_setReading : Room := { frames := 1, cells := 0, slots := 0, locals := 20 }
theorem eX3_setReading : yY yX3_setReading wsX3_setReading cX3_setReading 3 none rmX3_setReading 2 := ⟨⟨_, rfl⟩, rfl, rfl, by decide, by decide, by decide +kernel⟩
set_option maxHeartbeats 4000000 in
set_option maxRecDepth 100000 in
theorem mX3_setReading {l : Launch} {D : va_G} {sz : Nat} {cI cJ cZ cW cR : ClassId} {h_t : Nat} {A_t : Nat → Nat} {c_t_knots : Int32} {c_t_flows : Int32} {c_t_readSet : Int32} {c_t_reading : Nat → Int32} {x1 : Int32} {x2 : Int32} {zc_t_readSet : Int32} {zc_t_reading : Nat → Int32} (hf : fX3_setReading c_t_readSet c_t_reading x1 x2 = some (zc_t_readSet, zc_t_reading)) : Met l yX3_setReading wsX3_setReading rmX3_setReading (yP D (yT cI cJ cZ cW cR) [(h_t, oW A_t c_t_knots c_t_flows c_t_readSet), (A_t 2, eI cI 10 c_t_reading)] sz [.ref h_t, .int x1, .int x2]) (yQv D (yT cI cJ cZ cW cR) [(h_t, oW A_t c_t_knots c_t_flows zc_t_readSet), (A_t 2, eI cI 10 zc_t_reading)] (va_A [(h_t, oW A_t c_t_knots c_t_flows c_t_readSet), (A_t 2, eI cI 10 c_t_reading)] sz)) 0 0 (va_A [(h_t, oW A_t c_t_knots c_t_flows c_t_readSet), (A_t 2, eI cI 10 c_t_reading)] sz) := by
  refine yM (cc := cX3_setReading) (maxL := 3) (ret := none) RX3 (by decide) rfl rfl (Nat.le_of_ble_eq_true rfl) ?_
  intro p e s m below meth c Γ hr
  show yG p l e (headSpec wsX3_setReading rmX3_setReading).room s m (List.toArray [.ref h_t, .int x1, .int x2]) below meth c D (va_A [(h_t, oW A_t c_t_knots c_t_flows c_t_readSet), (A_t 2, eI cI 10 c_t_reading)] sz) 3 0 0 (MQ below (yQv D (yT cI cJ cZ cW cR) [(h_t, oW A_t c_t_knots c_t_flows zc_t_readSet), (A_t 2, eI cI 10 zc_t_reading)] (va_A [(h_t, oW A_t c_t_knots c_t_flows c_t_readSet), (A_t 2, eI cI 10 c_t_reading)] sz)) (List.toArray [.ref h_t, .int x1, .int x2]) s 0 0 (va_A [(h_t, oW A_t c_t_knots c_t_flows c_t_readSet), (A_t 2, eI cI 10 c_t_reading)] sz)) 0 [(0, .ref h_t), (1, .int x1), (2, .int x2)] [] [(h_t, oW A_t c_t_knots c_t_flows c_t_readSet), (A_t 2, eI cI 10 c_t_reading)]
  unfold fX3_setReading at hf
  refine g_aload_n Γ 0 dX3_setReading_0 rfl ?_
  refine g_dup Γ dX3_setReading_1 rfl ?_
  refine g_get Γ fX3_setReading_43 0 rfl rfl dX3_setReading_2 ?_
  refine g_iload_n Γ 1 dX3_setReading_5 rfl ?_
  obtain ⟨v1, e2, hf⟩ := ya_ob hf
  refine g_ni (wr := [(h_t, oW A_t c_t_knots c_t_flows c_t_readSet), (A_t 2, eI cI 10 c_t_reading)]) (ws' := [(h_t, oW A_t c_t_knots c_t_flows c_t_readSet), (A_t 2, eI cI 10 c_t_reading)]) Γ (fun sz => mX4_bit (l := l) (D := D) (sz := sz) (cI := cI) (cJ := cJ) (cZ := cZ) (cW := cW) (cR := cR)  (hf := e2)) eX4_bit ggX3_setReading_X4_bit (by decide +kernel) (by decide +kernel) (by decide +kernel) rfl rfl (Nat.le_of_ble_eq_true rfl) ⟨Nat.le_of_ble_eq_true rfl, Nat.le_of_ble_eq_true rfl⟩ dX3_setReading_6 [] [0, 1] rfl rfl rfl rfl (by decide) rfl ?_
  refine g_ior Γ dX3_setReading_9 ?_
  obtain ⟨v3, e4, hf⟩ := ya_lt_inv hf
  refine g_nmi e4 ?_
  refine g_put (ws' := [(h_t, oW A_t c_t_knots c_t_flows v3), (A_t 2, eI cI 10 c_t_reading)]) Γ fX3_setReading_43 tyX3_ok nmX3 0 rfl rfl rfl rfl (Nat.le_of_ble_eq_true rfl) dX3_setReading_10 rfl ?_
  refine g_aload_n Γ 0 dX3_setReading_13 rfl ?_
  refine g_get Γ fX3_setReading_18 0 rfl rfl dX3_setReading_14 ?_
  refine g_iload_n Γ 1 dX3_setReading_17 rfl ?_
  refine g_iload_n Γ 2 dX3_setReading_18 rfl ?_
  obtain ⟨v5, e6, hf⟩ := ya_ob hf
  refine g_iast (ws' := [(h_t, oW A_t c_t_knots c_t_flows v3), (A_t 2, eI cI 10 v5)]) Γ e6 1 0 rfl rfl dX3_setReading_19 rfl ?_
  cases hf
  exact g_vret Γ hr dX3_setReading_20 [0, 1] rfl rfl

set_option maxRecDepth 20000 in
theorem ggX3_unreadSet_X3_allSet : GoodIn wsX3_unreadSet wsX3_allSet := goodIn_r _ [6, 7, 8, 9, 10, 11, 12, 13, 14, 15, 16, 17, 18, 19, 20, 21] (by decide +kernel) (by decide +kernel)
set_option maxRecDepth 20000 in
theorem gX3_unreadSet_X3_allSet : GoodIn wsX3_unreadSet (wsV RX3 60 RX3 yX3_allSet wsX3_allSet) := goodIn_app (goodIn_of _ (by decide +kernel)) ggX3_unreadSet_X3_allSet
theorem dX3_unreadSet_0 : decode cX3_unreadSet 0 = .ok (.aload_n 0, 1) := by decide +kernel
theorem dX3_unreadSet_1 : decode cX3_unreadSet 1 = .ok (.invokevirtual 60, 3) := by decide +kernel
theorem dX3_unreadSet_4 : decode cX3_unreadSet 4 = .ok (.aload_n 0, 1) := by decide +kernel
theorem dX3_unreadSet_5 : decode cX3_unreadSet 5 = .ok (.getfield 43, 3) := by decide +kernel
theorem dX3_unreadSet_8 : decode cX3_unreadSet 8 = .ok (.iconst (-1), 1) := by decide +kernel
theorem dX3_unreadSet_9 : decode cX3_unreadSet 9 = .ok (.ixor, 1) := by decide +kernel
theorem dX3_unreadSet_10 : decode cX3_unreadSet 10 = .ok (.iand, 1) := by decide +kernel
theorem dX3_unreadSet_11 : decode cX3_unreadSet 11 = .ok (.ireturn, 1) := by decide +kernel
/-! ===== FlowMeters$Works.unreadSet()I ===== -/
def fX3_unreadSet (c_t_flows : Int32) (c_t_readSet : Int32)  : Option (Int32) :=
  (fX3_allSet c_t_flows).bind fun v1 =>
  some (v1 &&& (c_t_readSet ^^^ (-1)))
theorem fX3_unreadSet_43 : yF wsX3_unreadSet RX3 43 3 2 RX3 TX3 11 := ⟨rfl, by decide, by decide +kernel, by decide +kernel⟩
abbrev rmX3_unreadSet : Room := { frames := 2, cells := 0, slots := 0, locals := 40 }
theorem eX3_unreadSet : yY yX3_unreadSet wsX3_unreadSet cX3_unreadSet 1 (some .int) rmX3_unreadSet 0 := ⟨⟨_, rfl⟩, rfl, rfl, by decide, by decide, by decide +kernel⟩
set_option maxHeartbeats 4000000 in
set_option maxRecDepth 100000 in
theorem mX3_unreadSet {l : Launch} {D : va_G} {sz : Nat} {cI cJ cZ cW cR : ClassId} {h_t : Nat} {A_t : Nat → Nat} {c_t_knots : Int32} {c_t_flows : Int32} {c_t_readSet : Int32} {r : Int32} (hf : fX3_unreadSet c_t_flows c_t_readSet = some r) : Met l yX3_unreadSet wsX3_unreadSet rmX3_unreadSet (yP D (yT cI cJ cZ cW cR) [(h_t, oW A_t c_t_knots c_t_flows c_t_readSet)] sz [.ref h_t]) (yQi D (yT cI cJ cZ cW cR) r [(h_t, oW A_t c_t_knots c_t_flows c_t_readSet)] (va_A [(h_t, oW A_t c_t_knots c_t_flows c_t_readSet)] sz)) 0 0 (va_A [(h_t, oW A_t c_t_knots c_t_flows c_t_readSet)] sz) := by
  refine yM (cc := cX3_unreadSet) (maxL := 1) (ret := (some .int)) RX3 (by decide) rfl rfl (Nat.le_of_ble_eq_true rfl) ?_
  intro p e s m below meth c Γ hr
  show yG p l e (headSpec wsX3_unreadSet rmX3_unreadSet).room s m (List.toArray [.ref h_t]) below meth c D (va_A [(h_t, oW A_t c_t_knots c_t_flows c_t_readSet)] sz) 1 0 0 (MQ below (yQi D (yT cI cJ cZ cW cR) r [(h_t, oW A_t c_t_knots c_t_flows c_t_readSet)] (va_A [(h_t, oW A_t c_t_knots c_t_flows c_t_readSet)] sz)) (List.toArray [.ref h_t]) s 0 0 (va_A [(h_t, oW A_t c_t_knots c_t_flows c_t_readSet)] sz)) 0 [(0, .ref h_t)] [] [(h_t, oW A_t c_t_knots c_t_flows c_t_readSet)]
  unfold fX3_unreadSet at hf
  refine g_aload_n Γ 0 dX3_unreadSet_0 rfl ?_
  obtain ⟨v1, e2, hf⟩ := ya_ob hf
  refine g_vi (q := (RX3, TX3, 11)) (wr := []) (ws' := [(h_t, oW A_t c_t_knots c_t_flows c_t_readSet)]) Γ (fun sz => mX3_allSet (l := l) (D := D) (sz := sz) (cI := cI) (cJ := cJ) (cZ := cZ) (cW := cW) (cR := cR) (h_t := h_t) (A_t := A_t) (hf := e2)) eX3_allSet gX3_unreadSet_X3_allSet rfl rfl 0 rfl rfl rfl (Nat.le_of_ble_eq_true rfl) ⟨Nat.le_of_ble_eq_true rfl, Nat.le_of_ble_eq_true rfl⟩ dX3_unreadSet_1 [0] [] rfl rfl rfl rfl (by decide) rfl ?_
  refine g_aload_n Γ 0 dX3_unreadSet_4 rfl ?_
  refine g_get Γ fX3_unreadSet_43 0 rfl rfl dX3_unreadSet_5 ?_
  refine g_iconst (v := (-1)) Γ dX3_unreadSet_8 (by decide) ?_
  refine g_ixor Γ dX3_unreadSet_9 ?_
  refine g_iand Γ dX3_unreadSet_10 ?_
  cases hf
  exact g_iret Γ hr dX3_unreadSet_11 [0] rfl rfl

set_option maxRecDepth 20000 in
theorem ggX3_priceOfSet_X4_holds : GoodIn wsX3_priceOfSet wsX4_holds := goodIn_r _ [5] (by decide +kernel) (by decide +kernel)
set_option maxRecDepth 20000 in
theorem gX3_priceOfSet_X4_holds_n64 : GoodIn wsX3_priceOfSet (wsX4_holds) := ggX3_priceOfSet_X4_holds
theorem dX3_priceOfSet_0 : decode cX3_priceOfSet 0 = .ok (.iconst 0, 1) := by decide +kernel
theorem dX3_priceOfSet_1 : decode cX3_priceOfSet 1 = .ok (.istore_n 2, 1) := by decide +kernel
theorem dX3_priceOfSet_2 : decode cX3_priceOfSet 2 = .ok (.iconst 0, 1) := by decide +kernel
theorem dX3_priceOfSet_3 : decode cX3_priceOfSet 3 = .ok (.istore_n 3, 1) := by decide +kernel
theorem dX3_priceOfSet_4 : decode cX3_priceOfSet 4 = .ok (.iload_n 3, 1) := by decide +kernel
theorem dX3_priceOfSet_5 : decode cX3_priceOfSet 5 = .ok (.aload_n 0, 1) := by decide +kernel
theorem dX3_priceOfSet_6 : decode cX3_priceOfSet 6 = .ok (.getfield 40, 3) := by decide +kernel
theorem dX3_priceOfSet_9 : decode cX3_priceOfSet 9 = .ok (.if_icmp .ge 26, 3) := by decide +kernel
theorem dX3_priceOfSet_12 : decode cX3_priceOfSet 12 = .ok (.iload_n 1, 1) := by decide +kernel
theorem dX3_priceOfSet_13 : decode cX3_priceOfSet 13 = .ok (.iload_n 3, 1) := by decide +kernel
theorem dX3_priceOfSet_14 : decode cX3_priceOfSet 14 = .ok (.invokestatic 64, 3) := by decide +kernel
theorem dX3_priceOfSet_17 : decode cX3_priceOfSet 17 = .ok (.ifCond .eq 12, 3) := by decide +kernel
theorem dX3_priceOfSet_20 : decode cX3_priceOfSet 20 = .ok (.iload_n 2, 1) := by decide +kernel
theorem dX3_priceOfSet_21 : decode cX3_priceOfSet 21 = .ok (.aload_n 0, 1) := by decide +kernel
theorem dX3_priceOfSet_22 : decode cX3_priceOfSet 22 = .ok (.getfield 24, 3) := by decide +kernel
theorem dX3_priceOfSet_25 : decode cX3_priceOfSet 25 = .ok (.iload_n 3, 1) := by decide +kernel
theorem dX3_priceOfSet_26 : decode cX3_priceOfSet 26 = .ok (.iaload, 1) := by decide +kernel
theorem dX3_priceOfSet_27 : decode cX3_priceOfSet 27 = .ok (.iadd, 1) := by decide +kernel
theorem dX3_priceOfSet_28 : decode cX3_priceOfSet 28 = .ok (.istore_n 2, 1) := by decide +kernel
theorem dX3_priceOfSet_29 : decode cX3_priceOfSet 29 = .ok (.iinc 3 1, 3) := by decide +kernel
theorem dX3_priceOfSet_32 : decode cX3_priceOfSet 32 = .ok (.goto (-28), 3) := by decide +kernel
theorem dX3_priceOfSet_35 : decode cX3_priceOfSet 35 = .ok (.iload_n 2, 1) := by decide +kernel
theorem dX3_priceOfSet_36 : decode cX3_priceOfSet 36 = .ok (.ireturn, 1) := by decide +kernel
/-! ===== FlowMeters$Works.priceOfSet(I)I ===== -/
def fX3_priceOfSet_L4 (N : Nat) (n : Nat) (y1 : Int32) (y2 : Int32) (y3 : Int32) (d_t_flows : Int32) (d_t_price : Nat → Int32) : Option (Int32) := match n with
  | 0 => none
  | n + 1 =>
    (if d_t_flows ≤ y3 then
        some y2
      else
        (fX4_holds y1 y3).bind fun v2 =>
        (if v2 = 0 then
          ya_lt (y3 + 1) fun v5 =>
          fX3_priceOfSet_L4 N n y1 y2 v5 d_t_flows d_t_price
        else
          (ya_rd d_t_price 10 y3).bind fun v7 =>
          ya_lt (y2 + v7) fun v9 =>
          ya_lt (y3 + 1) fun v11 =>
          fX3_priceOfSet_L4 N n y1 v9 v11 d_t_flows d_t_price))
def fX3_priceOfSet (N : Nat) (c_t_flows : Int32) (c_t_price : Nat → Int32) (x1 : Int32) : Option (Int32) :=
  (fX3_priceOfSet_L4 N N x1 0 0 c_t_flows c_t_price).bind fun v13 =>
  some v13
theorem fX3_priceOfSet_40 : yF wsX3_priceOfSet RX3 40 3 1 RX3 TX3 11 := ⟨rfl, by decide, by decide +kernel, by decide +kernel⟩
theorem fX3_priceOfSet_24 : yF wsX3_priceOfSet RX3 24 3 7 RX3 TX3 11 := ⟨rfl, by decide, by decide +kernel, by decide +kernel⟩
abbrev rmX3_priceOfSet : Room := { frames := 1, cells := 0, slots := 0, locals := 21 }
theorem eX3_priceOfSet : yY yX3_priceOfSet wsX3_priceOfSet cX3_priceOfSet 4 (some .int) rmX3_priceOfSet 1 := ⟨⟨_, rfl⟩, rfl, rfl, by decide, by decide, by decide +kernel⟩
set_option maxHeartbeats 4000000 in
set_option maxRecDepth 100000 in
theorem mX3_priceOfSet {l : Launch} {D : va_G} {sz : Nat} {cI cJ cZ cW cR : ClassId} {N : Nat} {h_t : Nat} {A_t : Nat → Nat} {c_t_knots : Int32} {c_t_flows : Int32} {c_t_readSet : Int32} {c_t_price : Nat → Int32} {x1 : Int32} {r : Int32} (hf : fX3_priceOfSet N c_t_flows c_t_price x1 = some r) : Met l yX3_priceOfSet wsX3_priceOfSet rmX3_priceOfSet (yP D (yT cI cJ cZ cW cR) [(h_t, oW A_t c_t_knots c_t_flows c_t_readSet), (A_t 4, eI cI 10 c_t_price)] sz [.ref h_t, .int x1]) (yQi D (yT cI cJ cZ cW cR) r [(h_t, oW A_t c_t_knots c_t_flows c_t_readSet), (A_t 4, eI cI 10 c_t_price)] (va_A [(h_t, oW A_t c_t_knots c_t_flows c_t_readSet), (A_t 4, eI cI 10 c_t_price)] sz)) 0 0 (va_A [(h_t, oW A_t c_t_knots c_t_flows c_t_readSet), (A_t 4, eI cI 10 c_t_price)] sz) := by
  refine yM (cc := cX3_priceOfSet) (maxL := 4) (ret := (some .int)) RX3 (by decide) rfl rfl (Nat.le_of_ble_eq_true rfl) ?_
  intro p e s m below meth c Γ hr
  have loop4 : ∀ (n : Nat) (y1 : Int32) (y2 : Int32) (y3 : Int32) (d_t_knots : Int32) (d_t_flows : Int32) (d_t_readSet : Int32) (d_t_price : Nat → Int32) (w0 : Int32), fX3_priceOfSet_L4 N n y1 y2 y3 d_t_flows d_t_price = some w0 → yG p l e (headSpec wsX3_priceOfSet rmX3_priceOfSet).room s m (List.toArray [.ref h_t, .int x1]) below meth c D (va_A [(h_t, oW A_t c_t_knots c_t_flows c_t_readSet), (A_t 4, eI cI 10 c_t_price)] sz) 4 0 0 (MQ below (yQi D (yT cI cJ cZ cW cR) r [(h_t, oW A_t c_t_knots c_t_flows c_t_readSet), (A_t 4, eI cI 10 c_t_price)] (va_A [(h_t, oW A_t c_t_knots c_t_flows c_t_readSet), (A_t 4, eI cI 10 c_t_price)] sz)) (List.toArray [.ref h_t, .int x1]) s 0 0 (va_A [(h_t, oW A_t c_t_knots c_t_flows c_t_readSet), (A_t 4, eI cI 10 c_t_price)] sz)) 35 [(2, .int w0)] [] [(h_t, oW A_t d_t_knots d_t_flows d_t_readSet), (A_t 4, eI cI 10 d_t_price)] → yG p l e (headSpec wsX3_priceOfSet rmX3_priceOfSet).room s m (List.toArray [.ref h_t, .int x1]) below meth c D (va_A [(h_t, oW A_t c_t_knots c_t_flows c_t_readSet), (A_t 4, eI cI 10 c_t_price)] sz) 4 0 0 (MQ below (yQi D (yT cI cJ cZ cW cR) r [(h_t, oW A_t c_t_knots c_t_flows c_t_readSet), (A_t 4, eI cI 10 c_t_price)] (va_A [(h_t, oW A_t c_t_knots c_t_flows c_t_readSet), (A_t 4, eI cI 10 c_t_price)] sz)) (List.toArray [.ref h_t, .int x1]) s 0 0 (va_A [(h_t, oW A_t c_t_knots c_t_flows c_t_readSet), (A_t 4, eI cI 10 c_t_price)] sz)) 4 [(0, .ref h_t), (1, .int y1), (2, .int y2), (3, .int y3)] [] [(h_t, oW A_t d_t_knots d_t_flows d_t_readSet), (A_t 4, eI cI 10 d_t_price)] := by
    intro n
    induction n with
    | zero =>
      intro y1 y2 y3 d_t_knots d_t_flows d_t_readSet d_t_price w0 hf
      cases hf
    | succ n ih =>
      intro y1 y2 y3 d_t_knots d_t_flows d_t_readSet d_t_price w0 hf hk
      unfold fX3_priceOfSet_L4 at hf
      refine g_iload_n Γ 3 dX3_priceOfSet_4 rfl ?_
      refine g_aload_n Γ 0 dX3_priceOfSet_5 rfl ?_
      refine g_get Γ fX3_priceOfSet_40 0 rfl rfl dX3_priceOfSet_6 ?_
      refine g_icmp_ge Γ 35 dX3_priceOfSet_9 (by decide) (fun c1 => ?_) (fun c1 => ?_)
      · have hf := ya_if1 c1 hf
        cases hf
        refine g_lv [2] rfl ?_
        exact hk
      · have hf := ya_if2 c1 hf
        refine g_iload_n Γ 1 dX3_priceOfSet_12 rfl ?_
        refine g_iload_n Γ 3 dX3_priceOfSet_13 rfl ?_
        obtain ⟨v2, e3, hf⟩ := ya_ob hf
        refine g_ni (wr := [(h_t, oW A_t d_t_knots d_t_flows d_t_readSet), (A_t 4, eI cI 10 d_t_price)]) (ws' := [(h_t, oW A_t d_t_knots d_t_flows d_t_readSet), (A_t 4, eI cI 10 d_t_price)]) Γ (fun sz => mX4_holds (l := l) (D := D) (sz := sz) (cI := cI) (cJ := cJ) (cZ := cZ) (cW := cW) (cR := cR)  (hf := e3)) eX4_holds ggX3_priceOfSet_X4_holds (by decide +kernel) (by decide +kernel) (by decide +kernel) rfl rfl (Nat.le_of_ble_eq_true rfl) ⟨Nat.le_of_ble_eq_true rfl, Nat.le_of_ble_eq_true rfl⟩ dX3_priceOfSet_14 [] [0, 1] rfl rfl rfl rfl (by decide) rfl ?_
        refine g_if_eq Γ 29 dX3_priceOfSet_17 (by decide) (fun c4 => ?_) (fun c4 => ?_)
        · have hf := ya_if1 c4 hf
          obtain ⟨v5, e6, hf⟩ := ya_lt_inv hf
          refine g_iinc (lv' := [(3, .int v5), (0, .ref h_t), (1, .int y1), (2, .int y2)]) Γ 3 dX3_priceOfSet_29 rfl (by rw [e6]; rfl) (by decide) rfl ?_
          refine g_goto Γ 4 dX3_priceOfSet_32 (by decide) ?_
          refine g_lv [1, 2, 3, 0] rfl ?_
          exact ih _ _ _ _ _ _ _ _ hf hk
        · have hf := ya_if2 c4 hf
          refine g_iload_n Γ 2 dX3_priceOfSet_20 rfl ?_
          refine g_aload_n Γ 0 dX3_priceOfSet_21 rfl ?_
          refine g_get Γ fX3_priceOfSet_24 0 rfl rfl dX3_priceOfSet_22 ?_
          refine g_iload_n Γ 3 dX3_priceOfSet_25 rfl ?_
          obtain ⟨v7, e8, hf⟩ := ya_ob hf
          refine g_iald Γ e8 1 0 rfl rfl dX3_priceOfSet_26 ?_
          refine g_iadd Γ dX3_priceOfSet_27 ?_
          obtain ⟨v9, e10, hf⟩ := ya_lt_inv hf
          refine g_nmi e10 ?_
          refine g_istore_n (lv' := [(2, .int v9), (0, .ref h_t), (1, .int y1), (3, .int y3)]) Γ dX3_priceOfSet_28 (by decide) rfl ?_
          obtain ⟨v11, e12, hf⟩ := ya_lt_inv hf
          refine g_iinc (lv' := [(3, .int v11), (2, .int v9), (0, .ref h_t), (1, .int y1)]) Γ 3 dX3_priceOfSet_29 rfl (by rw [e12]; rfl) (by decide) rfl ?_
          refine g_goto Γ 4 dX3_priceOfSet_32 (by decide) ?_
          refine g_lv [2, 3, 1, 0] rfl ?_
          exact ih _ _ _ _ _ _ _ _ hf hk
  show yG p l e (headSpec wsX3_priceOfSet rmX3_priceOfSet).room s m (List.toArray [.ref h_t, .int x1]) below meth c D (va_A [(h_t, oW A_t c_t_knots c_t_flows c_t_readSet), (A_t 4, eI cI 10 c_t_price)] sz) 4 0 0 (MQ below (yQi D (yT cI cJ cZ cW cR) r [(h_t, oW A_t c_t_knots c_t_flows c_t_readSet), (A_t 4, eI cI 10 c_t_price)] (va_A [(h_t, oW A_t c_t_knots c_t_flows c_t_readSet), (A_t 4, eI cI 10 c_t_price)] sz)) (List.toArray [.ref h_t, .int x1]) s 0 0 (va_A [(h_t, oW A_t c_t_knots c_t_flows c_t_readSet), (A_t 4, eI cI 10 c_t_price)] sz)) 0 [(0, .ref h_t), (1, .int x1)] [] [(h_t, oW A_t c_t_knots c_t_flows c_t_readSet), (A_t 4, eI cI 10 c_t_price)]
  unfold fX3_priceOfSet at hf
  refine g_iconst (v := 0) Γ dX3_priceOfSet_0 (by decide) ?_
  refine g_istore_n (lv' := [(2, .int 0), (0, .ref h_t), (1, .int x1)]) Γ dX3_priceOfSet_1 (by decide) rfl ?_
  refine g_iconst (v := 0) Γ dX3_priceOfSet_2 (by decide) ?_
  refine g_istore_n (lv' := [(3, .int 0), (2, .int 0), (0, .ref h_t), (1, .int x1)]) Γ dX3_priceOfSet_3 (by decide) rfl ?_
  obtain ⟨v13, e14, hf⟩ := ya_ob hf
  refine g_lv [2, 3, 1, 0] rfl ?_
  refine loop4 N _ _ _ _ _ _ _ _ e14  ?_
  refine g_iload_n Γ 0 dX3_priceOfSet_35 rfl ?_
  cases hf
  exact g_iret Γ hr dX3_priceOfSet_36 [0, 1] rfl rfl

theorem dX3_putBytes_0 : decode cX3_putBytes 0 = .ok (.iload_n 1, 1) := by decide +kernel
theorem dX3_putBytes_1 : decode cX3_putBytes 1 = .ok (.bipush 16, 2) := by decide +kernel
theorem dX3_putBytes_3 : decode cX3_putBytes 3 = .ok (.imul, 1) := by decide +kernel
theorem dX3_putBytes_4 : decode cX3_putBytes 4 = .ok (.iload_n 2, 1) := by decide +kernel
theorem dX3_putBytes_5 : decode cX3_putBytes 5 = .ok (.iadd, 1) := by decide +kernel
theorem dX3_putBytes_6 : decode cX3_putBytes 6 = .ok (.istore 4, 2) := by decide +kernel
theorem dX3_putBytes_8 : decode cX3_putBytes 8 = .ok (.aload_n 0, 1) := by decide +kernel
theorem dX3_putBytes_9 : decode cX3_putBytes 9 = .ok (.getfield 33, 3) := by decide +kernel
theorem dX3_putBytes_12 : decode cX3_putBytes 12 = .ok (.iload 4, 2) := by decide +kernel
theorem dX3_putBytes_14 : decode cX3_putBytes 14 = .ok (.iload_n 3, 1) := by decide +kernel
theorem dX3_putBytes_15 : decode cX3_putBytes 15 = .ok (.bipush 24, 2) := by decide +kernel
theorem dX3_putBytes_17 : decode cX3_putBytes 17 = .ok (.ishr, 1) := by decide +kernel
theorem dX3_putBytes_18 : decode cX3_putBytes 18 = .ok (.iastore, 1) := by decide +kernel
theorem dX3_putBytes_19 : decode cX3_putBytes 19 = .ok (.aload_n 0, 1) := by decide +kernel
theorem dX3_putBytes_20 : decode cX3_putBytes 20 = .ok (.getfield 33, 3) := by decide +kernel
theorem dX3_putBytes_23 : decode cX3_putBytes 23 = .ok (.iload 4, 2) := by decide +kernel
theorem dX3_putBytes_25 : decode cX3_putBytes 25 = .ok (.iconst 1, 1) := by decide +kernel
theorem dX3_putBytes_26 : decode cX3_putBytes 26 = .ok (.iadd, 1) := by decide +kernel
theorem dX3_putBytes_27 : decode cX3_putBytes 27 = .ok (.iload_n 3, 1) := by decide +kernel
theorem dX3_putBytes_28 : decode cX3_putBytes 28 = .ok (.bipush 8, 2) := by decide +kernel
theorem dX3_putBytes_30 : decode cX3_putBytes 30 = .ok (.ishl, 1) := by decide +kernel
theorem dX3_putBytes_31 : decode cX3_putBytes 31 = .ok (.bipush 24, 2) := by decide +kernel
theorem dX3_putBytes_33 : decode cX3_putBytes 33 = .ok (.ishr, 1) := by decide +kernel
theorem dX3_putBytes_34 : decode cX3_putBytes 34 = .ok (.iastore, 1) := by decide +kernel
theorem dX3_putBytes_35 : decode cX3_putBytes 35 = .ok (.aload_n 0, 1) := by decide +kernel
theorem dX3_putBytes_36 : decode cX3_putBytes 36 = .ok (.getfield 33, 3) := by decide +kernel
theorem dX3_putBytes_39 : decode cX3_putBytes 39 = .ok (.iload 4, 2) := by decide +kernel
theorem dX3_putBytes_41 : decode cX3_putBytes 41 = .ok (.iconst 2, 1) := by decide +kernel
theorem dX3_putBytes_42 : decode cX3_putBytes 42 = .ok (.iadd, 1) := by decide +kernel
theorem dX3_putBytes_43 : decode cX3_putBytes 43 = .ok (.iload_n 3, 1) := by decide +kernel
theorem dX3_putBytes_44 : decode cX3_putBytes 44 = .ok (.bipush 16, 2) := by decide +kernel
theorem dX3_putBytes_46 : decode cX3_putBytes 46 = .ok (.ishl, 1) := by decide +kernel
theorem dX3_putBytes_47 : decode cX3_putBytes 47 = .ok (.bipush 24, 2) := by decide +kernel
theorem dX3_putBytes_49 : decode cX3_putBytes 49 = .ok (.ishr, 1) := by decide +kernel
theorem dX3_putBytes_50 : decode cX3_putBytes 50 = .ok (.iastore, 1) := by decide +kernel
theorem dX3_putBytes_51 : decode cX3_putBytes 51 = .ok (.aload_n 0, 1) := by decide +kernel
theorem dX3_putBytes_52 : decode cX3_putBytes 52 = .ok (.getfield 33, 3) := by decide +kernel
theorem dX3_putBytes_55 : decode cX3_putBytes 55 = .ok (.iload 4, 2) := by decide +kernel
theorem dX3_putBytes_57 : decode cX3_putBytes 57 = .ok (.iconst 3, 1) := by decide +kernel
theorem dX3_putBytes_58 : decode cX3_putBytes 58 = .ok (.iadd, 1) := by decide +kernel
theorem dX3_putBytes_59 : decode cX3_putBytes 59 = .ok (.iload_n 3, 1) := by decide +kernel
theorem dX3_putBytes_60 : decode cX3_putBytes 60 = .ok (.bipush 24, 2) := by decide +kernel
theorem dX3_putBytes_62 : decode cX3_putBytes 62 = .ok (.ishl, 1) := by decide +kernel
theorem dX3_putBytes_63 : decode cX3_putBytes 63 = .ok (.bipush 24, 2) := by decide +kernel
theorem dX3_putBytes_65 : decode cX3_putBytes 65 = .ok (.ishr, 1) := by decide +kernel
theorem dX3_putBytes_66 : decode cX3_putBytes 66 = .ok (.iastore, 1) := by decide +kernel
theorem dX3_putBytes_67 : decode cX3_putBytes 67 = .ok (.return_, 1) := by decide +kernel
/-! ===== FlowMeters$Works.putBytes(III)V ===== -/
def fX3_putBytes (c_t_bytes : Nat → Int32) (x1 : Int32) (x2 : Int32) (x3 : Int32) : Option (Nat → Int32) :=
  ya_lt ((x1 * 16) + x2) fun v1 =>
  (ya_wr c_t_bytes 160 v1 (x3 >>> (24 &&& 31))).bind fun v3 =>
  (ya_wr v3 160 (v1 + 1) ((x3 <<< (8 &&& 31)) >>> (24 &&& 31))).bind fun v5 =>
  (ya_wr v5 160 (v1 + 2) ((x3 <<< (16 &&& 31)) >>> (24 &&& 31))).bind fun v7 =>
  (ya_wr v7 160 (v1 + 3) ((x3 <<< (24 &&& 31)) >>> (24 &&& 31))).bind fun v9 =>
  some v9
theorem fX3_putBytes_33 : yF wsX3_putBytes RX3 33 3 10 RX3 TX3 11 := ⟨rfl, by decide, by decide +kernel, by decide +kernel⟩
abbrev rmX3_putBytes : Room := { frames := 0, cells := 0, slots := 0, locals := 0 }
theorem eX3_putBytes : yY yX3_putBytes wsX3_putBytes cX3_putBytes 5 none rmX3_putBytes 3 := ⟨⟨_, rfl⟩, rfl, rfl, by decide, by decide, by decide +kernel⟩
set_option maxHeartbeats 4000000 in
set_option maxRecDepth 100000 in
theorem mX3_putBytes {l : Launch} {D : va_G} {sz : Nat} {cI cJ cZ cW cR : ClassId} {h_t : Nat} {A_t : Nat → Nat} {c_t_knots : Int32} {c_t_flows : Int32} {c_t_readSet : Int32} {c_t_bytes : Nat → Int32} {x1 : Int32} {x2 : Int32} {x3 : Int32} {zc_t_bytes : Nat → Int32} (hf : fX3_putBytes c_t_bytes x1 x2 x3 = some zc_t_bytes) : Met l yX3_putBytes wsX3_putBytes rmX3_putBytes (yP D (yT cI cJ cZ cW cR) [(h_t, oW A_t c_t_knots c_t_flows c_t_readSet), (A_t 7, eI cI 160 c_t_bytes)] sz [.ref h_t, .int x1, .int x2, .int x3]) (yQv D (yT cI cJ cZ cW cR) [(h_t, oW A_t c_t_knots c_t_flows c_t_readSet), (A_t 7, eI cI 160 zc_t_bytes)] (va_A [(h_t, oW A_t c_t_knots c_t_flows c_t_readSet), (A_t 7, eI cI 160 c_t_bytes)] sz)) 0 0 (va_A [(h_t, oW A_t c_t_knots c_t_flows c_t_readSet), (A_t 7, eI cI 160 c_t_bytes)] sz) := by
  refine yM (cc := cX3_putBytes) (maxL := 5) (ret := none) RX3 (by decide) rfl rfl (Nat.le_of_ble_eq_true rfl) ?_
  intro p e s m below meth c Γ hr
  show yG p l e (headSpec wsX3_putBytes rmX3_putBytes).room s m (List.toArray [.ref h_t, .int x1, .int x2, .int x3]) below meth c D (va_A [(h_t, oW A_t c_t_knots c_t_flows c_t_readSet), (A_t 7, eI cI 160 c_t_bytes)] sz) 5 0 0 (MQ below (yQv D (yT cI cJ cZ cW cR) [(h_t, oW A_t c_t_knots c_t_flows c_t_readSet), (A_t 7, eI cI 160 zc_t_bytes)] (va_A [(h_t, oW A_t c_t_knots c_t_flows c_t_readSet), (A_t 7, eI cI 160 c_t_bytes)] sz)) (List.toArray [.ref h_t, .int x1, .int x2, .int x3]) s 0 0 (va_A [(h_t, oW A_t c_t_knots c_t_flows c_t_readSet), (A_t 7, eI cI 160 c_t_bytes)] sz)) 0 [(0, .ref h_t), (1, .int x1), (2, .int x2), (3, .int x3)] [] [(h_t, oW A_t c_t_knots c_t_flows c_t_readSet), (A_t 7, eI cI 160 c_t_bytes)]
  unfold fX3_putBytes at hf
  refine g_iload_n Γ 1 dX3_putBytes_0 rfl ?_
  refine g_bipush (v := 16) Γ dX3_putBytes_1 (by decide) ?_
  refine g_imul Γ dX3_putBytes_3 ?_
  refine g_iload_n Γ 2 dX3_putBytes_4 rfl ?_
  refine g_iadd Γ dX3_putBytes_5 ?_
  obtain ⟨v1, e2, hf⟩ := ya_lt_inv hf
  refine g_nmi e2 ?_
  refine g_istore (lv' := [(4, .int v1), (0, .ref h_t), (1, .int x1), (2, .int x2), (3, .int x3)]) Γ dX3_putBytes_6 (by decide) rfl ?_
  refine g_aload_n Γ 1 dX3_putBytes_8 rfl ?_
  refine g_get Γ fX3_putBytes_33 0 rfl rfl dX3_putBytes_9 ?_
  refine g_iload Γ 0 dX3_putBytes_12 rfl ?_
  refine g_iload_n Γ 4 dX3_putBytes_14 rfl ?_
  refine g_bipush (v := 24) Γ dX3_putBytes_15 (by decide) ?_
  refine g_ishr Γ dX3_putBytes_17 ?_
  obtain ⟨v3, e4, hf⟩ := ya_ob hf
  refine g_iast (ws' := [(h_t, oW A_t c_t_knots c_t_flows c_t_readSet), (A_t 7, eI cI 160 v3)]) Γ e4 1 0 rfl rfl dX3_putBytes_18 rfl ?_
  refine g_aload_n Γ 1 dX3_putBytes_19 rfl ?_
  refine g_get Γ fX3_putBytes_33 0 rfl rfl dX3_putBytes_20 ?_
  refine g_iload Γ 0 dX3_putBytes_23 rfl ?_
  refine g_iconst (v := 1) Γ dX3_putBytes_25 (by decide) ?_
  refine g_iadd Γ dX3_putBytes_26 ?_
  refine g_iload_n Γ 4 dX3_putBytes_27 rfl ?_
  refine g_bipush (v := 8) Γ dX3_putBytes_28 (by decide) ?_
  refine g_ishl Γ dX3_putBytes_30 ?_
  refine g_bipush (v := 24) Γ dX3_putBytes_31 (by decide) ?_
  refine g_ishr Γ dX3_putBytes_33 ?_
  obtain ⟨v5, e6, hf⟩ := ya_ob hf
  refine g_iast (ws' := [(h_t, oW A_t c_t_knots c_t_flows c_t_readSet), (A_t 7, eI cI 160 v5)]) Γ e6 1 0 rfl rfl dX3_putBytes_34 rfl ?_
  refine g_aload_n Γ 1 dX3_putBytes_35 rfl ?_
  refine g_get Γ fX3_putBytes_33 0 rfl rfl dX3_putBytes_36 ?_
  refine g_iload Γ 0 dX3_putBytes_39 rfl ?_
  refine g_iconst (v := 2) Γ dX3_putBytes_41 (by decide) ?_
  refine g_iadd Γ dX3_putBytes_42 ?_
  refine g_iload_n Γ 4 dX3_putBytes_43 rfl ?_
  refine g_bipush (v := 16) Γ dX3_putBytes_44 (by decide) ?_
  refine g_ishl Γ dX3_putBytes_46 ?_
  refine g_bipush (v := 24) Γ dX3_putBytes_47 (by decide) ?_
  refine g_ishr Γ dX3_putBytes_49 ?_
  obtain ⟨v7, e8, hf⟩ := ya_ob hf
  refine g_iast (ws' := [(h_t, oW A_t c_t_knots c_t_flows c_t_readSet), (A_t 7, eI cI 160 v7)]) Γ e8 1 0 rfl rfl dX3_putBytes_50 rfl ?_
  refine g_aload_n Γ 1 dX3_putBytes_51 rfl ?_
  refine g_get Γ fX3_putBytes_33 0 rfl rfl dX3_putBytes_52 ?_
  refine g_iload Γ 0 dX3_putBytes_55 rfl ?_
  refine g_iconst (v := 3) Γ dX3_putBytes_57 (by decide) ?_
  refine g_iadd Γ dX3_putBytes_58 ?_
  refine g_iload_n Γ 4 dX3_putBytes_59 rfl ?_
  refine g_bipush (v := 24) Γ dX3_putBytes_60 (by decide) ?_
  refine g_ishl Γ dX3_putBytes_62 ?_
  refine g_bipush (v := 24) Γ dX3_putBytes_63 (by decide) ?_
  refine g_ishr Γ dX3_putBytes_65 ?_
  obtain ⟨v9, e10, hf⟩ := ya_ob hf
  refine g_iast (ws' := [(h_t, oW A_t c_t_knots c_t_flows c_t_readSet), (A_t 7, eI cI 160 v9)]) Γ e10 1 0 rfl rfl dX3_putBytes_66 rfl ?_
  cases hf
  exact g_vret Γ hr dX3_putBytes_67 [0, 1] rfl rfl

theorem dX3_hasNumber_0 : decode cX3_hasNumber 0 = .ok (.aload_n 0, 1) := by decide +kernel
theorem dX3_hasNumber_1 : decode cX3_hasNumber 1 = .ok (.getfield 27, 3) := by decide +kernel
theorem dX3_hasNumber_4 : decode cX3_hasNumber 4 = .ok (.iload_n 1, 1) := by decide +kernel
theorem dX3_hasNumber_5 : decode cX3_hasNumber 5 = .ok (.iaload, 1) := by decide +kernel
theorem dX3_hasNumber_6 : decode cX3_hasNumber 6 = .ok (.iconst (-1), 1) := by decide +kernel
theorem dX3_hasNumber_7 : decode cX3_hasNumber 7 = .ok (.if_icmp .eq 13, 3) := by decide +kernel
theorem dX3_hasNumber_10 : decode cX3_hasNumber 10 = .ok (.iload_n 2, 1) := by decide +kernel
theorem dX3_hasNumber_11 : decode cX3_hasNumber 11 = .ok (.aload_n 0, 1) := by decide +kernel
theorem dX3_hasNumber_12 : decode cX3_hasNumber 12 = .ok (.getfield 30, 3) := by decide +kernel
theorem dX3_hasNumber_15 : decode cX3_hasNumber 15 = .ok (.iload_n 1, 1) := by decide +kernel
theorem dX3_hasNumber_16 : decode cX3_hasNumber 16 = .ok (.iaload, 1) := by decide +kernel
theorem dX3_hasNumber_17 : decode cX3_hasNumber 17 = .ok (.if_icmp .lt 5, 3) := by decide +kernel
theorem dX3_hasNumber_20 : decode cX3_hasNumber 20 = .ok (.iconst 0, 1) := by decide +kernel
theorem dX3_hasNumber_21 : decode cX3_hasNumber 21 = .ok (.ireturn, 1) := by decide +kernel
theorem dX3_hasNumber_22 : decode cX3_hasNumber 22 = .ok (.aload_n 0, 1) := by decide +kernel
theorem dX3_hasNumber_23 : decode cX3_hasNumber 23 = .ok (.getfield 27, 3) := by decide +kernel
theorem dX3_hasNumber_26 : decode cX3_hasNumber 26 = .ok (.iload_n 1, 1) := by decide +kernel
theorem dX3_hasNumber_27 : decode cX3_hasNumber 27 = .ok (.iaload, 1) := by decide +kernel
theorem dX3_hasNumber_28 : decode cX3_hasNumber 28 = .ok (.iconst 3, 1) := by decide +kernel
theorem dX3_hasNumber_29 : decode cX3_hasNumber 29 = .ok (.if_icmp .ne 19, 3) := by decide +kernel
theorem dX3_hasNumber_32 : decode cX3_hasNumber 32 = .ok (.aload_n 0, 1) := by decide +kernel
theorem dX3_hasNumber_33 : decode cX3_hasNumber 33 = .ok (.getfield 33, 3) := by decide +kernel
theorem dX3_hasNumber_36 : decode cX3_hasNumber 36 = .ok (.iload_n 1, 1) := by decide +kernel
theorem dX3_hasNumber_37 : decode cX3_hasNumber 37 = .ok (.bipush 16, 2) := by decide +kernel
theorem dX3_hasNumber_39 : decode cX3_hasNumber 39 = .ok (.imul, 1) := by decide +kernel
theorem dX3_hasNumber_40 : decode cX3_hasNumber 40 = .ok (.iload_n 2, 1) := by decide +kernel
theorem dX3_hasNumber_41 : decode cX3_hasNumber 41 = .ok (.iadd, 1) := by decide +kernel
theorem dX3_hasNumber_42 : decode cX3_hasNumber 42 = .ok (.iaload, 1) := by decide +kernel
theorem dX3_hasNumber_43 : decode cX3_hasNumber 43 = .ok (.bipush (-128), 2) := by decide +kernel
theorem dX3_hasNumber_45 : decode cX3_hasNumber 45 = .ok (.if_icmp .eq 7, 3) := by decide +kernel
theorem dX3_hasNumber_48 : decode cX3_hasNumber 48 = .ok (.iconst 1, 1) := by decide +kernel
theorem dX3_hasNumber_49 : decode cX3_hasNumber 49 = .ok (.goto 4, 3) := by decide +kernel
theorem dX3_hasNumber_52 : decode cX3_hasNumber 52 = .ok (.iconst 0, 1) := by decide +kernel
theorem dX3_hasNumber_53 : decode cX3_hasNumber 53 = .ok (.ireturn, 1) := by decide +kernel
/-! ===== FlowMeters$Works.hasNumber(II)Z ===== -/
def fX3_hasNumber (c_t_kind : Nat → Int32) (c_t_length : Nat → Int32) (c_t_bytes : Nat → Int32) (x1 : Int32) (x2 : Int32) : Option (Int32) :=
  (ya_rd c_t_kind 10 x1).bind fun v1 =>
  (if v1 = (-1) then
    some 0
  else
    (ya_rd c_t_length 10 x1).bind fun v4 =>
    (if x2 < v4 then
      (ya_rd c_t_kind 10 x1).bind fun v7 =>
      (if v7 = 3 then
        (ya_rd c_t_bytes 160 ((x1 * 16) + x2)).bind fun v10 =>
        (if v10 = (-128) then
          some 0
        else
          some 1)
      else
        some 1)
    else
      some 0))
theorem fX3_hasNumber_27 : yF wsX3_hasNumber RX3 27 3 8 RX3 TX3 11 := ⟨rfl, by decide, by decide +kernel, by decide +kernel⟩
theorem fX3_hasNumber_30 : yF wsX3_hasNumber RX3 30 3 9 RX3 TX3 11 := ⟨rfl, by decide, by decide +kernel, by decide +kernel⟩
theorem fX3_hasNumber_33 : yF wsX3_hasNumber RX3 33 3 10 RX3 TX3 11 := ⟨rfl, by decide, by decide +kernel, by decide +kernel⟩
abbrev rmX3_hasNumber : Room := { frames := 0, cells := 0, slots := 0, locals := 0 }
theorem eX3_hasNumber : yY yX3_hasNumber wsX3_hasNumber cX3_hasNumber 3 (some .boolean) rmX3_hasNumber 2 := ⟨⟨_, rfl⟩, rfl, rfl, by decide, by decide, by decide +kernel⟩
set_option maxHeartbeats 4000000 in
set_option maxRecDepth 100000 in
theorem mX3_hasNumber {l : Launch} {D : va_G} {sz : Nat} {cI cJ cZ cW cR : ClassId} {h_t : Nat} {A_t : Nat → Nat} {c_t_knots : Int32} {c_t_flows : Int32} {c_t_readSet : Int32} {c_t_kind : Nat → Int32} {c_t_length : Nat → Int32} {c_t_bytes : Nat → Int32} {x1 : Int32} {x2 : Int32} {r : Int32} (hf : fX3_hasNumber c_t_kind c_t_length c_t_bytes x1 x2 = some r) : Met l yX3_hasNumber wsX3_hasNumber rmX3_hasNumber (yP D (yT cI cJ cZ cW cR) [(h_t, oW A_t c_t_knots c_t_flows c_t_readSet), (A_t 5, eI cI 10 c_t_kind), (A_t 6, eI cI 10 c_t_length), (A_t 7, eI cI 160 c_t_bytes)] sz [.ref h_t, .int x1, .int x2]) (yQi D (yT cI cJ cZ cW cR) r [(h_t, oW A_t c_t_knots c_t_flows c_t_readSet), (A_t 5, eI cI 10 c_t_kind), (A_t 6, eI cI 10 c_t_length), (A_t 7, eI cI 160 c_t_bytes)] (va_A [(h_t, oW A_t c_t_knots c_t_flows c_t_readSet), (A_t 5, eI cI 10 c_t_kind), (A_t 6, eI cI 10 c_t_length), (A_t 7, eI cI 160 c_t_bytes)] sz)) 0 0 (va_A [(h_t, oW A_t c_t_knots c_t_flows c_t_readSet), (A_t 5, eI cI 10 c_t_kind), (A_t 6, eI cI 10 c_t_length), (A_t 7, eI cI 160 c_t_bytes)] sz) := by
  refine yM (cc := cX3_hasNumber) (maxL := 3) (ret := (some .boolean)) RX3 (by decide) rfl rfl (Nat.le_of_ble_eq_true rfl) ?_
  intro p e s m below meth c Γ hr
  show yG p l e (headSpec wsX3_hasNumber rmX3_hasNumber).room s m (List.toArray [.ref h_t, .int x1, .int x2]) below meth c D (va_A [(h_t, oW A_t c_t_knots c_t_flows c_t_readSet), (A_t 5, eI cI 10 c_t_kind), (A_t 6, eI cI 10 c_t_length), (A_t 7, eI cI 160 c_t_bytes)] sz) 3 0 0 (MQ below (yQi D (yT cI cJ cZ cW cR) r [(h_t, oW A_t c_t_knots c_t_flows c_t_readSet), (A_t 5, eI cI 10 c_t_kind), (A_t 6, eI cI 10 c_t_length), (A_t 7, eI cI 160 c_t_bytes)] (va_A [(h_t, oW A_t c_t_knots c_t_flows c_t_readSet), (A_t 5, eI cI 10 c_t_kind), (A_t 6, eI cI 10 c_t_length), (A_t 7, eI cI 160 c_t_bytes)] sz)) (List.toArray [.ref h_t, .int x1, .int x2]) s 0 0 (va_A [(h_t, oW A_t c_t_knots c_t_flows c_t_readSet), (A_t 5, eI cI 10 c_t_kind), (A_t 6, eI cI 10 c_t_length), (A_t 7, eI cI 160 c_t_bytes)] sz)) 0 [(0, .ref h_t), (1, .int x1), (2, .int x2)] [] [(h_t, oW A_t c_t_knots c_t_flows c_t_readSet), (A_t 5, eI cI 10 c_t_kind), (A_t 6, eI cI 10 c_t_length), (A_t 7, eI cI 160 c_t_bytes)]
  unfold fX3_hasNumber at hf
  refine g_aload_n Γ 0 dX3_hasNumber_0 rfl ?_
  refine g_get Γ fX3_hasNumber_27 0 rfl rfl dX3_hasNumber_1 ?_
  refine g_iload_n Γ 1 dX3_hasNumber_4 rfl ?_
  obtain ⟨v1, e2, hf⟩ := ya_ob hf
  refine g_iald Γ e2 1 0 rfl rfl dX3_hasNumber_5 ?_
  refine g_iconst (v := (-1)) Γ dX3_hasNumber_6 (by decide) ?_
  refine g_icmp_eq Γ 20 dX3_hasNumber_7 (by decide) (fun c3 => ?_) (fun c3 => ?_)
  · have hf := ya_if1 c3 hf
    refine g_iconst (v := 0) Γ dX3_hasNumber_20 (by decide) ?_
    cases hf
    exact g_zret Γ hr (show ya_bo 0 = some 0 from rfl) dX3_hasNumber_21 [0, 1, 2, 3] rfl rfl
  · have hf := ya_if2 c3 hf
    refine g_iload_n Γ 2 dX3_hasNumber_10 rfl ?_
    refine g_aload_n Γ 0 dX3_hasNumber_11 rfl ?_
    refine g_get Γ fX3_hasNumber_30 0 rfl rfl dX3_hasNumber_12 ?_
    refine g_iload_n Γ 1 dX3_hasNumber_15 rfl ?_
    obtain ⟨v4, e5, hf⟩ := ya_ob hf
    refine g_iald Γ e5 2 0 rfl rfl dX3_hasNumber_16 ?_
    refine g_icmp_lt Γ 22 dX3_hasNumber_17 (by decide) (fun c6 => ?_) (fun c6 => ?_)
    · have hf := ya_if1 c6 hf
      refine g_aload_n Γ 0 dX3_hasNumber_22 rfl ?_
      refine g_get Γ fX3_hasNumber_27 0 rfl rfl dX3_hasNumber_23 ?_
      refine g_iload_n Γ 1 dX3_hasNumber_26 rfl ?_
      obtain ⟨v7, e8, hf⟩ := ya_ob hf
      refine g_iald Γ e8 1 0 rfl rfl dX3_hasNumber_27 ?_
      refine g_iconst (v := 3) Γ dX3_hasNumber_28 (by decide) ?_
      refine g_icmp_ne Γ 48 dX3_hasNumber_29 (by decide) (fun c9 => ?_) (fun c9 => ?_)
      · have hf := ya_if2 c9 hf
        refine g_iconst (v := 1) Γ dX3_hasNumber_48 (by decide) ?_
        refine g_goto Γ 53 dX3_hasNumber_49 (by decide) ?_
        cases hf
        exact g_zret Γ hr (show ya_bo 1 = some 1 from rfl) dX3_hasNumber_53 [0, 1, 2, 3] rfl rfl
      · have hf := ya_if1 c9 hf
        refine g_aload_n Γ 0 dX3_hasNumber_32 rfl ?_
        refine g_get Γ fX3_hasNumber_33 0 rfl rfl dX3_hasNumber_33 ?_
        refine g_iload_n Γ 1 dX3_hasNumber_36 rfl ?_
        refine g_bipush (v := 16) Γ dX3_hasNumber_37 (by decide) ?_
        refine g_imul Γ dX3_hasNumber_39 ?_
        refine g_iload_n Γ 2 dX3_hasNumber_40 rfl ?_
        refine g_iadd Γ dX3_hasNumber_41 ?_
        obtain ⟨v10, e11, hf⟩ := ya_ob hf
        refine g_iald Γ e11 3 0 rfl rfl dX3_hasNumber_42 ?_
        refine g_bipush (v := (-128)) Γ dX3_hasNumber_43 (by decide) ?_
        refine g_icmp_eq Γ 52 dX3_hasNumber_45 (by decide) (fun c12 => ?_) (fun c12 => ?_)
        · have hf := ya_if1 c12 hf
          refine g_iconst (v := 0) Γ dX3_hasNumber_52 (by decide) ?_
          cases hf
          exact g_zret Γ hr (show ya_bo 0 = some 0 from rfl) dX3_hasNumber_53 [0, 1, 2, 3] rfl rfl
        · have hf := ya_if2 c12 hf
          refine g_iconst (v := 1) Γ dX3_hasNumber_48 (by decide) ?_
          refine g_goto Γ 53 dX3_hasNumber_49 (by decide) ?_
          cases hf
          exact g_zret Γ hr (show ya_bo 1 = some 1 from rfl) dX3_hasNumber_53 [0, 1, 2, 3] rfl rfl
    · have hf := ya_if2 c6 hf
      refine g_iconst (v := 0) Γ dX3_hasNumber_20 (by decide) ?_
      cases hf
      exact g_zret Γ hr (show ya_bo 0 = some 0 from rfl) dX3_hasNumber_21 [0, 1, 2, 3] rfl rfl

theorem dX3_numberAt_0 : decode cX3_numberAt 0 = .ok (.aload_n 0, 1) := by decide +kernel
theorem dX3_numberAt_1 : decode cX3_numberAt 1 = .ok (.getfield 33, 3) := by decide +kernel
theorem dX3_numberAt_4 : decode cX3_numberAt 4 = .ok (.iload_n 1, 1) := by decide +kernel
theorem dX3_numberAt_5 : decode cX3_numberAt 5 = .ok (.bipush 16, 2) := by decide +kernel
theorem dX3_numberAt_7 : decode cX3_numberAt 7 = .ok (.imul, 1) := by decide +kernel
theorem dX3_numberAt_8 : decode cX3_numberAt 8 = .ok (.iload_n 2, 1) := by decide +kernel
theorem dX3_numberAt_9 : decode cX3_numberAt 9 = .ok (.iadd, 1) := by decide +kernel
theorem dX3_numberAt_10 : decode cX3_numberAt 10 = .ok (.iaload, 1) := by decide +kernel
theorem dX3_numberAt_11 : decode cX3_numberAt 11 = .ok (.bipush 10, 2) := by decide +kernel
theorem dX3_numberAt_13 : decode cX3_numberAt 13 = .ok (.imul, 1) := by decide +kernel
theorem dX3_numberAt_14 : decode cX3_numberAt 14 = .ok (.ireturn, 1) := by decide +kernel
/-! ===== FlowMeters$Works.numberAt(II)I ===== -/
def fX3_numberAt (c_t_bytes : Nat → Int32) (x1 : Int32) (x2 : Int32) : Option (Int32) :=
  (ya_rd c_t_bytes 160 ((x1 * 16) + x2)).bind fun v1 =>
  some (v1 * 10)
theorem fX3_numberAt_33 : yF wsX3_numberAt RX3 33 3 10 RX3 TX3 11 := ⟨rfl, by decide, by decide +kernel, by decide +kernel⟩
abbrev rmX3_numberAt : Room := { frames := 0, cells := 0, slots := 0, locals := 0 }
theorem eX3_numberAt : yY yX3_numberAt wsX3_numberAt cX3_numberAt 3 (some .int) rmX3_numberAt 2 := ⟨⟨_, rfl⟩, rfl, rfl, by decide, by decide, by decide +kernel⟩
set_option maxHeartbeats 4000000 in
set_option maxRecDepth 100000 in
theorem mX3_numberAt {l : Launch} {D : va_G} {sz : Nat} {cI cJ cZ cW cR : ClassId} {h_t : Nat} {A_t : Nat → Nat} {c_t_knots : Int32} {c_t_flows : Int32} {c_t_readSet : Int32} {c_t_bytes : Nat → Int32} {x1 : Int32} {x2 : Int32} {r : Int32} (hf : fX3_numberAt c_t_bytes x1 x2 = some r) : Met l yX3_numberAt wsX3_numberAt rmX3_numberAt (yP D (yT cI cJ cZ cW cR) [(h_t, oW A_t c_t_knots c_t_flows c_t_readSet), (A_t 7, eI cI 160 c_t_bytes)] sz [.ref h_t, .int x1, .int x2]) (yQi D (yT cI cJ cZ cW cR) r [(h_t, oW A_t c_t_knots c_t_flows c_t_readSet), (A_t 7, eI cI 160 c_t_bytes)] (va_A [(h_t, oW A_t c_t_knots c_t_flows c_t_readSet), (A_t 7, eI cI 160 c_t_bytes)] sz)) 0 0 (va_A [(h_t, oW A_t c_t_knots c_t_flows c_t_readSet), (A_t 7, eI cI 160 c_t_bytes)] sz) := by
  refine yM (cc := cX3_numberAt) (maxL := 3) (ret := (some .int)) RX3 (by decide) rfl rfl (Nat.le_of_ble_eq_true rfl) ?_
  intro p e s m below meth c Γ hr
  show yG p l e (headSpec wsX3_numberAt rmX3_numberAt).room s m (List.toArray [.ref h_t, .int x1, .int x2]) below meth c D (va_A [(h_t, oW A_t c_t_knots c_t_flows c_t_readSet), (A_t 7, eI cI 160 c_t_bytes)] sz) 3 0 0 (MQ below (yQi D (yT cI cJ cZ cW cR) r [(h_t, oW A_t c_t_knots c_t_flows c_t_readSet), (A_t 7, eI cI 160 c_t_bytes)] (va_A [(h_t, oW A_t c_t_knots c_t_flows c_t_readSet), (A_t 7, eI cI 160 c_t_bytes)] sz)) (List.toArray [.ref h_t, .int x1, .int x2]) s 0 0 (va_A [(h_t, oW A_t c_t_knots c_t_flows c_t_readSet), (A_t 7, eI cI 160 c_t_bytes)] sz)) 0 [(0, .ref h_t), (1, .int x1), (2, .int x2)] [] [(h_t, oW A_t c_t_knots c_t_flows c_t_readSet), (A_t 7, eI cI 160 c_t_bytes)]
  unfold fX3_numberAt at hf
  refine g_aload_n Γ 0 dX3_numberAt_0 rfl ?_
  refine g_get Γ fX3_numberAt_33 0 rfl rfl dX3_numberAt_1 ?_
  refine g_iload_n Γ 1 dX3_numberAt_4 rfl ?_
  refine g_bipush (v := 16) Γ dX3_numberAt_5 (by decide) ?_
  refine g_imul Γ dX3_numberAt_7 ?_
  refine g_iload_n Γ 2 dX3_numberAt_8 rfl ?_
  refine g_iadd Γ dX3_numberAt_9 ?_
  obtain ⟨v1, e2, hf⟩ := ya_ob hf
  refine g_iald Γ e2 1 0 rfl rfl dX3_numberAt_10 ?_
  refine g_bipush (v := 10) Γ dX3_numberAt_11 (by decide) ?_
  refine g_imul Γ dX3_numberAt_13 ?_
  cases hf
  exact g_iret Γ hr dX3_numberAt_14 [0, 1] rfl rfl

theorem dX3_touches_0 : decode cX3_touches 0 = .ok (.aload_n 0, 1) := by decide +kernel
theorem dX3_touches_1 : decode cX3_touches 1 = .ok (.getfield 9, 3) := by decide +kernel
theorem dX3_touches_4 : decode cX3_touches 4 = .ok (.iload_n 1, 1) := by decide +kernel
theorem dX3_touches_5 : decode cX3_touches 5 = .ok (.iaload, 1) := by decide +kernel
theorem dX3_touches_6 : decode cX3_touches 6 = .ok (.iload_n 2, 1) := by decide +kernel
theorem dX3_touches_7 : decode cX3_touches 7 = .ok (.if_icmp .eq 13, 3) := by decide +kernel
theorem dX3_touches_10 : decode cX3_touches 10 = .ok (.aload_n 0, 1) := by decide +kernel
theorem dX3_touches_11 : decode cX3_touches 11 = .ok (.getfield 15, 3) := by decide +kernel
theorem dX3_touches_14 : decode cX3_touches 14 = .ok (.iload_n 1, 1) := by decide +kernel
theorem dX3_touches_15 : decode cX3_touches 15 = .ok (.iaload, 1) := by decide +kernel
theorem dX3_touches_16 : decode cX3_touches 16 = .ok (.iload_n 2, 1) := by decide +kernel
theorem dX3_touches_17 : decode cX3_touches 17 = .ok (.if_icmp .ne 7, 3) := by decide +kernel
theorem dX3_touches_20 : decode cX3_touches 20 = .ok (.iconst 1, 1) := by decide +kernel
theorem dX3_touches_21 : decode cX3_touches 21 = .ok (.goto 4, 3) := by decide +kernel
theorem dX3_touches_24 : decode cX3_touches 24 = .ok (.iconst 0, 1) := by decide +kernel
theorem dX3_touches_25 : decode cX3_touches 25 = .ok (.ireturn, 1) := by decide +kernel
/-! ===== FlowMeters$Works.touches(II)Z ===== -/
def fX3_touches (c_t_from : Nat → Int32) (c_t_to : Nat → Int32) (x1 : Int32) (x2 : Int32) : Option (Int32) :=
  (ya_rd c_t_from 10 x1).bind fun v1 =>
  (if v1 = x2 then
    some 1
  else
    (ya_rd c_t_to 10 x1).bind fun v4 =>
    (if v4 = x2 then
      some 1
    else
      some 0))
theorem fX3_touches_9 : yF wsX3_touches RX3 9 3 3 RX3 TX3 11 := ⟨rfl, by decide, by decide +kernel, by decide +kernel⟩
theorem fX3_touches_15 : yF wsX3_touches RX3 15 3 4 RX3 TX3 11 := ⟨rfl, by decide, by decide +kernel, by decide +kernel⟩
abbrev rmX3_touches : Room := { frames := 0, cells := 0, slots := 0, locals := 0 }
theorem eX3_touches : yY yX3_touches wsX3_touches cX3_touches 3 (some .boolean) rmX3_touches 2 := ⟨⟨_, rfl⟩, rfl, rfl, by decide, by decide, by decide +kernel⟩
set_option maxHeartbeats 4000000 in
set_option maxRecDepth 100000 in
theorem mX3_touches {l : Launch} {D : va_G} {sz : Nat} {cI cJ cZ cW cR : ClassId} {h_t : Nat} {A_t : Nat → Nat} {c_t_knots : Int32} {c_t_flows : Int32} {c_t_readSet : Int32} {c_t_from : Nat → Int32} {c_t_to : Nat → Int32} {x1 : Int32} {x2 : Int32} {r : Int32} (hf : fX3_touches c_t_from c_t_to x1 x2 = some r) : Met l yX3_touches wsX3_touches rmX3_touches (yP D (yT cI cJ cZ cW cR) [(h_t, oW A_t c_t_knots c_t_flows c_t_readSet), (A_t 0, eI cI 10 c_t_from), (A_t 1, eI cI 10 c_t_to)] sz [.ref h_t, .int x1, .int x2]) (yQi D (yT cI cJ cZ cW cR) r [(h_t, oW A_t c_t_knots c_t_flows c_t_readSet), (A_t 0, eI cI 10 c_t_from), (A_t 1, eI cI 10 c_t_to)] (va_A [(h_t, oW A_t c_t_knots c_t_flows c_t_readSet), (A_t 0, eI cI 10 c_t_from), (A_t 1, eI cI 10 c_t_to)] sz)) 0 0 (va_A [(h_t, oW A_t c_t_knots c_t_flows c_t_readSet), (A_t 0, eI cI 10 c_t_from), (A_t 1, eI cI 10 c_t_to)] sz) := by
  refine yM (cc := cX3_touches) (maxL := 3) (ret := (some .boolean)) RX3 (by decide) rfl rfl (Nat.le_of_ble_eq_true rfl) ?_
  intro p e s m below meth c Γ hr
  show yG p l e (headSpec wsX3_touches rmX3_touches).room s m (List.toArray [.ref h_t, .int x1, .int x2]) below meth c D (va_A [(h_t, oW A_t c_t_knots c_t_flows c_t_readSet), (A_t 0, eI cI 10 c_t_from), (A_t 1, eI cI 10 c_t_to)] sz) 3 0 0 (MQ below (yQi D (yT cI cJ cZ cW cR) r [(h_t, oW A_t c_t_knots c_t_flows c_t_readSet), (A_t 0, eI cI 10 c_t_from), (A_t 1, eI cI 10 c_t_to)] (va_A [(h_t, oW A_t c_t_knots c_t_flows c_t_readSet), (A_t 0, eI cI 10 c_t_from), (A_t 1, eI cI 10 c_t_to)] sz)) (List.toArray [.ref h_t, .int x1, .int x2]) s 0 0 (va_A [(h_t, oW A_t c_t_knots c_t_flows c_t_readSet), (A_t 0, eI cI 10 c_t_from), (A_t 1, eI cI 10 c_t_to)] sz)) 0 [(0, .ref h_t), (1, .int x1), (2, .int x2)] [] [(h_t, oW A_t c_t_knots c_t_flows c_t_readSet), (A_t 0, eI cI 10 c_t_from), (A_t 1, eI cI 10 c_t_to)]
  unfold fX3_touches at hf
  refine g_aload_n Γ 0 dX3_touches_0 rfl ?_
  refine g_get Γ fX3_touches_9 0 rfl rfl dX3_touches_1 ?_
  refine g_iload_n Γ 1 dX3_touches_4 rfl ?_
  obtain ⟨v1, e2, hf⟩ := ya_ob hf
  refine g_iald Γ e2 1 0 rfl rfl dX3_touches_5 ?_
  refine g_iload_n Γ 2 dX3_touches_6 rfl ?_
  refine g_icmp_eq Γ 20 dX3_touches_7 (by decide) (fun c3 => ?_) (fun c3 => ?_)
  · have hf := ya_if1 c3 hf
    refine g_iconst (v := 1) Γ dX3_touches_20 (by decide) ?_
    refine g_goto Γ 25 dX3_touches_21 (by decide) ?_
    cases hf
    exact g_zret Γ hr (show ya_bo 1 = some 1 from rfl) dX3_touches_25 [0, 1, 2] rfl rfl
  · have hf := ya_if2 c3 hf
    refine g_aload_n Γ 0 dX3_touches_10 rfl ?_
    refine g_get Γ fX3_touches_15 0 rfl rfl dX3_touches_11 ?_
    refine g_iload_n Γ 1 dX3_touches_14 rfl ?_
    obtain ⟨v4, e5, hf⟩ := ya_ob hf
    refine g_iald Γ e5 2 0 rfl rfl dX3_touches_15 ?_
    refine g_iload_n Γ 2 dX3_touches_16 rfl ?_
    refine g_icmp_ne Γ 24 dX3_touches_17 (by decide) (fun c6 => ?_) (fun c6 => ?_)
    · have hf := ya_if2 c6 hf
      refine g_iconst (v := 0) Γ dX3_touches_24 (by decide) ?_
      cases hf
      exact g_zret Γ hr (show ya_bo 0 = some 0 from rfl) dX3_touches_25 [0, 1, 2] rfl rfl
    · have hf := ya_if1 c6 hf
      refine g_iconst (v := 1) Γ dX3_touches_20 (by decide) ?_
      refine g_goto Γ 25 dX3_touches_21 (by decide) ?_
      cases hf
      exact g_zret Γ hr (show ya_bo 1 = some 1 from rfl) dX3_touches_25 [0, 1, 2] rfl rfl

theorem dX3_otherEnd_0 : decode cX3_otherEnd 0 = .ok (.aload_n 0, 1) := by decide +kernel
theorem dX3_otherEnd_1 : decode cX3_otherEnd 1 = .ok (.getfield 9, 3) := by decide +kernel
theorem dX3_otherEnd_4 : decode cX3_otherEnd 4 = .ok (.iload_n 1, 1) := by decide +kernel
theorem dX3_otherEnd_5 : decode cX3_otherEnd 5 = .ok (.iaload, 1) := by decide +kernel
theorem dX3_otherEnd_6 : decode cX3_otherEnd 6 = .ok (.iload_n 2, 1) := by decide +kernel
theorem dX3_otherEnd_7 : decode cX3_otherEnd 7 = .ok (.if_icmp .ne 12, 3) := by decide +kernel
theorem dX3_otherEnd_10 : decode cX3_otherEnd 10 = .ok (.aload_n 0, 1) := by decide +kernel
theorem dX3_otherEnd_11 : decode cX3_otherEnd 11 = .ok (.getfield 15, 3) := by decide +kernel
theorem dX3_otherEnd_14 : decode cX3_otherEnd 14 = .ok (.iload_n 1, 1) := by decide +kernel
theorem dX3_otherEnd_15 : decode cX3_otherEnd 15 = .ok (.iaload, 1) := by decide +kernel
theorem dX3_otherEnd_16 : decode cX3_otherEnd 16 = .ok (.goto 9, 3) := by decide +kernel
theorem dX3_otherEnd_19 : decode cX3_otherEnd 19 = .ok (.aload_n 0, 1) := by decide +kernel
theorem dX3_otherEnd_20 : decode cX3_otherEnd 20 = .ok (.getfield 9, 3) := by decide +kernel
theorem dX3_otherEnd_23 : decode cX3_otherEnd 23 = .ok (.iload_n 1, 1) := by decide +kernel
theorem dX3_otherEnd_24 : decode cX3_otherEnd 24 = .ok (.iaload, 1) := by decide +kernel
theorem dX3_otherEnd_25 : decode cX3_otherEnd 25 = .ok (.ireturn, 1) := by decide +kernel
/-! ===== FlowMeters$Works.otherEnd(II)I ===== -/
def fX3_otherEnd (c_t_from : Nat → Int32) (c_t_to : Nat → Int32) (x1 : Int32) (x2 : Int32) : Option (Int32) :=
  (ya_rd c_t_from 10 x1).bind fun v1 =>
  (if v1 = x2 then
    (ya_rd c_t_to 10 x1).bind fun v6 =>
    some v6
  else
    (ya_rd c_t_from 10 x1).bind fun v4 =>
    some v4)
theorem fX3_otherEnd_9 : yF wsX3_otherEnd RX3 9 3 3 RX3 TX3 11 := ⟨rfl, by decide, by decide +kernel, by decide +kernel⟩
theorem fX3_otherEnd_15 : yF wsX3_otherEnd RX3 15 3 4 RX3 TX3 11 := ⟨rfl, by decide, by decide +kernel, by decide +kernel⟩
abbrev rmX3_otherEnd : Room := { frames := 0, cells := 0, slots := 0, locals := 0 }
theorem eX3_otherEnd : yY yX3_otherEnd wsX3_otherEnd cX3_otherEnd 3 (some .int) rmX3_otherEnd 2 := ⟨⟨_, rfl⟩, rfl, rfl, by decide, by decide, by decide +kernel⟩
set_option maxHeartbeats 4000000 in
set_option maxRecDepth 100000 in
theorem mX3_otherEnd {l : Launch} {D : va_G} {sz : Nat} {cI cJ cZ cW cR : ClassId} {h_t : Nat} {A_t : Nat → Nat} {c_t_knots : Int32} {c_t_flows : Int32} {c_t_readSet : Int32} {c_t_from : Nat → Int32} {c_t_to : Nat → Int32} {x1 : Int32} {x2 : Int32} {r : Int32} (hf : fX3_otherEnd c_t_from c_t_to x1 x2 = some r) : Met l yX3_otherEnd wsX3_otherEnd rmX3_otherEnd (yP D (yT cI cJ cZ cW cR) [(h_t, oW A_t c_t_knots c_t_flows c_t_readSet), (A_t 0, eI cI 10 c_t_from), (A_t 1, eI cI 10 c_t_to)] sz [.ref h_t, .int x1, .int x2]) (yQi D (yT cI cJ cZ cW cR) r [(h_t, oW A_t c_t_knots c_t_flows c_t_readSet), (A_t 0, eI cI 10 c_t_from), (A_t 1, eI cI 10 c_t_to)] (va_A [(h_t, oW A_t c_t_knots c_t_flows c_t_readSet), (A_t 0, eI cI 10 c_t_from), (A_t 1, eI cI 10 c_t_to)] sz)) 0 0 (va_A [(h_t, oW A_t c_t_knots c_t_flows c_t_readSet), (A_t 0, eI cI 10 c_t_from), (A_t 1, eI cI 10 c_t_to)] sz) := by
  refine yM (cc := cX3_otherEnd) (maxL := 3) (ret := (some .int)) RX3 (by decide) rfl rfl (Nat.le_of_ble_eq_true rfl) ?_
  intro p e s m below meth c Γ hr
  show yG p l e (headSpec wsX3_otherEnd rmX3_otherEnd).room s m (List.toArray [.ref h_t, .int x1, .int x2]) below meth c D (va_A [(h_t, oW A_t c_t_knots c_t_flows c_t_readSet), (A_t 0, eI cI 10 c_t_from), (A_t 1, eI cI 10 c_t_to)] sz) 3 0 0 (MQ below (yQi D (yT cI cJ cZ cW cR) r [(h_t, oW A_t c_t_knots c_t_flows c_t_readSet), (A_t 0, eI cI 10 c_t_from), (A_t 1, eI cI 10 c_t_to)] (va_A [(h_t, oW A_t c_t_knots c_t_flows c_t_readSet), (A_t 0, eI cI 10 c_t_from), (A_t 1, eI cI 10 c_t_to)] sz)) (List.toArray [.ref h_t, .int x1, .int x2]) s 0 0 (va_A [(h_t, oW A_t c_t_knots c_t_flows c_t_readSet), (A_t 0, eI cI 10 c_t_from), (A_t 1, eI cI 10 c_t_to)] sz)) 0 [(0, .ref h_t), (1, .int x1), (2, .int x2)] [] [(h_t, oW A_t c_t_knots c_t_flows c_t_readSet), (A_t 0, eI cI 10 c_t_from), (A_t 1, eI cI 10 c_t_to)]
  unfold fX3_otherEnd at hf
  refine g_aload_n Γ 0 dX3_otherEnd_0 rfl ?_
  refine g_get Γ fX3_otherEnd_9 0 rfl rfl dX3_otherEnd_1 ?_
  refine g_iload_n Γ 1 dX3_otherEnd_4 rfl ?_
  obtain ⟨v1, e2, hf⟩ := ya_ob hf
  refine g_iald Γ e2 1 0 rfl rfl dX3_otherEnd_5 ?_
  refine g_iload_n Γ 2 dX3_otherEnd_6 rfl ?_
  refine g_icmp_ne Γ 19 dX3_otherEnd_7 (by decide) (fun c3 => ?_) (fun c3 => ?_)
  · have hf := ya_if2 c3 hf
    refine g_aload_n Γ 0 dX3_otherEnd_19 rfl ?_
    refine g_get Γ fX3_otherEnd_9 0 rfl rfl dX3_otherEnd_20 ?_
    refine g_iload_n Γ 1 dX3_otherEnd_23 rfl ?_
    obtain ⟨v4, e5, hf⟩ := ya_ob hf
    refine g_iald Γ e5 1 0 rfl rfl dX3_otherEnd_24 ?_
    cases hf
    exact g_iret Γ hr dX3_otherEnd_25 [0, 1, 2] rfl rfl
  · have hf := ya_if1 c3 hf
    refine g_aload_n Γ 0 dX3_otherEnd_10 rfl ?_
    refine g_get Γ fX3_otherEnd_15 0 rfl rfl dX3_otherEnd_11 ?_
    refine g_iload_n Γ 1 dX3_otherEnd_14 rfl ?_
    obtain ⟨v6, e7, hf⟩ := ya_ob hf
    refine g_iald Γ e7 2 0 rfl rfl dX3_otherEnd_15 ?_
    refine g_goto Γ 25 dX3_otherEnd_16 (by decide) ?_
    cases hf
    exact g_iret Γ hr dX3_otherEnd_25 [0, 1, 2] rfl rfl

set_option maxRecDepth 20000 in
theorem ggX3_isAllReadAt_X3_touches : GoodIn wsX3_isAllReadAt wsX3_touches := goodIn_r _ [7, 8, 9, 13, 14, 15, 16, 17, 18, 19, 20, 21, 22, 23] (by decide +kernel) (by decide +kernel)
set_option maxRecDepth 20000 in
theorem gX3_isAllReadAt_X3_touches : GoodIn wsX3_isAllReadAt (wsV RX3 68 RX3 yX3_touches wsX3_touches) := goodIn_app (goodIn_of _ (by decide +kernel)) ggX3_isAllReadAt_X3_touches
set_option maxRecDepth 20000 in
theorem ggX3_isAllReadAt_X4_holds : GoodIn wsX3_isAllReadAt wsX4_holds := goodIn_r _ [12] (by decide +kernel) (by decide +kernel)
set_option maxRecDepth 20000 in
theorem gX3_isAllReadAt_X4_holds_n64 : GoodIn wsX3_isAllReadAt (wsX4_holds) := ggX3_isAllReadAt_X4_holds
theorem dX3_isAllReadAt_0 : decode cX3_isAllReadAt 0 = .ok (.iconst 0, 1) := by decide +kernel
theorem dX3_isAllReadAt_1 : decode cX3_isAllReadAt 1 = .ok (.istore_n 2, 1) := by decide +kernel
theorem dX3_isAllReadAt_2 : decode cX3_isAllReadAt 2 = .ok (.iload_n 2, 1) := by decide +kernel
theorem dX3_isAllReadAt_3 : decode cX3_isAllReadAt 3 = .ok (.aload_n 0, 1) := by decide +kernel
theorem dX3_isAllReadAt_4 : decode cX3_isAllReadAt 4 = .ok (.getfield 40, 3) := by decide +kernel
theorem dX3_isAllReadAt_7 : decode cX3_isAllReadAt 7 = .ok (.if_icmp .ge 31, 3) := by decide +kernel
theorem dX3_isAllReadAt_10 : decode cX3_isAllReadAt 10 = .ok (.aload_n 0, 1) := by decide +kernel
theorem dX3_isAllReadAt_11 : decode cX3_isAllReadAt 11 = .ok (.iload_n 2, 1) := by decide +kernel
theorem dX3_isAllReadAt_12 : decode cX3_isAllReadAt 12 = .ok (.iload_n 1, 1) := by decide +kernel
theorem dX3_isAllReadAt_13 : decode cX3_isAllReadAt 13 = .ok (.invokevirtual 68, 3) := by decide +kernel
theorem dX3_isAllReadAt_16 : decode cX3_isAllReadAt 16 = .ok (.ifCond .eq 16, 3) := by decide +kernel
theorem dX3_isAllReadAt_19 : decode cX3_isAllReadAt 19 = .ok (.aload_n 0, 1) := by decide +kernel
theorem dX3_isAllReadAt_20 : decode cX3_isAllReadAt 20 = .ok (.getfield 43, 3) := by decide +kernel
theorem dX3_isAllReadAt_23 : decode cX3_isAllReadAt 23 = .ok (.iload_n 2, 1) := by decide +kernel
theorem dX3_isAllReadAt_24 : decode cX3_isAllReadAt 24 = .ok (.invokestatic 64, 3) := by decide +kernel
theorem dX3_isAllReadAt_27 : decode cX3_isAllReadAt 27 = .ok (.ifCond .ne 5, 3) := by decide +kernel
theorem dX3_isAllReadAt_30 : decode cX3_isAllReadAt 30 = .ok (.iconst 0, 1) := by decide +kernel
theorem dX3_isAllReadAt_31 : decode cX3_isAllReadAt 31 = .ok (.ireturn, 1) := by decide +kernel
theorem dX3_isAllReadAt_32 : decode cX3_isAllReadAt 32 = .ok (.iinc 2 1, 3) := by decide +kernel
theorem dX3_isAllReadAt_35 : decode cX3_isAllReadAt 35 = .ok (.goto (-33), 3) := by decide +kernel
theorem dX3_isAllReadAt_38 : decode cX3_isAllReadAt 38 = .ok (.iconst 1, 1) := by decide +kernel
theorem dX3_isAllReadAt_39 : decode cX3_isAllReadAt 39 = .ok (.ireturn, 1) := by decide +kernel
/-! ===== FlowMeters$Works.isAllReadAt(I)Z ===== -/
def fX3_isAllReadAt_L2 (N : Nat) (n : Nat) (y1 : Int32) (y2 : Int32) (d_t_flows : Int32) (d_t_readSet : Int32) (d_t_from : Nat → Int32) (d_t_to : Nat → Int32) : Option ((Unit) ⊕ (Unit)) := match n with
  | 0 => none
  | n + 1 =>
    (if d_t_flows ≤ y2 then
        some (.inr ())
      else
        (fX3_touches d_t_from d_t_to y2 y1).bind fun v2 =>
        (if v2 = 0 then
          ya_lt (y2 + 1) fun v5 =>
          fX3_isAllReadAt_L2 N n y1 v5 d_t_flows d_t_readSet d_t_from d_t_to
        else
          (fX4_holds d_t_readSet y2).bind fun v7 =>
          (if v7 = 0 then
            some (.inl ())
          else
            ya_lt (y2 + 1) fun v10 =>
            fX3_isAllReadAt_L2 N n y1 v10 d_t_flows d_t_readSet d_t_from d_t_to)))
def fX3_isAllReadAt (N : Nat) (c_t_flows : Int32) (c_t_readSet : Int32) (c_t_from : Nat → Int32) (c_t_to : Nat → Int32) (x1 : Int32) : Option (Int32) :=
  (fX3_isAllReadAt_L2 N N x1 0 c_t_flows c_t_readSet c_t_from c_t_to).bind fun o12 => match o12 with
    | .inl _ => some 0
    | .inr _ => some 1
theorem fX3_isAllReadAt_40 : yF wsX3_isAllReadAt RX3 40 3 1 RX3 TX3 11 := ⟨rfl, by decide, by decide +kernel, by decide +kernel⟩
theorem fX3_isAllReadAt_43 : yF wsX3_isAllReadAt RX3 43 3 2 RX3 TX3 11 := ⟨rfl, by decide, by decide +kernel, by decide +kernel⟩
abbrev rmX3_isAllReadAt : Room := { frames := 1, cells := 0, slots := 0, locals := 22 }
theorem eX3_isAllReadAt : yY yX3_isAllReadAt wsX3_isAllReadAt cX3_isAllReadAt 3 (some .boolean) rmX3_isAllReadAt 1 := ⟨⟨_, rfl⟩, rfl, rfl, by decide, by decide, by decide +kernel⟩
set_option maxHeartbeats 4000000 in
set_option maxRecDepth 100000 in
theorem mX3_isAllReadAt {l : Launch} {D : va_G} {sz : Nat} {cI cJ cZ cW cR : ClassId} {N : Nat} {h_t : Nat} {A_t : Nat → Nat} {c_t_knots : Int32} {c_t_flows : Int32} {c_t_readSet : Int32} {c_t_from : Nat → Int32} {c_t_to : Nat → Int32} {x1 : Int32} {r : Int32} (hf : fX3_isAllReadAt N c_t_flows c_t_readSet c_t_from c_t_to x1 = some r) : Met l yX3_isAllReadAt wsX3_isAllReadAt rmX3_isAllReadAt (yP D (yT cI cJ cZ cW cR) [(h_t, oW A_t c_t_knots c_t_flows c_t_readSet), (A_t 0, eI cI 10 c_t_from), (A_t 1, eI cI 10 c_t_to)] sz [.ref h_t, .int x1]) (yQi D (yT cI cJ cZ cW cR) r [(h_t, oW A_t c_t_knots c_t_flows c_t_readSet), (A_t 0, eI cI 10 c_t_from), (A_t 1, eI cI 10 c_t_to)] (va_A [(h_t, oW A_t c_t_knots c_t_flows c_t_readSet), (A_t 0, eI cI 10 c_t_from), (A_t 1, eI cI 10 c_t_to)] sz)) 0 0 (va_A [(h_t, oW A_t c_t_knots c_t_flows c_t_readSet), (A_t 0, eI cI 10 c_t_from), (A_t 1, eI cI 10 c_t_to)] sz) := by
  refine yM (cc := cX3_isAllReadAt) (maxL := 3) (ret := (some .boolean)) RX3 (by decide) rfl rfl (Nat.le_of_ble_eq_true rfl) ?_
  intro p e s m below meth c Γ hr
  have loop2 : ∀ (n : Nat) (y1 : Int32) (y2 : Int32) (d_t_knots : Int32) (d_t_flows : Int32) (d_t_readSet : Int32) (d_t_from : Nat → Int32) (d_t_to : Nat → Int32) (o : (Unit) ⊕ (Unit)), fX3_isAllReadAt_L2 N n y1 y2 d_t_flows d_t_readSet d_t_from d_t_to = some o → (∀ (w : Unit), o = .inl w → yG p l e (headSpec wsX3_isAllReadAt rmX3_isAllReadAt).room s m (List.toArray [.ref h_t, .int x1]) below meth c D (va_A [(h_t, oW A_t c_t_knots c_t_flows c_t_readSet), (A_t 0, eI cI 10 c_t_from), (A_t 1, eI cI 10 c_t_to)] sz) 3 0 0 (MQ below (yQi D (yT cI cJ cZ cW cR) r [(h_t, oW A_t c_t_knots c_t_flows c_t_readSet), (A_t 0, eI cI 10 c_t_from), (A_t 1, eI cI 10 c_t_to)] (va_A [(h_t, oW A_t c_t_knots c_t_flows c_t_readSet), (A_t 0, eI cI 10 c_t_from), (A_t 1, eI cI 10 c_t_to)] sz)) (List.toArray [.ref h_t, .int x1]) s 0 0 (va_A [(h_t, oW A_t c_t_knots c_t_flows c_t_readSet), (A_t 0, eI cI 10 c_t_from), (A_t 1, eI cI 10 c_t_to)] sz)) 30 [] [] [(h_t, oW A_t d_t_knots d_t_flows d_t_readSet), (A_t 0, eI cI 10 d_t_from), (A_t 1, eI cI 10 d_t_to)]) → (∀ (w : Unit), o = .inr w → yG p l e (headSpec wsX3_isAllReadAt rmX3_isAllReadAt).room s m (List.toArray [.ref h_t, .int x1]) below meth c D (va_A [(h_t, oW A_t c_t_knots c_t_flows c_t_readSet), (A_t 0, eI cI 10 c_t_from), (A_t 1, eI cI 10 c_t_to)] sz) 3 0 0 (MQ below (yQi D (yT cI cJ cZ cW cR) r [(h_t, oW A_t c_t_knots c_t_flows c_t_readSet), (A_t 0, eI cI 10 c_t_from), (A_t 1, eI cI 10 c_t_to)] (va_A [(h_t, oW A_t c_t_knots c_t_flows c_t_readSet), (A_t 0, eI cI 10 c_t_from), (A_t 1, eI cI 10 c_t_to)] sz)) (List.toArray [.ref h_t, .int x1]) s 0 0 (va_A [(h_t, oW A_t c_t_knots c_t_flows c_t_readSet), (A_t 0, eI cI 10 c_t_from), (A_t 1, eI cI 10 c_t_to)] sz)) 38 [] [] [(h_t, oW A_t d_t_knots d_t_flows d_t_readSet), (A_t 0, eI cI 10 d_t_from), (A_t 1, eI cI 10 d_t_to)]) → yG p l e (headSpec wsX3_isAllReadAt rmX3_isAllReadAt).room s m (List.toArray [.ref h_t, .int x1]) below meth c D (va_A [(h_t, oW A_t c_t_knots c_t_flows c_t_readSet), (A_t 0, eI cI 10 c_t_from), (A_t 1, eI cI 10 c_t_to)] sz) 3 0 0 (MQ below (yQi D (yT cI cJ cZ cW cR) r [(h_t, oW A_t c_t_knots c_t_flows c_t_readSet), (A_t 0, eI cI 10 c_t_from), (A_t 1, eI cI 10 c_t_to)] (va_A [(h_t, oW A_t c_t_knots c_t_flows c_t_readSet), (A_t 0, eI cI 10 c_t_from), (A_t 1, eI cI 10 c_t_to)] sz)) (List.toArray [.ref h_t, .int x1]) s 0 0 (va_A [(h_t, oW A_t c_t_knots c_t_flows c_t_readSet), (A_t 0, eI cI 10 c_t_from), (A_t 1, eI cI 10 c_t_to)] sz)) 2 [(0, .ref h_t), (1, .int y1), (2, .int y2)] [] [(h_t, oW A_t d_t_knots d_t_flows d_t_readSet), (A_t 0, eI cI 10 d_t_from), (A_t 1, eI cI 10 d_t_to)] := by
    intro n
    induction n with
    | zero =>
      intro y1 y2 d_t_knots d_t_flows d_t_readSet d_t_from d_t_to o hf
      cases hf
    | succ n ih =>
      intro y1 y2 d_t_knots d_t_flows d_t_readSet d_t_from d_t_to o hf hk1 hk2
      unfold fX3_isAllReadAt_L2 at hf
      refine g_iload_n Γ 2 dX3_isAllReadAt_2 rfl ?_
      refine g_aload_n Γ 0 dX3_isAllReadAt_3 rfl ?_
      refine g_get Γ fX3_isAllReadAt_40 0 rfl rfl dX3_isAllReadAt_4 ?_
      refine g_icmp_ge Γ 38 dX3_isAllReadAt_7 (by decide) (fun c1 => ?_) (fun c1 => ?_)
      · have hf := ya_if1 c1 hf
        cases hf
        refine g_lv [] rfl ?_
        exact hk2 _ rfl
      · have hf := ya_if2 c1 hf
        refine g_aload_n Γ 0 dX3_isAllReadAt_10 rfl ?_
        refine g_iload_n Γ 2 dX3_isAllReadAt_11 rfl ?_
        refine g_iload_n Γ 1 dX3_isAllReadAt_12 rfl ?_
        obtain ⟨v2, e3, hf⟩ := ya_ob hf
        refine g_vi (q := (RX3, TX3, 11)) (wr := []) (ws' := [(h_t, oW A_t d_t_knots d_t_flows d_t_readSet), (A_t 0, eI cI 10 d_t_from), (A_t 1, eI cI 10 d_t_to)]) Γ (fun sz => mX3_touches (l := l) (D := D) (sz := sz) (cI := cI) (cJ := cJ) (cZ := cZ) (cW := cW) (cR := cR) (h_t := h_t) (A_t := A_t) (hf := e3)) eX3_touches gX3_isAllReadAt_X3_touches rfl rfl 0 rfl rfl rfl (Nat.le_of_ble_eq_true rfl) ⟨Nat.le_of_ble_eq_true rfl, Nat.le_of_ble_eq_true rfl⟩ dX3_isAllReadAt_13 [0, 1, 2] [] rfl rfl rfl rfl (by decide) rfl ?_
        refine g_if_eq Γ 32 dX3_isAllReadAt_16 (by decide) (fun c4 => ?_) (fun c4 => ?_)
        · have hf := ya_if1 c4 hf
          obtain ⟨v5, e6, hf⟩ := ya_lt_inv hf
          refine g_iinc (lv' := [(2, .int v5), (0, .ref h_t), (1, .int y1)]) Γ 2 dX3_isAllReadAt_32 rfl (by rw [e6]; rfl) (by decide) rfl ?_
          refine g_goto Γ 2 dX3_isAllReadAt_35 (by decide) ?_
          refine g_lv [1, 2, 0] rfl ?_
          exact ih _ _ _ _ _ _ _ _ hf hk1 hk2
        · have hf := ya_if2 c4 hf
          refine g_aload_n Γ 0 dX3_isAllReadAt_19 rfl ?_
          refine g_get Γ fX3_isAllReadAt_43 0 rfl rfl dX3_isAllReadAt_20 ?_
          refine g_iload_n Γ 2 dX3_isAllReadAt_23 rfl ?_
          obtain ⟨v7, e8, hf⟩ := ya_ob hf
          refine g_ni (wr := [(h_t, oW A_t d_t_knots d_t_flows d_t_readSet), (A_t 0, eI cI 10 d_t_from), (A_t 1, eI cI 10 d_t_to)]) (ws' := [(h_t, oW A_t d_t_knots d_t_flows d_t_readSet), (A_t 0, eI cI 10 d_t_from), (A_t 1, eI cI 10 d_t_to)]) Γ (fun sz => mX4_holds (l := l) (D := D) (sz := sz) (cI := cI) (cJ := cJ) (cZ := cZ) (cW := cW) (cR := cR)  (hf := e8)) eX4_holds ggX3_isAllReadAt_X4_holds (by decide +kernel) (by decide +kernel) (by decide +kernel) rfl rfl (Nat.le_of_ble_eq_true rfl) ⟨Nat.le_of_ble_eq_true rfl, Nat.le_of_ble_eq_true rfl⟩ dX3_isAllReadAt_24 [] [0, 1, 2] rfl rfl rfl rfl (by decide) rfl ?_
          refine g_if_ne Γ 32 dX3_isAllReadAt_27 (by decide) (fun c9 => ?_) (fun c9 => ?_)
          · have hf := ya_if2 c9 hf
            obtain ⟨v10, e11, hf⟩ := ya_lt_inv hf
            refine g_iinc (lv' := [(2, .int v10), (0, .ref h_t), (1, .int y1)]) Γ 2 dX3_isAllReadAt_32 rfl (by rw [e11]; rfl) (by decide) rfl ?_
            refine g_goto Γ 2 dX3_isAllReadAt_35 (by decide) ?_
            refine g_lv [1, 2, 0] rfl ?_
            exact ih _ _ _ _ _ _ _ _ hf hk1 hk2
          · have hf := ya_if1 c9 hf
            cases hf
            refine g_lv [] rfl ?_
            exact hk1 _ rfl
  show yG p l e (headSpec wsX3_isAllReadAt rmX3_isAllReadAt).room s m (List.toArray [.ref h_t, .int x1]) below meth c D (va_A [(h_t, oW A_t c_t_knots c_t_flows c_t_readSet), (A_t 0, eI cI 10 c_t_from), (A_t 1, eI cI 10 c_t_to)] sz) 3 0 0 (MQ below (yQi D (yT cI cJ cZ cW cR) r [(h_t, oW A_t c_t_knots c_t_flows c_t_readSet), (A_t 0, eI cI 10 c_t_from), (A_t 1, eI cI 10 c_t_to)] (va_A [(h_t, oW A_t c_t_knots c_t_flows c_t_readSet), (A_t 0, eI cI 10 c_t_from), (A_t 1, eI cI 10 c_t_to)] sz)) (List.toArray [.ref h_t, .int x1]) s 0 0 (va_A [(h_t, oW A_t c_t_knots c_t_flows c_t_readSet), (A_t 0, eI cI 10 c_t_from), (A_t 1, eI cI 10 c_t_to)] sz)) 0 [(0, .ref h_t), (1, .int x1)] [] [(h_t, oW A_t c_t_knots c_t_flows c_t_readSet), (A_t 0, eI cI 10 c_t_from), (A_t 1, eI cI 10 c_t_to)]
  unfold fX3_isAllReadAt at hf
  refine g_iconst (v := 0) Γ dX3_isAllReadAt_0 (by decide) ?_
  refine g_istore_n (lv' := [(2, .int 0), (0, .ref h_t), (1, .int x1)]) Γ dX3_isAllReadAt_1 (by decide) rfl ?_
  obtain ⟨o12, e13, hf⟩ := ya_ob hf
  refine g_lv [1, 2, 0] rfl ?_
  refine loop2 N _ _ _ _ _ _ _ o12 e13 ?_ ?_
  · intro _ ho; subst ho
    refine g_iconst (v := 0) Γ dX3_isAllReadAt_30 (by decide) ?_
    cases hf
    exact g_zret Γ hr (show ya_bo 0 = some 0 from rfl) dX3_isAllReadAt_31 [0, 1, 2] rfl rfl
  · intro _ ho; subst ho
    refine g_iconst (v := 1) Γ dX3_isAllReadAt_38 (by decide) ?_
    cases hf
    exact g_zret Γ hr (show ya_bo 1 = some 1 from rfl) dX3_isAllReadAt_39 [0, 1, 2] rfl rfl

theorem dX3_surplusAt_0 : decode cX3_surplusAt 0 = .ok (.iconst 0, 1) := by decide +kernel
theorem dX3_surplusAt_1 : decode cX3_surplusAt 1 = .ok (.istore_n 2, 1) := by decide +kernel
theorem dX3_surplusAt_2 : decode cX3_surplusAt 2 = .ok (.iconst 0, 1) := by decide +kernel
theorem dX3_surplusAt_3 : decode cX3_surplusAt 3 = .ok (.istore_n 3, 1) := by decide +kernel
theorem dX3_surplusAt_4 : decode cX3_surplusAt 4 = .ok (.iload_n 3, 1) := by decide +kernel
theorem dX3_surplusAt_5 : decode cX3_surplusAt 5 = .ok (.aload_n 0, 1) := by decide +kernel
theorem dX3_surplusAt_6 : decode cX3_surplusAt 6 = .ok (.getfield 40, 3) := by decide +kernel
theorem dX3_surplusAt_9 : decode cX3_surplusAt 9 = .ok (.if_icmp .ge 47, 3) := by decide +kernel
theorem dX3_surplusAt_12 : decode cX3_surplusAt 12 = .ok (.aload_n 0, 1) := by decide +kernel
theorem dX3_surplusAt_13 : decode cX3_surplusAt 13 = .ok (.getfield 15, 3) := by decide +kernel
theorem dX3_surplusAt_16 : decode cX3_surplusAt 16 = .ok (.iload_n 3, 1) := by decide +kernel
theorem dX3_surplusAt_17 : decode cX3_surplusAt 17 = .ok (.iaload, 1) := by decide +kernel
theorem dX3_surplusAt_18 : decode cX3_surplusAt 18 = .ok (.iload_n 1, 1) := by decide +kernel
theorem dX3_surplusAt_19 : decode cX3_surplusAt 19 = .ok (.if_icmp .ne 12, 3) := by decide +kernel
theorem dX3_surplusAt_22 : decode cX3_surplusAt 22 = .ok (.iload_n 2, 1) := by decide +kernel
theorem dX3_surplusAt_23 : decode cX3_surplusAt 23 = .ok (.aload_n 0, 1) := by decide +kernel
theorem dX3_surplusAt_24 : decode cX3_surplusAt 24 = .ok (.getfield 18, 3) := by decide +kernel
theorem dX3_surplusAt_27 : decode cX3_surplusAt 27 = .ok (.iload_n 3, 1) := by decide +kernel
theorem dX3_surplusAt_28 : decode cX3_surplusAt 28 = .ok (.iaload, 1) := by decide +kernel
theorem dX3_surplusAt_29 : decode cX3_surplusAt 29 = .ok (.iadd, 1) := by decide +kernel
theorem dX3_surplusAt_30 : decode cX3_surplusAt 30 = .ok (.istore_n 2, 1) := by decide +kernel
theorem dX3_surplusAt_31 : decode cX3_surplusAt 31 = .ok (.aload_n 0, 1) := by decide +kernel
theorem dX3_surplusAt_32 : decode cX3_surplusAt 32 = .ok (.getfield 9, 3) := by decide +kernel
theorem dX3_surplusAt_35 : decode cX3_surplusAt 35 = .ok (.iload_n 3, 1) := by decide +kernel
theorem dX3_surplusAt_36 : decode cX3_surplusAt 36 = .ok (.iaload, 1) := by decide +kernel
theorem dX3_surplusAt_37 : decode cX3_surplusAt 37 = .ok (.iload_n 1, 1) := by decide +kernel
theorem dX3_surplusAt_38 : decode cX3_surplusAt 38 = .ok (.if_icmp .ne 12, 3) := by decide +kernel
theorem dX3_surplusAt_41 : decode cX3_surplusAt 41 = .ok (.iload_n 2, 1) := by decide +kernel
theorem dX3_surplusAt_42 : decode cX3_surplusAt 42 = .ok (.aload_n 0, 1) := by decide +kernel
theorem dX3_surplusAt_43 : decode cX3_surplusAt 43 = .ok (.getfield 18, 3) := by decide +kernel
theorem dX3_surplusAt_46 : decode cX3_surplusAt 46 = .ok (.iload_n 3, 1) := by decide +kernel
theorem dX3_surplusAt_47 : decode cX3_surplusAt 47 = .ok (.iaload, 1) := by decide +kernel
theorem dX3_surplusAt_48 : decode cX3_surplusAt 48 = .ok (.isub, 1) := by decide +kernel
theorem dX3_surplusAt_49 : decode cX3_surplusAt 49 = .ok (.istore_n 2, 1) := by decide +kernel
theorem dX3_surplusAt_50 : decode cX3_surplusAt 50 = .ok (.iinc 3 1, 3) := by decide +kernel
theorem dX3_surplusAt_53 : decode cX3_surplusAt 53 = .ok (.goto (-49), 3) := by decide +kernel
theorem dX3_surplusAt_56 : decode cX3_surplusAt 56 = .ok (.iload_n 2, 1) := by decide +kernel
theorem dX3_surplusAt_57 : decode cX3_surplusAt 57 = .ok (.ireturn, 1) := by decide +kernel
/-! ===== FlowMeters$Works.surplusAt(I)I ===== -/
def fX3_surplusAt_L4 (N : Nat) (n : Nat) (y1 : Int32) (y2 : Int32) (y3 : Int32) (d_t_flows : Int32) (d_t_from : Nat → Int32) (d_t_to : Nat → Int32) (d_t_reading : Nat → Int32) : Option (Int32) := match n with
  | 0 => none
  | n + 1 =>
    (if d_t_flows ≤ y3 then
        some y2
      else
        (ya_rd d_t_to 10 y3).bind fun v2 =>
        (if v2 = y1 then
          (ya_rd d_t_reading 10 y3).bind fun v16 =>
          ya_lt (y2 + v16) fun v18 =>
          (ya_rd d_t_from 10 y3).bind fun v20 =>
          (if v20 = y1 then
            (ya_rd d_t_reading 10 y3).bind fun v25 =>
            ya_lt (v18 - v25) fun v27 =>
            ya_lt (y3 + 1) fun v29 =>
            fX3_surplusAt_L4 N n y1 v27 v29 d_t_flows d_t_from d_t_to d_t_reading
          else
            ya_lt (y3 + 1) fun v23 =>
            fX3_surplusAt_L4 N n y1 v18 v23 d_t_flows d_t_from d_t_to d_t_reading)
        else
          (ya_rd d_t_from 10 y3).bind fun v5 =>
          (if v5 = y1 then
            (ya_rd d_t_reading 10 y3).bind fun v10 =>
            ya_lt (y2 - v10) fun v12 =>
            ya_lt (y3 + 1) fun v14 =>
            fX3_surplusAt_L4 N n y1 v12 v14 d_t_flows d_t_from d_t_to d_t_reading
          else
            ya_lt (y3 + 1) fun v8 =>
            fX3_surplusAt_L4 N n y1 y2 v8 d_t_flows d_t_from d_t_to d_t_reading)))
def fX3_surplusAt (N : Nat) (c_t_flows : Int32) (c_t_from : Nat → Int32) (c_t_to : Nat → Int32) (c_t_reading : Nat → Int32) (x1 : Int32) : Option (Int32) :=
  (fX3_surplusAt_L4 N N x1 0 0 c_t_flows c_t_from c_t_to c_t_reading).bind fun v31 =>
  some v31
theorem fX3_surplusAt_40 : yF wsX3_surplusAt RX3 40 3 1 RX3 TX3 11 := ⟨rfl, by decide, by decide +kernel, by decide +kernel⟩
theorem fX3_surplusAt_15 : yF wsX3_surplusAt RX3 15 3 4 RX3 TX3 11 := ⟨rfl, by decide, by decide +kernel, by decide +kernel⟩
theorem fX3_surplusAt_9 : yF wsX3_surplusAt RX3 9 3 3 RX3 TX3 11 := ⟨rfl, by decide, by decide +kernel, by decide +kernel⟩
theorem fX3_surplusAt_18 : yF wsX3_surplusAt RX3 18 3 5 RX3 TX3 11 := ⟨rfl, by decide, by decide +kernel, by decide +kernel⟩
abbrev rmX3_surplusAt : Room := { frames := 0, cells := 0, slots := 0, locals := 0 }
theorem eX3_surplusAt : yY yX3_surplusAt wsX3_surplusAt cX3_surplusAt 4 (some .int) rmX3_surplusAt 1 := ⟨⟨_, rfl⟩, rfl, rfl, by decide, by decide, by decide +kernel⟩
set_option maxHeartbeats 4000000 in
set_option maxRecDepth 100000 in
theorem mX3_surplusAt {l : Launch} {D : va_G} {sz : Nat} {cI cJ cZ cW cR : ClassId} {N : Nat} {h_t : Nat} {A_t : Nat → Nat} {c_t_knots : Int32} {c_t_flows : Int32} {c_t_readSet : Int32} {c_t_from : Nat → Int32} {c_t_to : Nat → Int32} {c_t_reading : Nat → Int32} {x1 : Int32} {r : Int32} (hf : fX3_surplusAt N c_t_flows c_t_from c_t_to c_t_reading x1 = some r) : Met l yX3_surplusAt wsX3_surplusAt rmX3_surplusAt (yP D (yT cI cJ cZ cW cR) [(h_t, oW A_t c_t_knots c_t_flows c_t_readSet), (A_t 0, eI cI 10 c_t_from), (A_t 1, eI cI 10 c_t_to), (A_t 2, eI cI 10 c_t_reading)] sz [.ref h_t, .int x1]) (yQi D (yT cI cJ cZ cW cR) r [(h_t, oW A_t c_t_knots c_t_flows c_t_readSet), (A_t 0, eI cI 10 c_t_from), (A_t 1, eI cI 10 c_t_to), (A_t 2, eI cI 10 c_t_reading)] (va_A [(h_t, oW A_t c_t_knots c_t_flows c_t_readSet), (A_t 0, eI cI 10 c_t_from), (A_t 1, eI cI 10 c_t_to), (A_t 2, eI cI 10 c_t_reading)] sz)) 0 0 (va_A [(h_t, oW A_t c_t_knots c_t_flows c_t_readSet), (A_t 0, eI cI 10 c_t_from), (A_t 1, eI cI 10 c_t_to), (A_t 2, eI cI 10 c_t_reading)] sz) := by
  refine yM (cc := cX3_surplusAt) (maxL := 4) (ret := (some .int)) RX3 (by decide) rfl rfl (Nat.le_of_ble_eq_true rfl) ?_
  intro p e s m below meth c Γ hr
  have loop4 : ∀ (n : Nat) (y1 : Int32) (y2 : Int32) (y3 : Int32) (d_t_knots : Int32) (d_t_flows : Int32) (d_t_readSet : Int32) (d_t_from : Nat → Int32) (d_t_to : Nat → Int32) (d_t_reading : Nat → Int32) (w0 : Int32), fX3_surplusAt_L4 N n y1 y2 y3 d_t_flows d_t_from d_t_to d_t_reading = some w0 → yG p l e (headSpec wsX3_surplusAt rmX3_surplusAt).room s m (List.toArray [.ref h_t, .int x1]) below meth c D (va_A [(h_t, oW A_t c_t_knots c_t_flows c_t_readSet), (A_t 0, eI cI 10 c_t_from), (A_t 1, eI cI 10 c_t_to), (A_t 2, eI cI 10 c_t_reading)] sz) 4 0 0 (MQ below (yQi D (yT cI cJ cZ cW cR) r [(h_t, oW A_t c_t_knots c_t_flows c_t_readSet), (A_t 0, eI cI 10 c_t_from), (A_t 1, eI cI 10 c_t_to), (A_t 2, eI cI 10 c_t_reading)] (va_A [(h_t, oW A_t c_t_knots c_t_flows c_t_readSet), (A_t 0, eI cI 10 c_t_from), (A_t 1, eI cI 10 c_t_to), (A_t 2, eI cI 10 c_t_reading)] sz)) (List.toArray [.ref h_t, .int x1]) s 0 0 (va_A [(h_t, oW A_t c_t_knots c_t_flows c_t_readSet), (A_t 0, eI cI 10 c_t_from), (A_t 1, eI cI 10 c_t_to), (A_t 2, eI cI 10 c_t_reading)] sz)) 56 [(2, .int w0)] [] [(h_t, oW A_t d_t_knots d_t_flows d_t_readSet), (A_t 0, eI cI 10 d_t_from), (A_t 1, eI cI 10 d_t_to), (A_t 2, eI cI 10 d_t_reading)] → yG p l e (headSpec wsX3_surplusAt rmX3_surplusAt).room s m (List.toArray [.ref h_t, .int x1]) below meth c D (va_A [(h_t, oW A_t c_t_knots c_t_flows c_t_readSet), (A_t 0, eI cI 10 c_t_from), (A_t 1, eI cI 10 c_t_to), (A_t 2, eI cI 10 c_t_reading)] sz) 4 0 0 (MQ below (yQi D (yT cI cJ cZ cW cR) r [(h_t, oW A_t c_t_knots c_t_flows c_t_readSet), (A_t 0, eI cI 10 c_t_from), (A_t 1, eI cI 10 c_t_to), (A_t 2, eI cI 10 c_t_reading)] (va_A [(h_t, oW A_t c_t_knots c_t_flows c_t_readSet), (A_t 0, eI cI 10 c_t_from), (A_t 1, eI cI 10 c_t_to), (A_t 2, eI cI 10 c_t_reading)] sz)) (List.toArray [.ref h_t, .int x1]) s 0 0 (va_A [(h_t, oW A_t c_t_knots c_t_flows c_t_readSet), (A_t 0, eI cI 10 c_t_from), (A_t 1, eI cI 10 c_t_to), (A_t 2, eI cI 10 c_t_reading)] sz)) 4 [(0, .ref h_t), (1, .int y1), (2, .int y2), (3, .int y3)] [] [(h_t, oW A_t d_t_knots d_t_flows d_t_readSet), (A_t 0, eI cI 10 d_t_from), (A_t 1, eI cI 10 d_t_to), (A_t 2, eI cI 10 d_t_reading)] := by
    intro n
    induction n with
    | zero =>
      intro y1 y2 y3 d_t_knots d_t_flows d_t_readSet d_t_from d_t_to d_t_reading w0 hf
      cases hf
    | succ n ih =>
      intro y1 y2 y3 d_t_knots d_t_flows d_t_readSet d_t_from d_t_to d_t_reading w0 hf hk
      unfold fX3_surplusAt_L4 at hf
      refine g_iload_n Γ 3 dX3_surplusAt_4 rfl ?_
      refine g_aload_n Γ 0 dX3_surplusAt_5 rfl ?_
      refine g_get Γ fX3_surplusAt_40 0 rfl rfl dX3_surplusAt_6 ?_
      refine g_icmp_ge Γ 56 dX3_surplusAt_9 (by decide) (fun c1 => ?_) (fun c1 => ?_)
      · have hf := ya_if1 c1 hf
        cases hf
        refine g_lv [2] rfl ?_
        exact hk
      · have hf := ya_if2 c1 hf
        refine g_aload_n Γ 0 dX3_surplusAt_12 rfl ?_
        refine g_get Γ fX3_surplusAt_15 0 rfl rfl dX3_surplusAt_13 ?_
        refine g_iload_n Γ 3 dX3_surplusAt_16 rfl ?_
        obtain ⟨v2, e3, hf⟩ := ya_ob hf
        refine g_iald Γ e3 2 0 rfl rfl dX3_surplusAt_17 ?_
        refine g_iload_n Γ 1 dX3_surplusAt_18 rfl ?_
        refine g_icmp_ne Γ 31 dX3_surplusAt_19 (by decide) (fun c4 => ?_) (fun c4 => ?_)
        · have hf := ya_if2 c4 hf
          refine g_aload_n Γ 0 dX3_surplusAt_31 rfl ?_
          refine g_get Γ fX3_surplusAt_9 0 rfl rfl dX3_surplusAt_32 ?_
          refine g_iload_n Γ 3 dX3_surplusAt_35 rfl ?_
          obtain ⟨v5, e6, hf⟩ := ya_ob hf
          refine g_iald Γ e6 1 0 rfl rfl dX3_surplusAt_36 ?_
          refine g_iload_n Γ 1 dX3_surplusAt_37 rfl ?_
          refine g_icmp_ne Γ 50 dX3_surplusAt_38 (by decide) (fun c7 => ?_) (fun c7 => ?_)
          · have hf := ya_if2 c7 hf
            obtain ⟨v8, e9, hf⟩ := ya_lt_inv hf
            refine g_iinc (lv' := [(3, .int v8), (0, .ref h_t), (1, .int y1), (2, .int y2)]) Γ 3 dX3_surplusAt_50 rfl (by rw [e9]; rfl) (by decide) rfl ?_
            refine g_goto Γ 4 dX3_surplusAt_53 (by decide) ?_
            refine g_lv [1, 2, 3, 0] rfl ?_
            exact ih _ _ _ _ _ _ _ _ _ _ hf hk
          · have hf := ya_if1 c7 hf
            refine g_iload_n Γ 2 dX3_surplusAt_41 rfl ?_
            refine g_aload_n Γ 0 dX3_surplusAt_42 rfl ?_
            refine g_get Γ fX3_surplusAt_18 0 rfl rfl dX3_surplusAt_43 ?_
            refine g_iload_n Γ 3 dX3_surplusAt_46 rfl ?_
            obtain ⟨v10, e11, hf⟩ := ya_ob hf
            refine g_iald Γ e11 3 0 rfl rfl dX3_surplusAt_47 ?_
            refine g_isub Γ dX3_surplusAt_48 ?_
            obtain ⟨v12, e13, hf⟩ := ya_lt_inv hf
            refine g_nmi e13 ?_
            refine g_istore_n (lv' := [(2, .int v12), (0, .ref h_t), (1, .int y1), (3, .int y3)]) Γ dX3_surplusAt_49 (by decide) rfl ?_
            obtain ⟨v14, e15, hf⟩ := ya_lt_inv hf
            refine g_iinc (lv' := [(3, .int v14), (2, .int v12), (0, .ref h_t), (1, .int y1)]) Γ 3 dX3_surplusAt_50 rfl (by rw [e15]; rfl) (by decide) rfl ?_
            refine g_goto Γ 4 dX3_surplusAt_53 (by decide) ?_
            refine g_lv [2, 3, 1, 0] rfl ?_
            exact ih _ _ _ _ _ _ _ _ _ _ hf hk
        · have hf := ya_if1 c4 hf
          refine g_iload_n Γ 2 dX3_surplusAt_22 rfl ?_
          refine g_aload_n Γ 0 dX3_surplusAt_23 rfl ?_
          refine g_get Γ fX3_surplusAt_18 0 rfl rfl dX3_surplusAt_24 ?_
          refine g_iload_n Γ 3 dX3_surplusAt_27 rfl ?_
          obtain ⟨v16, e17, hf⟩ := ya_ob hf
          refine g_iald Γ e17 3 0 rfl rfl dX3_surplusAt_28 ?_
          refine g_iadd Γ dX3_surplusAt_29 ?_
          obtain ⟨v18, e19, hf⟩ := ya_lt_inv hf
          refine g_nmi e19 ?_
          refine g_istore_n (lv' := [(2, .int v18), (0, .ref h_t), (1, .int y1), (3, .int y3)]) Γ dX3_surplusAt_30 (by decide) rfl ?_
          refine g_aload_n Γ 1 dX3_surplusAt_31 rfl ?_
          refine g_get Γ fX3_surplusAt_9 0 rfl rfl dX3_surplusAt_32 ?_
          refine g_iload_n Γ 3 dX3_surplusAt_35 rfl ?_
          obtain ⟨v20, e21, hf⟩ := ya_ob hf
          refine g_iald Γ e21 1 0 rfl rfl dX3_surplusAt_36 ?_
          refine g_iload_n Γ 2 dX3_surplusAt_37 rfl ?_
          refine g_icmp_ne Γ 50 dX3_surplusAt_38 (by decide) (fun c22 => ?_) (fun c22 => ?_)
          · have hf := ya_if2 c22 hf
            obtain ⟨v23, e24, hf⟩ := ya_lt_inv hf
            refine g_iinc (lv' := [(3, .int v23), (2, .int v18), (0, .ref h_t), (1, .int y1)]) Γ 3 dX3_surplusAt_50 rfl (by rw [e24]; rfl) (by decide) rfl ?_
            refine g_goto Γ 4 dX3_surplusAt_53 (by decide) ?_
            refine g_lv [2, 3, 1, 0] rfl ?_
            exact ih _ _ _ _ _ _ _ _ _ _ hf hk
          · have hf := ya_if1 c22 hf
            refine g_iload_n Γ 0 dX3_surplusAt_41 rfl ?_
            refine g_aload_n Γ 1 dX3_surplusAt_42 rfl ?_
            refine g_get Γ fX3_surplusAt_18 0 rfl rfl dX3_surplusAt_43 ?_
            refine g_iload_n Γ 3 dX3_surplusAt_46 rfl ?_
            obtain ⟨v25, e26, hf⟩ := ya_ob hf
            refine g_iald Γ e26 3 0 rfl rfl dX3_surplusAt_47 ?_
            refine g_isub Γ dX3_surplusAt_48 ?_
            obtain ⟨v27, e28, hf⟩ := ya_lt_inv hf
            refine g_nmi e28 ?_
            refine g_istore_n (lv' := [(2, .int v27), (0, .ref h_t), (1, .int y1), (3, .int y3)]) Γ dX3_surplusAt_49 (by decide) rfl ?_
            obtain ⟨v29, e30, hf⟩ := ya_lt_inv hf
            refine g_iinc (lv' := [(3, .int v29), (2, .int v27), (0, .ref h_t), (1, .int y1)]) Γ 3 dX3_surplusAt_50 rfl (by rw [e30]; rfl) (by decide) rfl ?_
            refine g_goto Γ 4 dX3_surplusAt_53 (by decide) ?_
            refine g_lv [2, 3, 1, 0] rfl ?_
            exact ih _ _ _ _ _ _ _ _ _ _ hf hk
  show yG p l e (headSpec wsX3_surplusAt rmX3_surplusAt).room s m (List.toArray [.ref h_t, .int x1]) below meth c D (va_A [(h_t, oW A_t c_t_knots c_t_flows c_t_readSet), (A_t 0, eI cI 10 c_t_from), (A_t 1, eI cI 10 c_t_to), (A_t 2, eI cI 10 c_t_reading)] sz) 4 0 0 (MQ below (yQi D (yT cI cJ cZ cW cR) r [(h_t, oW A_t c_t_knots c_t_flows c_t_readSet), (A_t 0, eI cI 10 c_t_from), (A_t 1, eI cI 10 c_t_to), (A_t 2, eI cI 10 c_t_reading)] (va_A [(h_t, oW A_t c_t_knots c_t_flows c_t_readSet), (A_t 0, eI cI 10 c_t_from), (A_t 1, eI cI 10 c_t_to), (A_t 2, eI cI 10 c_t_reading)] sz)) (List.toArray [.ref h_t, .int x1]) s 0 0 (va_A [(h_t, oW A_t c_t_knots c_t_flows c_t_readSet), (A_t 0, eI cI 10 c_t_from), (A_t 1, eI cI 10 c_t_to), (A_t 2, eI cI 10 c_t_reading)] sz)) 0 [(0, .ref h_t), (1, .int x1)] [] [(h_t, oW A_t c_t_knots c_t_flows c_t_readSet), (A_t 0, eI cI 10 c_t_from), (A_t 1, eI cI 10 c_t_to), (A_t 2, eI cI 10 c_t_reading)]
  unfold fX3_surplusAt at hf
  refine g_iconst (v := 0) Γ dX3_surplusAt_0 (by decide) ?_
  refine g_istore_n (lv' := [(2, .int 0), (0, .ref h_t), (1, .int x1)]) Γ dX3_surplusAt_1 (by decide) rfl ?_
  refine g_iconst (v := 0) Γ dX3_surplusAt_2 (by decide) ?_
  refine g_istore_n (lv' := [(3, .int 0), (2, .int 0), (0, .ref h_t), (1, .int x1)]) Γ dX3_surplusAt_3 (by decide) rfl ?_
  obtain ⟨v31, e32, hf⟩ := ya_ob hf
  refine g_lv [2, 3, 1, 0] rfl ?_
  refine loop4 N _ _ _ _ _ _ _ _ _ _ e32  ?_
  refine g_iload_n Γ 0 dX3_surplusAt_56 rfl ?_
  cases hf
  exact g_iret Γ hr dX3_surplusAt_57 [0, 1, 2, 3] rfl rfl

