theorem dX5_isIn_0 : decode cX5_isIn 0 = .ok (.iload_n 0, 1) := by decide +kernel
theorem dX5_isIn_1 : decode cX5_isIn 1 = .ok (.iload_n 1, 1) := by decide +kernel
theorem dX5_isIn_2 : decode cX5_isIn 2 = .ok (.if_icmp .lt 12, 3) := by decide +kernel
theorem dX5_isIn_5 : decode cX5_isIn 5 = .ok (.iload_n 0, 1) := by decide +kernel
theorem dX5_isIn_6 : decode cX5_isIn 6 = .ok (.iload_n 2, 1) := by decide +kernel
theorem dX5_isIn_7 : decode cX5_isIn 7 = .ok (.if_icmp .gt 7, 3) := by decide +kernel
theorem dX5_isIn_10 : decode cX5_isIn 10 = .ok (.iconst 1, 1) := by decide +kernel
theorem dX5_isIn_11 : decode cX5_isIn 11 = .ok (.goto 4, 3) := by decide +kernel
theorem dX5_isIn_14 : decode cX5_isIn 14 = .ok (.iconst 0, 1) := by decide +kernel
theorem dX5_isIn_15 : decode cX5_isIn 15 = .ok (.ireturn, 1) := by decide +kernel
/-! ===== FlowMetersModel.isIn(III)Z ===== -/
def fX5_isIn  (x0 : Int32) (x1 : Int32) (x2 : Int32) : Option (Int32) :=
  (if x0 < x1 then
    some 0
  else
    (if x2 < x0 then
      some 0
    else
      some 1))
abbrev rmX5_isIn : Room := { frames := 0, cells := 0, slots := 0, locals := 0 }
theorem eX5_isIn : yY yX5_isIn wsX5_isIn cX5_isIn 3 (some .boolean) rmX5_isIn 3 := ⟨⟨_, rfl⟩, rfl, rfl, by decide, by decide, by decide +kernel⟩
set_option maxHeartbeats 4000000 in
set_option maxRecDepth 100000 in
theorem mX5_isIn {l : Launch} {D : va_G} {sz : Nat} {cI cJ cZ cW cR : ClassId} {x0 : Int32} {x1 : Int32} {x2 : Int32} {r : Int32} (hf : fX5_isIn x0 x1 x2 = some r) : Met l yX5_isIn wsX5_isIn rmX5_isIn (yP D (yT cI cJ cZ cW cR) [] sz [.int x0, .int x1, .int x2]) (yQi D (yT cI cJ cZ cW cR) r [] (va_A [] sz)) 0 0 (va_A [] sz) := by
  refine yM (cc := cX5_isIn) (maxL := 3) (ret := (some .boolean)) RX5 (by decide) rfl rfl (Nat.le_of_ble_eq_true rfl) ?_
  intro p e s m below meth c Γ hr
  show yG p l e (headSpec wsX5_isIn rmX5_isIn).room s m (List.toArray [.int x0, .int x1, .int x2]) below meth c D (va_A [] sz) 3 0 0 (MQ below (yQi D (yT cI cJ cZ cW cR) r [] (va_A [] sz)) (List.toArray [.int x0, .int x1, .int x2]) s 0 0 (va_A [] sz)) 0 [(0, .int x0), (1, .int x1), (2, .int x2)] [] []
  unfold fX5_isIn at hf
  refine g_iload_n Γ 0 dX5_isIn_0 rfl ?_
  refine g_iload_n Γ 1 dX5_isIn_1 rfl ?_
  refine g_icmp_lt Γ 14 dX5_isIn_2 (by decide) (fun c1 => ?_) (fun c1 => ?_)
  · have hf := ya_if1 c1 hf
    refine g_iconst (v := 0) Γ dX5_isIn_14 (by decide) ?_
    cases hf
    exact g_zret Γ hr (show ya_bo 0 = some 0 from rfl) dX5_isIn_15 [] rfl rfl
  · have hf := ya_if2 c1 hf
    refine g_iload_n Γ 0 dX5_isIn_5 rfl ?_
    refine g_iload_n Γ 2 dX5_isIn_6 rfl ?_
    refine g_icmp_gt Γ 14 dX5_isIn_7 (by decide) (fun c2 => ?_) (fun c2 => ?_)
    · have hf := ya_if1 c2 hf
      refine g_iconst (v := 0) Γ dX5_isIn_14 (by decide) ?_
      cases hf
      exact g_zret Γ hr (show ya_bo 0 = some 0 from rfl) dX5_isIn_15 [] rfl rfl
    · have hf := ya_if2 c2 hf
      refine g_iconst (v := 1) Γ dX5_isIn_10 (by decide) ?_
      refine g_goto Γ 15 dX5_isIn_11 (by decide) ?_
      cases hf
      exact g_zret Γ hr (show ya_bo 1 = some 1 from rfl) dX5_isIn_15 [] rfl rfl

theorem dX5_knots_0 : decode cX5_knots 0 = .ok (.aload_n 0, 1) := by decide +kernel
theorem dX5_knots_1 : decode cX5_knots 1 = .ok (.getfield 7, 3) := by decide +kernel
theorem dX5_knots_4 : decode cX5_knots 4 = .ok (.iconst 0, 1) := by decide +kernel
theorem dX5_knots_5 : decode cX5_knots 5 = .ok (.iaload, 1) := by decide +kernel
theorem dX5_knots_6 : decode cX5_knots 6 = .ok (.ireturn, 1) := by decide +kernel
/-! ===== FlowMetersModel.knots()I ===== -/
def fX5_knots (c_t_now : Nat → Int32)  : Option (Int32) :=
  (ya_rd c_t_now 242 0).bind fun v1 =>
  some v1
theorem fX5_knots_7 : yF wsX5_knots RX5 7 5 0 RX5 TX5 19 := ⟨rfl, by decide, by decide +kernel, by decide +kernel⟩
abbrev rmX5_knots : Room := { frames := 0, cells := 0, slots := 0, locals := 0 }
theorem eX5_knots : yY yX5_knots wsX5_knots cX5_knots 1 (some .int) rmX5_knots 0 := ⟨⟨_, rfl⟩, rfl, rfl, by decide, by decide, by decide +kernel⟩
set_option maxHeartbeats 4000000 in
set_option maxRecDepth 100000 in
theorem mX5_knots {l : Launch} {D : va_G} {sz : Nat} {cI cJ cZ cW cR : ClassId} {h_t : Nat} {A_t : Nat → Nat} {c_t_many : Int32} {c_t_below : Int64} {c_t_above1 : Int64} {c_t_below1 : Int64} {c_t_now : Nat → Int32} {r : Int32} (hf : fX5_knots c_t_now = some r) : Met l yX5_knots wsX5_knots rmX5_knots (yP D (yT cI cJ cZ cW cR) [(h_t, oR A_t c_t_many c_t_below c_t_above1 c_t_below1), (A_t 0, eI cI 242 c_t_now)] sz [.ref h_t]) (yQi D (yT cI cJ cZ cW cR) r [(h_t, oR A_t c_t_many c_t_below c_t_above1 c_t_below1), (A_t 0, eI cI 242 c_t_now)] (va_A [(h_t, oR A_t c_t_many c_t_below c_t_above1 c_t_below1), (A_t 0, eI cI 242 c_t_now)] sz)) 0 0 (va_A [(h_t, oR A_t c_t_many c_t_below c_t_above1 c_t_below1), (A_t 0, eI cI 242 c_t_now)] sz) := by
  refine yM (cc := cX5_knots) (maxL := 1) (ret := (some .int)) RX5 (by decide) rfl rfl (Nat.le_of_ble_eq_true rfl) ?_
  intro p e s m below meth c Γ hr
  show yG p l e (headSpec wsX5_knots rmX5_knots).room s m (List.toArray [.ref h_t]) below meth c D (va_A [(h_t, oR A_t c_t_many c_t_below c_t_above1 c_t_below1), (A_t 0, eI cI 242 c_t_now)] sz) 1 0 0 (MQ below (yQi D (yT cI cJ cZ cW cR) r [(h_t, oR A_t c_t_many c_t_below c_t_above1 c_t_below1), (A_t 0, eI cI 242 c_t_now)] (va_A [(h_t, oR A_t c_t_many c_t_below c_t_above1 c_t_below1), (A_t 0, eI cI 242 c_t_now)] sz)) (List.toArray [.ref h_t]) s 0 0 (va_A [(h_t, oR A_t c_t_many c_t_below c_t_above1 c_t_below1), (A_t 0, eI cI 242 c_t_now)] sz)) 0 [(0, .ref h_t)] [] [(h_t, oR A_t c_t_many c_t_below c_t_above1 c_t_below1), (A_t 0, eI cI 242 c_t_now)]
  unfold fX5_knots at hf
  refine g_aload_n Γ 0 dX5_knots_0 rfl ?_
  refine g_get Γ fX5_knots_7 0 rfl rfl dX5_knots_1 ?_
  refine g_iconst (v := 0) Γ dX5_knots_4 (by decide) ?_
  obtain ⟨v1, e2, hf⟩ := ya_ob hf
  refine g_iald Γ e2 1 0 rfl rfl dX5_knots_5 ?_
  cases hf
  exact g_iret Γ hr dX5_knots_6 [0, 1] rfl rfl

theorem dX5_flows_0 : decode cX5_flows 0 = .ok (.aload_n 0, 1) := by decide +kernel
theorem dX5_flows_1 : decode cX5_flows 1 = .ok (.getfield 7, 3) := by decide +kernel
theorem dX5_flows_4 : decode cX5_flows 4 = .ok (.iconst 1, 1) := by decide +kernel
theorem dX5_flows_5 : decode cX5_flows 5 = .ok (.iaload, 1) := by decide +kernel
theorem dX5_flows_6 : decode cX5_flows 6 = .ok (.ireturn, 1) := by decide +kernel
/-! ===== FlowMetersModel.flows()I ===== -/
def fX5_flows (c_t_now : Nat → Int32)  : Option (Int32) :=
  (ya_rd c_t_now 242 1).bind fun v1 =>
  some v1
theorem fX5_flows_7 : yF wsX5_flows RX5 7 5 0 RX5 TX5 19 := ⟨rfl, by decide, by decide +kernel, by decide +kernel⟩
abbrev rmX5_flows : Room := { frames := 0, cells := 0, slots := 0, locals := 0 }
theorem eX5_flows : yY yX5_flows wsX5_flows cX5_flows 1 (some .int) rmX5_flows 0 := ⟨⟨_, rfl⟩, rfl, rfl, by decide, by decide, by decide +kernel⟩
set_option maxHeartbeats 4000000 in
set_option maxRecDepth 100000 in
theorem mX5_flows {l : Launch} {D : va_G} {sz : Nat} {cI cJ cZ cW cR : ClassId} {h_t : Nat} {A_t : Nat → Nat} {c_t_many : Int32} {c_t_below : Int64} {c_t_above1 : Int64} {c_t_below1 : Int64} {c_t_now : Nat → Int32} {r : Int32} (hf : fX5_flows c_t_now = some r) : Met l yX5_flows wsX5_flows rmX5_flows (yP D (yT cI cJ cZ cW cR) [(h_t, oR A_t c_t_many c_t_below c_t_above1 c_t_below1), (A_t 0, eI cI 242 c_t_now)] sz [.ref h_t]) (yQi D (yT cI cJ cZ cW cR) r [(h_t, oR A_t c_t_many c_t_below c_t_above1 c_t_below1), (A_t 0, eI cI 242 c_t_now)] (va_A [(h_t, oR A_t c_t_many c_t_below c_t_above1 c_t_below1), (A_t 0, eI cI 242 c_t_now)] sz)) 0 0 (va_A [(h_t, oR A_t c_t_many c_t_below c_t_above1 c_t_below1), (A_t 0, eI cI 242 c_t_now)] sz) := by
  refine yM (cc := cX5_flows) (maxL := 1) (ret := (some .int)) RX5 (by decide) rfl rfl (Nat.le_of_ble_eq_true rfl) ?_
  intro p e s m below meth c Γ hr
  show yG p l e (headSpec wsX5_flows rmX5_flows).room s m (List.toArray [.ref h_t]) below meth c D (va_A [(h_t, oR A_t c_t_many c_t_below c_t_above1 c_t_below1), (A_t 0, eI cI 242 c_t_now)] sz) 1 0 0 (MQ below (yQi D (yT cI cJ cZ cW cR) r [(h_t, oR A_t c_t_many c_t_below c_t_above1 c_t_below1), (A_t 0, eI cI 242 c_t_now)] (va_A [(h_t, oR A_t c_t_many c_t_below c_t_above1 c_t_below1), (A_t 0, eI cI 242 c_t_now)] sz)) (List.toArray [.ref h_t]) s 0 0 (va_A [(h_t, oR A_t c_t_many c_t_below c_t_above1 c_t_below1), (A_t 0, eI cI 242 c_t_now)] sz)) 0 [(0, .ref h_t)] [] [(h_t, oR A_t c_t_many c_t_below c_t_above1 c_t_below1), (A_t 0, eI cI 242 c_t_now)]
  unfold fX5_flows at hf
  refine g_aload_n Γ 0 dX5_flows_0 rfl ?_
  refine g_get Γ fX5_flows_7 0 rfl rfl dX5_flows_1 ?_
  refine g_iconst (v := 1) Γ dX5_flows_4 (by decide) ?_
  obtain ⟨v1, e2, hf⟩ := ya_ob hf
  refine g_iald Γ e2 1 0 rfl rfl dX5_flows_5 ?_
  cases hf
  exact g_iret Γ hr dX5_flows_6 [0, 1] rfl rfl

theorem dX5_get_0 : decode cX5_get 0 = .ok (.aload_n 0, 1) := by decide +kernel
theorem dX5_get_1 : decode cX5_get 1 = .ok (.getfield 7, 3) := by decide +kernel
theorem dX5_get_4 : decode cX5_get 4 = .ok (.iconst 2, 1) := by decide +kernel
theorem dX5_get_5 : decode cX5_get 5 = .ok (.bipush 24, 2) := by decide +kernel
theorem dX5_get_7 : decode cX5_get 7 = .ok (.iload_n 1, 1) := by decide +kernel
theorem dX5_get_8 : decode cX5_get 8 = .ok (.imul, 1) := by decide +kernel
theorem dX5_get_9 : decode cX5_get 9 = .ok (.iadd, 1) := by decide +kernel
theorem dX5_get_10 : decode cX5_get 10 = .ok (.iload_n 2, 1) := by decide +kernel
theorem dX5_get_11 : decode cX5_get 11 = .ok (.iadd, 1) := by decide +kernel
theorem dX5_get_12 : decode cX5_get 12 = .ok (.iaload, 1) := by decide +kernel
theorem dX5_get_13 : decode cX5_get 13 = .ok (.ireturn, 1) := by decide +kernel
/-! ===== FlowMetersModel.get(II)I ===== -/
def fX5_get (c_t_now : Nat → Int32) (x1 : Int32) (x2 : Int32) : Option (Int32) :=
  (ya_rd c_t_now 242 ((2 + (24 * x1)) + x2)).bind fun v1 =>
  some v1
theorem fX5_get_7 : yF wsX5_get RX5 7 5 0 RX5 TX5 19 := ⟨rfl, by decide, by decide +kernel, by decide +kernel⟩
abbrev rmX5_get : Room := { frames := 0, cells := 0, slots := 0, locals := 0 }
theorem eX5_get : yY yX5_get wsX5_get cX5_get 3 (some .int) rmX5_get 2 := ⟨⟨_, rfl⟩, rfl, rfl, by decide, by decide, by decide +kernel⟩
set_option maxHeartbeats 4000000 in
set_option maxRecDepth 100000 in
theorem mX5_get {l : Launch} {D : va_G} {sz : Nat} {cI cJ cZ cW cR : ClassId} {h_t : Nat} {A_t : Nat → Nat} {c_t_many : Int32} {c_t_below : Int64} {c_t_above1 : Int64} {c_t_below1 : Int64} {c_t_now : Nat → Int32} {x1 : Int32} {x2 : Int32} {r : Int32} (hf : fX5_get c_t_now x1 x2 = some r) : Met l yX5_get wsX5_get rmX5_get (yP D (yT cI cJ cZ cW cR) [(h_t, oR A_t c_t_many c_t_below c_t_above1 c_t_below1), (A_t 0, eI cI 242 c_t_now)] sz [.ref h_t, .int x1, .int x2]) (yQi D (yT cI cJ cZ cW cR) r [(h_t, oR A_t c_t_many c_t_below c_t_above1 c_t_below1), (A_t 0, eI cI 242 c_t_now)] (va_A [(h_t, oR A_t c_t_many c_t_below c_t_above1 c_t_below1), (A_t 0, eI cI 242 c_t_now)] sz)) 0 0 (va_A [(h_t, oR A_t c_t_many c_t_below c_t_above1 c_t_below1), (A_t 0, eI cI 242 c_t_now)] sz) := by
  refine yM (cc := cX5_get) (maxL := 3) (ret := (some .int)) RX5 (by decide) rfl rfl (Nat.le_of_ble_eq_true rfl) ?_
  intro p e s m below meth c Γ hr
  show yG p l e (headSpec wsX5_get rmX5_get).room s m (List.toArray [.ref h_t, .int x1, .int x2]) below meth c D (va_A [(h_t, oR A_t c_t_many c_t_below c_t_above1 c_t_below1), (A_t 0, eI cI 242 c_t_now)] sz) 3 0 0 (MQ below (yQi D (yT cI cJ cZ cW cR) r [(h_t, oR A_t c_t_many c_t_below c_t_above1 c_t_below1), (A_t 0, eI cI 242 c_t_now)] (va_A [(h_t, oR A_t c_t_many c_t_below c_t_above1 c_t_below1), (A_t 0, eI cI 242 c_t_now)] sz)) (List.toArray [.ref h_t, .int x1, .int x2]) s 0 0 (va_A [(h_t, oR A_t c_t_many c_t_below c_t_above1 c_t_below1), (A_t 0, eI cI 242 c_t_now)] sz)) 0 [(0, .ref h_t), (1, .int x1), (2, .int x2)] [] [(h_t, oR A_t c_t_many c_t_below c_t_above1 c_t_below1), (A_t 0, eI cI 242 c_t_now)]
  unfold fX5_get at hf
  refine g_aload_n Γ 0 dX5_get_0 rfl ?_
  refine g_get Γ fX5_get_7 0 rfl rfl dX5_get_1 ?_
  refine g_iconst (v := 2) Γ dX5_get_4 (by decide) ?_
  refine g_bipush (v := 24) Γ dX5_get_5 (by decide) ?_
  refine g_iload_n Γ 1 dX5_get_7 rfl ?_
  refine g_imul Γ dX5_get_8 ?_
  refine g_iadd Γ dX5_get_9 ?_
  refine g_iload_n Γ 2 dX5_get_10 rfl ?_
  refine g_iadd Γ dX5_get_11 ?_
  obtain ⟨v1, e2, hf⟩ := ya_ob hf
  refine g_iald Γ e2 1 0 rfl rfl dX5_get_12 ?_
  cases hf
  exact g_iret Γ hr dX5_get_13 [0, 1] rfl rfl

theorem dX5_set_0 : decode cX5_set 0 = .ok (.aload_n 0, 1) := by decide +kernel
theorem dX5_set_1 : decode cX5_set 1 = .ok (.getfield 7, 3) := by decide +kernel
theorem dX5_set_4 : decode cX5_set 4 = .ok (.iconst 2, 1) := by decide +kernel
theorem dX5_set_5 : decode cX5_set 5 = .ok (.bipush 24, 2) := by decide +kernel
theorem dX5_set_7 : decode cX5_set 7 = .ok (.iload_n 1, 1) := by decide +kernel
theorem dX5_set_8 : decode cX5_set 8 = .ok (.imul, 1) := by decide +kernel
theorem dX5_set_9 : decode cX5_set 9 = .ok (.iadd, 1) := by decide +kernel
theorem dX5_set_10 : decode cX5_set 10 = .ok (.iload_n 2, 1) := by decide +kernel
theorem dX5_set_11 : decode cX5_set 11 = .ok (.iadd, 1) := by decide +kernel
theorem dX5_set_12 : decode cX5_set 12 = .ok (.iload_n 3, 1) := by decide +kernel
theorem dX5_set_13 : decode cX5_set 13 = .ok (.iastore, 1) := by decide +kernel
theorem dX5_set_14 : decode cX5_set 14 = .ok (.return_, 1) := by decide +kernel
/-! ===== FlowMetersModel.set(III)V ===== -/
def fX5_set (c_t_now : Nat → Int32) (x1 : Int32) (x2 : Int32) (x3 : Int32) : Option (Nat → Int32) :=
  (ya_wr c_t_now 242 ((2 + (24 * x1)) + x2) x3).bind fun v1 =>
  some v1
theorem fX5_set_7 : yF wsX5_set RX5 7 5 0 RX5 TX5 19 := ⟨rfl, by decide, by decide +kernel, by decide +kernel⟩
abbrev rmX5_set : Room := { frames := 0, cells := 0, slots := 0, locals := 0 }
theorem eX5_set : yY yX5_set wsX5_set cX5_set 4 none rmX5_set 3 := ⟨⟨_, rfl⟩, rfl, rfl, by decide, by decide, by decide +kernel⟩
set_option maxHeartbeats 4000000 in
set_option maxRecDepth 100000 in
theorem mX5_set {l : Launch} {D : va_G} {sz : Nat} {cI cJ cZ cW cR : ClassId} {h_t : Nat} {A_t : Nat → Nat} {c_t_many : Int32} {c_t_below : Int64} {c_t_above1 : Int64} {c_t_below1 : Int64} {c_t_now : Nat → Int32} {x1 : Int32} {x2 : Int32} {x3 : Int32} {zc_t_now : Nat → Int32} (hf : fX5_set c_t_now x1 x2 x3 = some zc_t_now) : Met l yX5_set wsX5_set rmX5_set (yP D (yT cI cJ cZ cW cR) [(h_t, oR A_t c_t_many c_t_below c_t_above1 c_t_below1), (A_t 0, eI cI 242 c_t_now)] sz [.ref h_t, .int x1, .int x2, .int x3]) (yQv D (yT cI cJ cZ cW cR) [(h_t, oR A_t c_t_many c_t_below c_t_above1 c_t_below1), (A_t 0, eI cI 242 zc_t_now)] (va_A [(h_t, oR A_t c_t_many c_t_below c_t_above1 c_t_below1), (A_t 0, eI cI 242 c_t_now)] sz)) 0 0 (va_A [(h_t, oR A_t c_t_many c_t_below c_t_above1 c_t_below1), (A_t 0, eI cI 242 c_t_now)] sz) := by
  refine yM (cc := cX5_set) (maxL := 4) (ret := none) RX5 (by decide) rfl rfl (Nat.le_of_ble_eq_true rfl) ?_
  intro p e s m below meth c Γ hr
  show yG p l e (headSpec wsX5_set rmX5_set).room s m (List.toArray [.ref h_t, .int x1, .int x2, .int x3]) below meth c D (va_A [(h_t, oR A_t c_t_many c_t_below c_t_above1 c_t_below1), (A_t 0, eI cI 242 c_t_now)] sz) 4 0 0 (MQ below (yQv D (yT cI cJ cZ cW cR) [(h_t, oR A_t c_t_many c_t_below c_t_above1 c_t_below1), (A_t 0, eI cI 242 zc_t_now)] (va_A [(h_t, oR A_t c_t_many c_t_below c_t_above1 c_t_below1), (A_t 0, eI cI 242 c_t_now)] sz)) (List.toArray [.ref h_t, .int x1, .int x2, .int x3]) s 0 0 (va_A [(h_t, oR A_t c_t_many c_t_below c_t_above1 c_t_below1), (A_t 0, eI cI 242 c_t_now)] sz)) 0 [(0, .ref h_t), (1, .int x1), (2, .int x2), (3, .int x3)] [] [(h_t, oR A_t c_t_many c_t_below c_t_above1 c_t_below1), (A_t 0, eI cI 242 c_t_now)]
  unfold fX5_set at hf
  refine g_aload_n Γ 0 dX5_set_0 rfl ?_
  refine g_get Γ fX5_set_7 0 rfl rfl dX5_set_1 ?_
  refine g_iconst (v := 2) Γ dX5_set_4 (by decide) ?_
  refine g_bipush (v := 24) Γ dX5_set_5 (by decide) ?_
  refine g_iload_n Γ 1 dX5_set_7 rfl ?_
  refine g_imul Γ dX5_set_8 ?_
  refine g_iadd Γ dX5_set_9 ?_
  refine g_iload_n Γ 2 dX5_set_10 rfl ?_
  refine g_iadd Γ dX5_set_11 ?_
  refine g_iload_n Γ 3 dX5_set_12 rfl ?_
  obtain ⟨v1, e2, hf⟩ := ya_ob hf
  refine g_iast (ws' := [(h_t, oR A_t c_t_many c_t_below c_t_above1 c_t_below1), (A_t 0, eI cI 242 v1)]) Γ e2 1 0 rfl rfl dX5_set_13 rfl ?_
  cases hf
  exact g_vret Γ hr dX5_set_14 [0, 1] rfl rfl

set_option maxRecDepth 20000 in
theorem ggX5_isFlow_X5_flows : GoodIn wsX5_isFlow wsX5_flows := goodIn_r _ [5, 6, 10, 11, 12, 13, 14, 15, 16, 17, 18, 19, 20, 21, 22, 23, 24, 25, 26, 27, 28] (by decide +kernel) (by decide +kernel)
set_option maxRecDepth 20000 in
theorem gX5_isFlow_X5_flows : GoodIn wsX5_isFlow (wsV RX5 57 RX5 yX5_flows wsX5_flows) := goodIn_app (goodIn_of _ (by decide +kernel)) ggX5_isFlow_X5_flows
set_option maxRecDepth 20000 in
theorem ggX5_isFlow_X5_isIn : GoodIn wsX5_isFlow wsX5_isIn := goodIn_r _ [9] (by decide +kernel) (by decide +kernel)
set_option maxRecDepth 20000 in
theorem gX5_isFlow_X5_isIn : GoodIn wsX5_isFlow (va_wsS RX5 61 yX5_isIn wsX5_isIn) := goodIn_app (goodIn_of _ (by decide +kernel)) ggX5_isFlow_X5_isIn
theorem dX5_isFlow_0 : decode cX5_isFlow 0 = .ok (.iload_n 1, 1) := by decide +kernel
theorem dX5_isFlow_1 : decode cX5_isFlow 1 = .ok (.iconst 0, 1) := by decide +kernel
theorem dX5_isFlow_2 : decode cX5_isFlow 2 = .ok (.aload_n 0, 1) := by decide +kernel
theorem dX5_isFlow_3 : decode cX5_isFlow 3 = .ok (.invokevirtual 57, 3) := by decide +kernel
theorem dX5_isFlow_6 : decode cX5_isFlow 6 = .ok (.iconst 1, 1) := by decide +kernel
theorem dX5_isFlow_7 : decode cX5_isFlow 7 = .ok (.isub, 1) := by decide +kernel
theorem dX5_isFlow_8 : decode cX5_isFlow 8 = .ok (.invokestatic 61, 3) := by decide +kernel
theorem dX5_isFlow_11 : decode cX5_isFlow 11 = .ok (.ireturn, 1) := by decide +kernel
/-! ===== FlowMetersModel.isFlow(I)Z ===== -/
def fX5_isFlow (c_t_now : Nat → Int32) (x1 : Int32) : Option (Int32) :=
  (fX5_flows c_t_now).bind fun v1 =>
  (fX5_isIn x1 0 (v1 - 1)).bind fun v3 =>
  (ya_bo v3).bind fun v5 => some v5
abbrev rmX5_isFlow : Room := { frames := 1, cells := 0, slots := 0, locals := 22 }
theorem eX5_isFlow : yY yX5_isFlow wsX5_isFlow cX5_isFlow 2 (some .boolean) rmX5_isFlow 1 := ⟨⟨_, rfl⟩, rfl, rfl, by decide, by decide, by decide +kernel⟩
set_option maxHeartbeats 4000000 in
set_option maxRecDepth 100000 in
theorem mX5_isFlow {l : Launch} {D : va_G} {sz : Nat} {cI cJ cZ cW cR : ClassId} {h_t : Nat} {A_t : Nat → Nat} {c_t_many : Int32} {c_t_below : Int64} {c_t_above1 : Int64} {c_t_below1 : Int64} {c_t_now : Nat → Int32} {x1 : Int32} {r : Int32} (hf : fX5_isFlow c_t_now x1 = some r) : Met l yX5_isFlow wsX5_isFlow rmX5_isFlow (yP D (yT cI cJ cZ cW cR) [(h_t, oR A_t c_t_many c_t_below c_t_above1 c_t_below1), (A_t 0, eI cI 242 c_t_now)] sz [.ref h_t, .int x1]) (yQi D (yT cI cJ cZ cW cR) r [(h_t, oR A_t c_t_many c_t_below c_t_above1 c_t_below1), (A_t 0, eI cI 242 c_t_now)] (va_A [(h_t, oR A_t c_t_many c_t_below c_t_above1 c_t_below1), (A_t 0, eI cI 242 c_t_now)] sz)) 0 0 (va_A [(h_t, oR A_t c_t_many c_t_below c_t_above1 c_t_below1), (A_t 0, eI cI 242 c_t_now)] sz) := by
  refine yM (cc := cX5_isFlow) (maxL := 2) (ret := (some .boolean)) RX5 (by decide) rfl rfl (Nat.le_of_ble_eq_true rfl) ?_
  intro p e s m below meth c Γ hr
  show yG p l e (headSpec wsX5_isFlow rmX5_isFlow).room s m (List.toArray [.ref h_t, .int x1]) below meth c D (va_A [(h_t, oR A_t c_t_many c_t_below c_t_above1 c_t_below1), (A_t 0, eI cI 242 c_t_now)] sz) 2 0 0 (MQ below (yQi D (yT cI cJ cZ cW cR) r [(h_t, oR A_t c_t_many c_t_below c_t_above1 c_t_below1), (A_t 0, eI cI 242 c_t_now)] (va_A [(h_t, oR A_t c_t_many c_t_below c_t_above1 c_t_below1), (A_t 0, eI cI 242 c_t_now)] sz)) (List.toArray [.ref h_t, .int x1]) s 0 0 (va_A [(h_t, oR A_t c_t_many c_t_below c_t_above1 c_t_below1), (A_t 0, eI cI 242 c_t_now)] sz)) 0 [(0, .ref h_t), (1, .int x1)] [] [(h_t, oR A_t c_t_many c_t_below c_t_above1 c_t_below1), (A_t 0, eI cI 242 c_t_now)]
  unfold fX5_isFlow at hf
  refine g_iload_n Γ 1 dX5_isFlow_0 rfl ?_
  refine g_iconst (v := 0) Γ dX5_isFlow_1 (by decide) ?_
  refine g_aload_n Γ 0 dX5_isFlow_2 rfl ?_
  obtain ⟨v1, e2, hf⟩ := ya_ob hf
  refine g_vi (q := (RX5, TX5, 19)) (wr := []) (ws' := [(h_t, oR A_t c_t_many c_t_below c_t_above1 c_t_below1), (A_t 0, eI cI 242 c_t_now)]) Γ (fun sz => mX5_flows (l := l) (D := D) (sz := sz) (cI := cI) (cJ := cJ) (cZ := cZ) (cW := cW) (cR := cR) (h_t := h_t) (A_t := A_t) (hf := e2)) eX5_flows gX5_isFlow_X5_flows rfl rfl 0 rfl rfl rfl (Nat.le_of_ble_eq_true rfl) ⟨Nat.le_of_ble_eq_true rfl, Nat.le_of_ble_eq_true rfl⟩ dX5_isFlow_3 [0, 1] [] rfl rfl rfl rfl (by decide) rfl ?_
  refine g_iconst (v := 1) Γ dX5_isFlow_6 (by decide) ?_
  refine g_isub Γ dX5_isFlow_7 ?_
  obtain ⟨v3, e4, hf⟩ := ya_ob hf
  refine g_si (wr := [(h_t, oR A_t c_t_many c_t_below c_t_above1 c_t_below1), (A_t 0, eI cI 242 c_t_now)]) (ws' := [(h_t, oR A_t c_t_many c_t_below c_t_above1 c_t_below1), (A_t 0, eI cI 242 c_t_now)]) Γ (fun sz => mX5_isIn (l := l) (D := D) (sz := sz) (cI := cI) (cJ := cJ) (cZ := cZ) (cW := cW) (cR := cR)  (hf := e4)) eX5_isIn ggX5_isFlow_X5_isIn (by decide +kernel) (by decide +kernel) (by decide +kernel) rfl rfl (Nat.le_of_ble_eq_true rfl) ⟨Nat.le_of_ble_eq_true rfl, Nat.le_of_ble_eq_true rfl⟩ dX5_isFlow_8 [] [0, 1] rfl rfl rfl rfl (by decide) rfl ?_
  obtain ⟨v5, e6, hf⟩ := ya_ob hf
  cases hf
  exact g_zret Γ hr e6 dX5_isFlow_11 [0, 1] rfl rfl

set_option maxRecDepth 20000 in
theorem ggX5_isKnot_X5_knots : GoodIn wsX5_isKnot wsX5_knots := goodIn_r _ [5, 6, 10, 11, 12, 13, 14, 15, 16, 17, 18, 19, 20, 21, 22, 23, 24, 25, 26, 27, 28] (by decide +kernel) (by decide +kernel)
set_option maxRecDepth 20000 in
theorem gX5_isKnot_X5_knots : GoodIn wsX5_isKnot (wsV RX5 65 RX5 yX5_knots wsX5_knots) := goodIn_app (goodIn_of _ (by decide +kernel)) ggX5_isKnot_X5_knots
set_option maxRecDepth 20000 in
theorem ggX5_isKnot_X5_isIn : GoodIn wsX5_isKnot wsX5_isIn := goodIn_r _ [9] (by decide +kernel) (by decide +kernel)
set_option maxRecDepth 20000 in
theorem gX5_isKnot_X5_isIn : GoodIn wsX5_isKnot (va_wsS RX5 61 yX5_isIn wsX5_isIn) := goodIn_app (goodIn_of _ (by decide +kernel)) ggX5_isKnot_X5_isIn
theorem dX5_isKnot_0 : decode cX5_isKnot 0 = .ok (.iload_n 1, 1) := by decide +kernel
theorem dX5_isKnot_1 : decode cX5_isKnot 1 = .ok (.iconst 0, 1) := by decide +kernel
theorem dX5_isKnot_2 : decode cX5_isKnot 2 = .ok (.aload_n 0, 1) := by decide +kernel
theorem dX5_isKnot_3 : decode cX5_isKnot 3 = .ok (.invokevirtual 65, 3) := by decide +kernel
theorem dX5_isKnot_6 : decode cX5_isKnot 6 = .ok (.iconst 1, 1) := by decide +kernel
theorem dX5_isKnot_7 : decode cX5_isKnot 7 = .ok (.isub, 1) := by decide +kernel
theorem dX5_isKnot_8 : decode cX5_isKnot 8 = .ok (.invokestatic 61, 3) := by decide +kernel
theorem dX5_isKnot_11 : decode cX5_isKnot 11 = .ok (.ireturn, 1) := by decide +kernel
/-! ===== FlowMetersModel.isKnot(I)Z ===== -/
def fX5_isKnot (c_t_now : Nat → Int32) (x1 : Int32) : Option (Int32) :=
  (fX5_knots c_t_now).bind fun v1 =>
  (fX5_isIn x1 0 (v1 - 1)).bind fun v3 =>
  (ya_bo v3).bind fun v5 => some v5
abbrev rmX5_isKnot : Room := { frames := 1, cells := 0, slots := 0, locals := 22 }
theorem eX5_isKnot : yY yX5_isKnot wsX5_isKnot cX5_isKnot 2 (some .boolean) rmX5_isKnot 1 := ⟨⟨_, rfl⟩, rfl, rfl, by decide, by decide, by decide +kernel⟩
set_option maxHeartbeats 4000000 in
set_option maxRecDepth 100000 in
theorem mX5_isKnot {l : Launch} {D : va_G} {sz : Nat} {cI cJ cZ cW cR : ClassId} {h_t : Nat} {A_t : Nat → Nat} {c_t_many : Int32} {c_t_below : Int64} {c_t_above1 : Int64} {c_t_below1 : Int64} {c_t_now : Nat → Int32} {x1 : Int32} {r : Int32} (hf : fX5_isKnot c_t_now x1 = some r) : Met l yX5_isKnot wsX5_isKnot rmX5_isKnot (yP D (yT cI cJ cZ cW cR) [(h_t, oR A_t c_t_many c_t_below c_t_above1 c_t_below1), (A_t 0, eI cI 242 c_t_now)] sz [.ref h_t, .int x1]) (yQi D (yT cI cJ cZ cW cR) r [(h_t, oR A_t c_t_many c_t_below c_t_above1 c_t_below1), (A_t 0, eI cI 242 c_t_now)] (va_A [(h_t, oR A_t c_t_many c_t_below c_t_above1 c_t_below1), (A_t 0, eI cI 242 c_t_now)] sz)) 0 0 (va_A [(h_t, oR A_t c_t_many c_t_below c_t_above1 c_t_below1), (A_t 0, eI cI 242 c_t_now)] sz) := by
  refine yM (cc := cX5_isKnot) (maxL := 2) (ret := (some .boolean)) RX5 (by decide) rfl rfl (Nat.le_of_ble_eq_true rfl) ?_
  intro p e s m below meth c Γ hr
  show yG p l e (headSpec wsX5_isKnot rmX5_isKnot).room s m (List.toArray [.ref h_t, .int x1]) below meth c D (va_A [(h_t, oR A_t c_t_many c_t_below c_t_above1 c_t_below1), (A_t 0, eI cI 242 c_t_now)] sz) 2 0 0 (MQ below (yQi D (yT cI cJ cZ cW cR) r [(h_t, oR A_t c_t_many c_t_below c_t_above1 c_t_below1), (A_t 0, eI cI 242 c_t_now)] (va_A [(h_t, oR A_t c_t_many c_t_below c_t_above1 c_t_below1), (A_t 0, eI cI 242 c_t_now)] sz)) (List.toArray [.ref h_t, .int x1]) s 0 0 (va_A [(h_t, oR A_t c_t_many c_t_below c_t_above1 c_t_below1), (A_t 0, eI cI 242 c_t_now)] sz)) 0 [(0, .ref h_t), (1, .int x1)] [] [(h_t, oR A_t c_t_many c_t_below c_t_above1 c_t_below1), (A_t 0, eI cI 242 c_t_now)]
  unfold fX5_isKnot at hf
  refine g_iload_n Γ 1 dX5_isKnot_0 rfl ?_
  refine g_iconst (v := 0) Γ dX5_isKnot_1 (by decide) ?_
  refine g_aload_n Γ 0 dX5_isKnot_2 rfl ?_
  obtain ⟨v1, e2, hf⟩ := ya_ob hf
  refine g_vi (q := (RX5, TX5, 19)) (wr := []) (ws' := [(h_t, oR A_t c_t_many c_t_below c_t_above1 c_t_below1), (A_t 0, eI cI 242 c_t_now)]) Γ (fun sz => mX5_knots (l := l) (D := D) (sz := sz) (cI := cI) (cJ := cJ) (cZ := cZ) (cW := cW) (cR := cR) (h_t := h_t) (A_t := A_t) (hf := e2)) eX5_knots gX5_isKnot_X5_knots rfl rfl 0 rfl rfl rfl (Nat.le_of_ble_eq_true rfl) ⟨Nat.le_of_ble_eq_true rfl, Nat.le_of_ble_eq_true rfl⟩ dX5_isKnot_3 [0, 1] [] rfl rfl rfl rfl (by decide) rfl ?_
  refine g_iconst (v := 1) Γ dX5_isKnot_6 (by decide) ?_
  refine g_isub Γ dX5_isKnot_7 ?_
  obtain ⟨v3, e4, hf⟩ := ya_ob hf
  refine g_si (wr := [(h_t, oR A_t c_t_many c_t_below c_t_above1 c_t_below1), (A_t 0, eI cI 242 c_t_now)]) (ws' := [(h_t, oR A_t c_t_many c_t_below c_t_above1 c_t_below1), (A_t 0, eI cI 242 c_t_now)]) Γ (fun sz => mX5_isIn (l := l) (D := D) (sz := sz) (cI := cI) (cJ := cJ) (cZ := cZ) (cW := cW) (cR := cR)  (hf := e4)) eX5_isIn ggX5_isKnot_X5_isIn (by decide +kernel) (by decide +kernel) (by decide +kernel) rfl rfl (Nat.le_of_ble_eq_true rfl) ⟨Nat.le_of_ble_eq_true rfl, Nat.le_of_ble_eq_true rfl⟩ dX5_isKnot_8 [] [0, 1] rfl rfl rfl rfl (by decide) rfl ?_
  obtain ⟨v5, e6, hf⟩ := ya_ob hf
  cases hf
  exact g_zret Γ hr e6 dX5_isKnot_11 [0, 1] rfl rfl

theorem dX5_keep_0 : decode cX5_keep 0 = .ok (.aload_n 0, 1) := by decide +kernel
theorem dX5_keep_1 : decode cX5_keep 1 = .ok (.getfield 68, 3) := by decide +kernel
theorem dX5_keep_4 : decode cX5_keep 4 = .ok (.bipush 6, 2) := by decide +kernel
theorem dX5_keep_6 : decode cX5_keep 6 = .ok (.if_icmp .ne 44, 3) := by decide +kernel
theorem dX5_keep_9 : decode cX5_keep 9 = .ok (.iconst 0, 1) := by decide +kernel
theorem dX5_keep_10 : decode cX5_keep 10 = .ok (.istore_n 1, 1) := by decide +kernel
theorem dX5_keep_11 : decode cX5_keep 11 = .ok (.iload_n 1, 1) := by decide +kernel
theorem dX5_keep_12 : decode cX5_keep 12 = .ok (.sipush 1210, 3) := by decide +kernel
theorem dX5_keep_15 : decode cX5_keep 15 = .ok (.if_icmp .ge 25, 3) := by decide +kernel
theorem dX5_keep_18 : decode cX5_keep 18 = .ok (.aload_n 0, 1) := by decide +kernel
theorem dX5_keep_19 : decode cX5_keep 19 = .ok (.getfield 13, 3) := by decide +kernel
theorem dX5_keep_22 : decode cX5_keep 22 = .ok (.iload_n 1, 1) := by decide +kernel
theorem dX5_keep_23 : decode cX5_keep 23 = .ok (.aload_n 0, 1) := by decide +kernel
theorem dX5_keep_24 : decode cX5_keep 24 = .ok (.getfield 13, 3) := by decide +kernel
theorem dX5_keep_27 : decode cX5_keep 27 = .ok (.iload_n 1, 1) := by decide +kernel
theorem dX5_keep_28 : decode cX5_keep 28 = .ok (.sipush 242, 3) := by decide +kernel
theorem dX5_keep_31 : decode cX5_keep 31 = .ok (.iadd, 1) := by decide +kernel
theorem dX5_keep_32 : decode cX5_keep 32 = .ok (.iaload, 1) := by decide +kernel
theorem dX5_keep_33 : decode cX5_keep 33 = .ok (.iastore, 1) := by decide +kernel
theorem dX5_keep_34 : decode cX5_keep 34 = .ok (.iinc 1 1, 3) := by decide +kernel
theorem dX5_keep_37 : decode cX5_keep 37 = .ok (.goto (-26), 3) := by decide +kernel
theorem dX5_keep_40 : decode cX5_keep 40 = .ok (.aload_n 0, 1) := by decide +kernel
theorem dX5_keep_41 : decode cX5_keep 41 = .ok (.dup, 1) := by decide +kernel
theorem dX5_keep_42 : decode cX5_keep 42 = .ok (.getfield 68, 3) := by decide +kernel
theorem dX5_keep_45 : decode cX5_keep 45 = .ok (.iconst 1, 1) := by decide +kernel
theorem dX5_keep_46 : decode cX5_keep 46 = .ok (.isub, 1) := by decide +kernel
theorem dX5_keep_47 : decode cX5_keep 47 = .ok (.putfield 68, 3) := by decide +kernel
theorem dX5_keep_50 : decode cX5_keep 50 = .ok (.iconst 0, 1) := by decide +kernel
theorem dX5_keep_51 : decode cX5_keep 51 = .ok (.istore_n 1, 1) := by decide +kernel
theorem dX5_keep_52 : decode cX5_keep 52 = .ok (.iload_n 1, 1) := by decide +kernel
theorem dX5_keep_53 : decode cX5_keep 53 = .ok (.sipush 242, 3) := by decide +kernel
theorem dX5_keep_56 : decode cX5_keep 56 = .ok (.if_icmp .ge 30, 3) := by decide +kernel
theorem dX5_keep_59 : decode cX5_keep 59 = .ok (.aload_n 0, 1) := by decide +kernel
theorem dX5_keep_60 : decode cX5_keep 60 = .ok (.getfield 13, 3) := by decide +kernel
theorem dX5_keep_63 : decode cX5_keep 63 = .ok (.sipush 242, 3) := by decide +kernel
theorem dX5_keep_66 : decode cX5_keep 66 = .ok (.aload_n 0, 1) := by decide +kernel
theorem dX5_keep_67 : decode cX5_keep 67 = .ok (.getfield 68, 3) := by decide +kernel
theorem dX5_keep_70 : decode cX5_keep 70 = .ok (.imul, 1) := by decide +kernel
theorem dX5_keep_71 : decode cX5_keep 71 = .ok (.iload_n 1, 1) := by decide +kernel
theorem dX5_keep_72 : decode cX5_keep 72 = .ok (.iadd, 1) := by decide +kernel
theorem dX5_keep_73 : decode cX5_keep 73 = .ok (.aload_n 0, 1) := by decide +kernel
theorem dX5_keep_74 : decode cX5_keep 74 = .ok (.getfield 7, 3) := by decide +kernel
theorem dX5_keep_77 : decode cX5_keep 77 = .ok (.iload_n 1, 1) := by decide +kernel
theorem dX5_keep_78 : decode cX5_keep 78 = .ok (.iaload, 1) := by decide +kernel
theorem dX5_keep_79 : decode cX5_keep 79 = .ok (.iastore, 1) := by decide +kernel
theorem dX5_keep_80 : decode cX5_keep 80 = .ok (.iinc 1 1, 3) := by decide +kernel
theorem dX5_keep_83 : decode cX5_keep 83 = .ok (.goto (-31), 3) := by decide +kernel
theorem dX5_keep_86 : decode cX5_keep 86 = .ok (.aload_n 0, 1) := by decide +kernel
theorem dX5_keep_87 : decode cX5_keep 87 = .ok (.dup, 1) := by decide +kernel
theorem dX5_keep_88 : decode cX5_keep 88 = .ok (.getfield 68, 3) := by decide +kernel
theorem dX5_keep_91 : decode cX5_keep 91 = .ok (.iconst 1, 1) := by decide +kernel
theorem dX5_keep_92 : decode cX5_keep 92 = .ok (.iadd, 1) := by decide +kernel
theorem dX5_keep_93 : decode cX5_keep 93 = .ok (.putfield 68, 3) := by decide +kernel
theorem dX5_keep_96 : decode cX5_keep 96 = .ok (.return_, 1) := by decide +kernel
/-! ===== FlowMetersModel.keep()V ===== -/
def fX5_keep_L52 (N : Nat) (n : Nat) (y1 : Int32) (d_t_many : Int32) (d_t_now : Nat → Int32) (d_t_before : Nat → Int32) : Option (Nat → Int32) := match n with
  | 0 => none
  | n + 1 =>
    (if 242 ≤ y1 then
        some d_t_before
      else
        (ya_rd d_t_now 242 y1).bind fun v3 =>
        (ya_wr d_t_before 1452 ((242 * d_t_many) + y1) v3).bind fun v5 =>
        ya_lt (y1 + 1) fun v7 =>
        fX5_keep_L52 N n v7 d_t_many d_t_now v5)
def fX5_keep_L11 (N : Nat) (n : Nat) (y1 : Int32) (d_t_before : Nat → Int32) : Option (Nat → Int32) := match n with
  | 0 => none
  | n + 1 =>
    (if 1210 ≤ y1 then
        some d_t_before
      else
        (ya_rd d_t_before 1452 (y1 + 242)).bind fun v14 =>
        (ya_wr d_t_before 1452 y1 v14).bind fun v16 =>
        ya_lt (y1 + 1) fun v18 =>
        fX5_keep_L11 N n v18 v16)
def fX5_keep (N : Nat) (c_t_many : Int32) (c_t_now : Nat → Int32) (c_t_before : Nat → Int32)  : Option (Int32 × (Nat → Int32)) :=
  (if c_t_many = 6 then
    (fX5_keep_L11 N N 0 c_t_before).bind fun v20 =>
    ya_lt (c_t_many - 1) fun v22 =>
    (fX5_keep_L52 N N 0 v22 c_t_now v20).bind fun v24 =>
    ya_lt (v22 + 1) fun v26 =>
    some (v26, v24)
  else
    (fX5_keep_L52 N N 0 c_t_many c_t_now c_t_before).bind fun v9 =>
    ya_lt (c_t_many + 1) fun v11 =>
    some (v11, v9))
theorem fX5_keep_68 : yF wsX5_keep RX5 68 5 2 RX5 TX5 19 := ⟨rfl, by decide, by decide +kernel, by decide +kernel⟩
theorem fX5_keep_13 : yF wsX5_keep RX5 13 5 1 RX5 TX5 19 := ⟨rfl, by decide, by decide +kernel, by decide +kernel⟩
theorem fX5_keep_7 : yF wsX5_keep RX5 7 5 0 RX5 TX5 19 := ⟨rfl, by decide, by decide +kernel, by decide +kernel⟩
abbrev rmX5_keep : Room := { frames := 0, cells := 0, slots := 0, locals := 0 }
theorem eX5_keep : yY yX5_keep wsX5_keep cX5_keep 2 none rmX5_keep 0 := ⟨⟨_, rfl⟩, rfl, rfl, by decide, by decide, by decide +kernel⟩
set_option maxHeartbeats 4000000 in
set_option maxRecDepth 100000 in
theorem mX5_keep {l : Launch} {D : va_G} {sz : Nat} {cI cJ cZ cW cR : ClassId} {N : Nat} {h_t : Nat} {A_t : Nat → Nat} {c_t_many : Int32} {c_t_below : Int64} {c_t_above1 : Int64} {c_t_below1 : Int64} {c_t_now : Nat → Int32} {c_t_before : Nat → Int32} {zc_t_many : Int32} {zc_t_before : Nat → Int32} (hf : fX5_keep N c_t_many c_t_now c_t_before = some (zc_t_many, zc_t_before)) : Met l yX5_keep wsX5_keep rmX5_keep (yP D (yT cI cJ cZ cW cR) [(h_t, oR A_t c_t_many c_t_below c_t_above1 c_t_below1), (A_t 0, eI cI 242 c_t_now), (A_t 1, eI cI 1452 c_t_before)] sz [.ref h_t]) (yQv D (yT cI cJ cZ cW cR) [(h_t, oR A_t zc_t_many c_t_below c_t_above1 c_t_below1), (A_t 0, eI cI 242 c_t_now), (A_t 1, eI cI 1452 zc_t_before)] (va_A [(h_t, oR A_t c_t_many c_t_below c_t_above1 c_t_below1), (A_t 0, eI cI 242 c_t_now), (A_t 1, eI cI 1452 c_t_before)] sz)) 0 0 (va_A [(h_t, oR A_t c_t_many c_t_below c_t_above1 c_t_below1), (A_t 0, eI cI 242 c_t_now), (A_t 1, eI cI 1452 c_t_before)] sz) := by
  refine yM (cc := cX5_keep) (maxL := 2) (ret := none) RX5 (by decide) rfl rfl (Nat.le_of_ble_eq_true rfl) ?_
  intro p e s m below meth c Γ hr
  have loop52 : ∀ (n : Nat) (y1 : Int32) (d_t_many : Int32) (d_t_below : Int64) (d_t_above1 : Int64) (d_t_below1 : Int64) (d_t_now : Nat → Int32) (d_t_before : Nat → Int32) (w0 : Nat → Int32), fX5_keep_L52 N n y1 d_t_many d_t_now d_t_before = some w0 → yG p l e (headSpec wsX5_keep rmX5_keep).room s m (List.toArray [.ref h_t]) below meth c D (va_A [(h_t, oR A_t c_t_many c_t_below c_t_above1 c_t_below1), (A_t 0, eI cI 242 c_t_now), (A_t 1, eI cI 1452 c_t_before)] sz) 2 0 0 (MQ below (yQv D (yT cI cJ cZ cW cR) [(h_t, oR A_t zc_t_many c_t_below c_t_above1 c_t_below1), (A_t 0, eI cI 242 c_t_now), (A_t 1, eI cI 1452 zc_t_before)] (va_A [(h_t, oR A_t c_t_many c_t_below c_t_above1 c_t_below1), (A_t 0, eI cI 242 c_t_now), (A_t 1, eI cI 1452 c_t_before)] sz)) (List.toArray [.ref h_t]) s 0 0 (va_A [(h_t, oR A_t c_t_many c_t_below c_t_above1 c_t_below1), (A_t 0, eI cI 242 c_t_now), (A_t 1, eI cI 1452 c_t_before)] sz)) 86 [(0, .ref h_t)] [] [(h_t, oR A_t d_t_many d_t_below d_t_above1 d_t_below1), (A_t 0, eI cI 242 d_t_now), (A_t 1, eI cI 1452 w0)] → yG p l e (headSpec wsX5_keep rmX5_keep).room s m (List.toArray [.ref h_t]) below meth c D (va_A [(h_t, oR A_t c_t_many c_t_below c_t_above1 c_t_below1), (A_t 0, eI cI 242 c_t_now), (A_t 1, eI cI 1452 c_t_before)] sz) 2 0 0 (MQ below (yQv D (yT cI cJ cZ cW cR) [(h_t, oR A_t zc_t_many c_t_below c_t_above1 c_t_below1), (A_t 0, eI cI 242 c_t_now), (A_t 1, eI cI 1452 zc_t_before)] (va_A [(h_t, oR A_t c_t_many c_t_below c_t_above1 c_t_below1), (A_t 0, eI cI 242 c_t_now), (A_t 1, eI cI 1452 c_t_before)] sz)) (List.toArray [.ref h_t]) s 0 0 (va_A [(h_t, oR A_t c_t_many c_t_below c_t_above1 c_t_below1), (A_t 0, eI cI 242 c_t_now), (A_t 1, eI cI 1452 c_t_before)] sz)) 52 [(0, .ref h_t), (1, .int y1)] [] [(h_t, oR A_t d_t_many d_t_below d_t_above1 d_t_below1), (A_t 0, eI cI 242 d_t_now), (A_t 1, eI cI 1452 d_t_before)] := by
    intro n
    induction n with
    | zero =>
      intro y1 d_t_many d_t_below d_t_above1 d_t_below1 d_t_now d_t_before w0 hf
      cases hf
    | succ n ih =>
      intro y1 d_t_many d_t_below d_t_above1 d_t_below1 d_t_now d_t_before w0 hf hk
      unfold fX5_keep_L52 at hf
      refine g_iload_n Γ 1 dX5_keep_52 rfl ?_
      refine g_sipush (v := 242) Γ dX5_keep_53 (by decide) ?_
      refine g_icmp_ge Γ 86 dX5_keep_56 (by decide) (fun c2 => ?_) (fun c2 => ?_)
      · have hf := ya_if1 c2 hf
        cases hf
        refine g_lv [0] rfl ?_
        exact hk
      · have hf := ya_if2 c2 hf
        refine g_aload_n Γ 0 dX5_keep_59 rfl ?_
        refine g_get Γ fX5_keep_13 0 rfl rfl dX5_keep_60 ?_
        refine g_sipush (v := 242) Γ dX5_keep_63 (by decide) ?_
        refine g_aload_n Γ 0 dX5_keep_66 rfl ?_
        refine g_get Γ fX5_keep_68 0 rfl rfl dX5_keep_67 ?_
        refine g_imul Γ dX5_keep_70 ?_
        refine g_iload_n Γ 1 dX5_keep_71 rfl ?_
        refine g_iadd Γ dX5_keep_72 ?_
        refine g_aload_n Γ 0 dX5_keep_73 rfl ?_
        refine g_get Γ fX5_keep_7 0 rfl rfl dX5_keep_74 ?_
        refine g_iload_n Γ 1 dX5_keep_77 rfl ?_
        obtain ⟨v3, e4, hf⟩ := ya_ob hf
        refine g_iald Γ e4 1 0 rfl rfl dX5_keep_78 ?_
        obtain ⟨v5, e6, hf⟩ := ya_ob hf
        refine g_iast (ws' := [(h_t, oR A_t d_t_many d_t_below d_t_above1 d_t_below1), (A_t 0, eI cI 242 d_t_now), (A_t 1, eI cI 1452 v5)]) Γ e6 2 0 rfl rfl dX5_keep_79 rfl ?_
        obtain ⟨v7, e8, hf⟩ := ya_lt_inv hf
        refine g_iinc (lv' := [(1, .int v7), (0, .ref h_t)]) Γ 1 dX5_keep_80 rfl (by rw [e8]; rfl) (by decide) rfl ?_
        refine g_goto Γ 52 dX5_keep_83 (by decide) ?_
        refine g_lv [1, 0] rfl ?_
        exact ih _ _ _ _ _ _ _ _ hf hk
  have loop11 : ∀ (n : Nat) (y1 : Int32) (d_t_many : Int32) (d_t_below : Int64) (d_t_above1 : Int64) (d_t_below1 : Int64) (d_t_now : Nat → Int32) (d_t_before : Nat → Int32) (w0 : Nat → Int32), fX5_keep_L11 N n y1 d_t_before = some w0 → yG p l e (headSpec wsX5_keep rmX5_keep).room s m (List.toArray [.ref h_t]) below meth c D (va_A [(h_t, oR A_t c_t_many c_t_below c_t_above1 c_t_below1), (A_t 0, eI cI 242 c_t_now), (A_t 1, eI cI 1452 c_t_before)] sz) 2 0 0 (MQ below (yQv D (yT cI cJ cZ cW cR) [(h_t, oR A_t zc_t_many c_t_below c_t_above1 c_t_below1), (A_t 0, eI cI 242 c_t_now), (A_t 1, eI cI 1452 zc_t_before)] (va_A [(h_t, oR A_t c_t_many c_t_below c_t_above1 c_t_below1), (A_t 0, eI cI 242 c_t_now), (A_t 1, eI cI 1452 c_t_before)] sz)) (List.toArray [.ref h_t]) s 0 0 (va_A [(h_t, oR A_t c_t_many c_t_below c_t_above1 c_t_below1), (A_t 0, eI cI 242 c_t_now), (A_t 1, eI cI 1452 c_t_before)] sz)) 40 [(0, .ref h_t)] [] [(h_t, oR A_t d_t_many d_t_below d_t_above1 d_t_below1), (A_t 0, eI cI 242 d_t_now), (A_t 1, eI cI 1452 w0)] → yG p l e (headSpec wsX5_keep rmX5_keep).room s m (List.toArray [.ref h_t]) below meth c D (va_A [(h_t, oR A_t c_t_many c_t_below c_t_above1 c_t_below1), (A_t 0, eI cI 242 c_t_now), (A_t 1, eI cI 1452 c_t_before)] sz) 2 0 0 (MQ below (yQv D (yT cI cJ cZ cW cR) [(h_t, oR A_t zc_t_many c_t_below c_t_above1 c_t_below1), (A_t 0, eI cI 242 c_t_now), (A_t 1, eI cI 1452 zc_t_before)] (va_A [(h_t, oR A_t c_t_many c_t_below c_t_above1 c_t_below1), (A_t 0, eI cI 242 c_t_now), (A_t 1, eI cI 1452 c_t_before)] sz)) (List.toArray [.ref h_t]) s 0 0 (va_A [(h_t, oR A_t c_t_many c_t_below c_t_above1 c_t_below1), (A_t 0, eI cI 242 c_t_now), (A_t 1, eI cI 1452 c_t_before)] sz)) 11 [(0, .ref h_t), (1, .int y1)] [] [(h_t, oR A_t d_t_many d_t_below d_t_above1 d_t_below1), (A_t 0, eI cI 242 d_t_now), (A_t 1, eI cI 1452 d_t_before)] := by
    intro n
    induction n with
    | zero =>
      intro y1 d_t_many d_t_below d_t_above1 d_t_below1 d_t_now d_t_before w0 hf
      cases hf
    | succ n ih =>
      intro y1 d_t_many d_t_below d_t_above1 d_t_below1 d_t_now d_t_before w0 hf hk
      unfold fX5_keep_L11 at hf
      refine g_iload_n Γ 1 dX5_keep_11 rfl ?_
      refine g_sipush (v := 1210) Γ dX5_keep_12 (by decide) ?_
      refine g_icmp_ge Γ 40 dX5_keep_15 (by decide) (fun c13 => ?_) (fun c13 => ?_)
      · have hf := ya_if1 c13 hf
        cases hf
        refine g_lv [0] rfl ?_
        exact hk
      · have hf := ya_if2 c13 hf
        refine g_aload_n Γ 0 dX5_keep_18 rfl ?_
        refine g_get Γ fX5_keep_13 0 rfl rfl dX5_keep_19 ?_
        refine g_iload_n Γ 1 dX5_keep_22 rfl ?_
        refine g_aload_n Γ 0 dX5_keep_23 rfl ?_
        refine g_get Γ fX5_keep_13 0 rfl rfl dX5_keep_24 ?_
        refine g_iload_n Γ 1 dX5_keep_27 rfl ?_
        refine g_sipush (v := 242) Γ dX5_keep_28 (by decide) ?_
        refine g_iadd Γ dX5_keep_31 ?_
        obtain ⟨v14, e15, hf⟩ := ya_ob hf
        refine g_iald Γ e15 2 0 rfl rfl dX5_keep_32 ?_
        obtain ⟨v16, e17, hf⟩ := ya_ob hf
        refine g_iast (ws' := [(h_t, oR A_t d_t_many d_t_below d_t_above1 d_t_below1), (A_t 0, eI cI 242 d_t_now), (A_t 1, eI cI 1452 v16)]) Γ e17 2 0 rfl rfl dX5_keep_33 rfl ?_
        obtain ⟨v18, e19, hf⟩ := ya_lt_inv hf
        refine g_iinc (lv' := [(1, .int v18), (0, .ref h_t)]) Γ 1 dX5_keep_34 rfl (by rw [e19]; rfl) (by decide) rfl ?_
        refine g_goto Γ 11 dX5_keep_37 (by decide) ?_
        refine g_lv [1, 0] rfl ?_
        exact ih _ _ _ _ _ _ _ _ hf hk
  show yG p l e (headSpec wsX5_keep rmX5_keep).room s m (List.toArray [.ref h_t]) below meth c D (va_A [(h_t, oR A_t c_t_many c_t_below c_t_above1 c_t_below1), (A_t 0, eI cI 242 c_t_now), (A_t 1, eI cI 1452 c_t_before)] sz) 2 0 0 (MQ below (yQv D (yT cI cJ cZ cW cR) [(h_t, oR A_t zc_t_many c_t_below c_t_above1 c_t_below1), (A_t 0, eI cI 242 c_t_now), (A_t 1, eI cI 1452 zc_t_before)] (va_A [(h_t, oR A_t c_t_many c_t_below c_t_above1 c_t_below1), (A_t 0, eI cI 242 c_t_now), (A_t 1, eI cI 1452 c_t_before)] sz)) (List.toArray [.ref h_t]) s 0 0 (va_A [(h_t, oR A_t c_t_many c_t_below c_t_above1 c_t_below1), (A_t 0, eI cI 242 c_t_now), (A_t 1, eI cI 1452 c_t_before)] sz)) 0 [(0, .ref h_t)] [] [(h_t, oR A_t c_t_many c_t_below c_t_above1 c_t_below1), (A_t 0, eI cI 242 c_t_now), (A_t 1, eI cI 1452 c_t_before)]
  unfold fX5_keep at hf
  refine g_aload_n Γ 0 dX5_keep_0 rfl ?_
  refine g_get Γ fX5_keep_68 0 rfl rfl dX5_keep_1 ?_
  refine g_bipush (v := 6) Γ dX5_keep_4 (by decide) ?_
  refine g_icmp_ne Γ 50 dX5_keep_6 (by decide) (fun c1 => ?_) (fun c1 => ?_)
  · have hf := ya_if2 c1 hf
    refine g_iconst (v := 0) Γ dX5_keep_50 (by decide) ?_
    refine g_istore_n (lv' := [(1, .int 0), (0, .ref h_t)]) Γ dX5_keep_51 (by decide) rfl ?_
    obtain ⟨v9, e10, hf⟩ := ya_ob hf
    refine g_lv [1, 0] rfl ?_
    refine loop52 N _ _ _ _ _ _ _ _ e10  ?_
    refine g_aload_n Γ 0 dX5_keep_86 rfl ?_
    refine g_dup Γ dX5_keep_87 rfl ?_
    refine g_get Γ fX5_keep_68 0 rfl rfl dX5_keep_88 ?_
    refine g_iconst (v := 1) Γ dX5_keep_91 (by decide) ?_
    refine g_iadd Γ dX5_keep_92 ?_
    obtain ⟨v11, e12, hf⟩ := ya_lt_inv hf
    refine g_nmi e12 ?_
    refine g_put (ws' := [(h_t, oR A_t v11 c_t_below c_t_above1 c_t_below1), (A_t 0, eI cI 242 c_t_now), (A_t 1, eI cI 1452 v9)]) Γ fX5_keep_68 tyX5_ok nmX5 0 rfl rfl rfl rfl (Nat.le_of_ble_eq_true rfl) dX5_keep_93 rfl ?_
    cases hf
    exact g_vret Γ hr dX5_keep_96 [0, 1, 2] rfl rfl
  · have hf := ya_if1 c1 hf
    refine g_iconst (v := 0) Γ dX5_keep_9 (by decide) ?_
    refine g_istore_n (lv' := [(1, .int 0), (0, .ref h_t)]) Γ dX5_keep_10 (by decide) rfl ?_
    obtain ⟨v20, e21, hf⟩ := ya_ob hf
    refine g_lv [1, 0] rfl ?_
    refine loop11 N _ _ _ _ _ _ _ _ e21  ?_
    refine g_aload_n Γ 0 dX5_keep_40 rfl ?_
    refine g_dup Γ dX5_keep_41 rfl ?_
    refine g_get Γ fX5_keep_68 0 rfl rfl dX5_keep_42 ?_
    refine g_iconst (v := 1) Γ dX5_keep_45 (by decide) ?_
    refine g_isub Γ dX5_keep_46 ?_
    obtain ⟨v22, e23, hf⟩ := ya_lt_inv hf
    refine g_nmi e23 ?_
    refine g_put (ws' := [(h_t, oR A_t v22 c_t_below c_t_above1 c_t_below1), (A_t 0, eI cI 242 c_t_now), (A_t 1, eI cI 1452 v20)]) Γ fX5_keep_68 tyX5_ok nmX5 0 rfl rfl rfl rfl (Nat.le_of_ble_eq_true rfl) dX5_keep_47 rfl ?_
    refine g_iconst (v := 0) Γ dX5_keep_50 (by decide) ?_
    refine g_istore_n (lv' := [(1, .int 0), (0, .ref h_t)]) Γ dX5_keep_51 (by decide) rfl ?_
    obtain ⟨v24, e25, hf⟩ := ya_ob hf
    refine g_lv [1, 0] rfl ?_
    refine loop52 N _ _ _ _ _ _ _ _ e25  ?_
    refine g_aload_n Γ 0 dX5_keep_86 rfl ?_
    refine g_dup Γ dX5_keep_87 rfl ?_
    refine g_get Γ fX5_keep_68 0 rfl rfl dX5_keep_88 ?_
    refine g_iconst (v := 1) Γ dX5_keep_91 (by decide) ?_
    refine g_iadd Γ dX5_keep_92 ?_
    obtain ⟨v26, e27, hf⟩ := ya_lt_inv hf
    refine g_nmi e27 ?_
    refine g_put (ws' := [(h_t, oR A_t v26 c_t_below c_t_above1 c_t_below1), (A_t 0, eI cI 242 c_t_now), (A_t 1, eI cI 1452 v24)]) Γ fX5_keep_68 tyX5_ok nmX5 0 rfl rfl rfl rfl (Nat.le_of_ble_eq_true rfl) dX5_keep_93 rfl ?_
    cases hf
    exact g_vret Γ hr dX5_keep_96 [0, 1, 2] rfl rfl

theorem dX5_undo_0 : decode cX5_undo 0 = .ok (.aload_n 0, 1) := by decide +kernel
theorem dX5_undo_1 : decode cX5_undo 1 = .ok (.getfield 68, 3) := by decide +kernel
theorem dX5_undo_4 : decode cX5_undo 4 = .ok (.ifCond .ne 5, 3) := by decide +kernel
theorem dX5_undo_7 : decode cX5_undo 7 = .ok (.iconst 0, 1) := by decide +kernel
theorem dX5_undo_8 : decode cX5_undo 8 = .ok (.ireturn, 1) := by decide +kernel
theorem dX5_undo_9 : decode cX5_undo 9 = .ok (.aload_n 0, 1) := by decide +kernel
theorem dX5_undo_10 : decode cX5_undo 10 = .ok (.dup, 1) := by decide +kernel
theorem dX5_undo_11 : decode cX5_undo 11 = .ok (.getfield 68, 3) := by decide +kernel
theorem dX5_undo_14 : decode cX5_undo 14 = .ok (.iconst 1, 1) := by decide +kernel
theorem dX5_undo_15 : decode cX5_undo 15 = .ok (.isub, 1) := by decide +kernel
theorem dX5_undo_16 : decode cX5_undo 16 = .ok (.putfield 68, 3) := by decide +kernel
theorem dX5_undo_19 : decode cX5_undo 19 = .ok (.iconst 0, 1) := by decide +kernel
theorem dX5_undo_20 : decode cX5_undo 20 = .ok (.istore_n 1, 1) := by decide +kernel
theorem dX5_undo_21 : decode cX5_undo 21 = .ok (.iload_n 1, 1) := by decide +kernel
theorem dX5_undo_22 : decode cX5_undo 22 = .ok (.sipush 242, 3) := by decide +kernel
theorem dX5_undo_25 : decode cX5_undo 25 = .ok (.if_icmp .ge 30, 3) := by decide +kernel
theorem dX5_undo_28 : decode cX5_undo 28 = .ok (.aload_n 0, 1) := by decide +kernel
theorem dX5_undo_29 : decode cX5_undo 29 = .ok (.getfield 7, 3) := by decide +kernel
theorem dX5_undo_32 : decode cX5_undo 32 = .ok (.iload_n 1, 1) := by decide +kernel
theorem dX5_undo_33 : decode cX5_undo 33 = .ok (.aload_n 0, 1) := by decide +kernel
theorem dX5_undo_34 : decode cX5_undo 34 = .ok (.getfield 13, 3) := by decide +kernel
theorem dX5_undo_37 : decode cX5_undo 37 = .ok (.sipush 242, 3) := by decide +kernel
theorem dX5_undo_40 : decode cX5_undo 40 = .ok (.aload_n 0, 1) := by decide +kernel
theorem dX5_undo_41 : decode cX5_undo 41 = .ok (.getfield 68, 3) := by decide +kernel
theorem dX5_undo_44 : decode cX5_undo 44 = .ok (.imul, 1) := by decide +kernel
theorem dX5_undo_45 : decode cX5_undo 45 = .ok (.iload_n 1, 1) := by decide +kernel
theorem dX5_undo_46 : decode cX5_undo 46 = .ok (.iadd, 1) := by decide +kernel
theorem dX5_undo_47 : decode cX5_undo 47 = .ok (.iaload, 1) := by decide +kernel
theorem dX5_undo_48 : decode cX5_undo 48 = .ok (.iastore, 1) := by decide +kernel
theorem dX5_undo_49 : decode cX5_undo 49 = .ok (.iinc 1 1, 3) := by decide +kernel
theorem dX5_undo_52 : decode cX5_undo 52 = .ok (.goto (-31), 3) := by decide +kernel
theorem dX5_undo_55 : decode cX5_undo 55 = .ok (.iconst 1, 1) := by decide +kernel
theorem dX5_undo_56 : decode cX5_undo 56 = .ok (.ireturn, 1) := by decide +kernel
/-! ===== FlowMetersModel.undo()Z ===== -/
def fX5_undo_L21 (N : Nat) (n : Nat) (y1 : Int32) (d_t_many : Int32) (d_t_now : Nat → Int32) (d_t_before : Nat → Int32) : Option (Nat → Int32) := match n with
  | 0 => none
  | n + 1 =>
    (if 242 ≤ y1 then
        some d_t_now
      else
        (ya_rd d_t_before 1452 ((242 * d_t_many) + y1)).bind fun v5 =>
        (ya_wr d_t_now 242 y1 v5).bind fun v7 =>
        ya_lt (y1 + 1) fun v9 =>
        fX5_undo_L21 N n v9 d_t_many v7 d_t_before)
def fX5_undo (N : Nat) (c_t_many : Int32) (c_t_now : Nat → Int32) (c_t_before : Nat → Int32)  : Option (Int32 × Int32 × (Nat → Int32)) :=
  (if c_t_many = 0 then
    some (0, c_t_many, c_t_now)
  else
    ya_lt (c_t_many - 1) fun v2 =>
    (fX5_undo_L21 N N 0 v2 c_t_now c_t_before).bind fun v11 =>
    some (1, v2, v11))
theorem fX5_undo_68 : yF wsX5_undo RX5 68 5 2 RX5 TX5 19 := ⟨rfl, by decide, by decide +kernel, by decide +kernel⟩
theorem fX5_undo_7 : yF wsX5_undo RX5 7 5 0 RX5 TX5 19 := ⟨rfl, by decide, by decide +kernel, by decide +kernel⟩
theorem fX5_undo_13 : yF wsX5_undo RX5 13 5 1 RX5 TX5 19 := ⟨rfl, by decide, by decide +kernel, by decide +kernel⟩
abbrev rmX5_undo : Room := { frames := 0, cells := 0, slots := 0, locals := 0 }
theorem eX5_undo : yY yX5_undo wsX5_undo cX5_undo 2 (some .boolean) rmX5_undo 0 := ⟨⟨_, rfl⟩, rfl, rfl, by decide, by decide, by decide +kernel⟩
set_option maxHeartbeats 4000000 in
set_option maxRecDepth 100000 in
theorem mX5_undo {l : Launch} {D : va_G} {sz : Nat} {cI cJ cZ cW cR : ClassId} {N : Nat} {h_t : Nat} {A_t : Nat → Nat} {c_t_many : Int32} {c_t_below : Int64} {c_t_above1 : Int64} {c_t_below1 : Int64} {c_t_now : Nat → Int32} {c_t_before : Nat → Int32} {r : Int32} {zc_t_many : Int32} {zc_t_now : Nat → Int32} (hf : fX5_undo N c_t_many c_t_now c_t_before = some (r, zc_t_many, zc_t_now)) : Met l yX5_undo wsX5_undo rmX5_undo (yP D (yT cI cJ cZ cW cR) [(h_t, oR A_t c_t_many c_t_below c_t_above1 c_t_below1), (A_t 0, eI cI 242 c_t_now), (A_t 1, eI cI 1452 c_t_before)] sz [.ref h_t]) (yQi D (yT cI cJ cZ cW cR) r [(h_t, oR A_t zc_t_many c_t_below c_t_above1 c_t_below1), (A_t 0, eI cI 242 zc_t_now), (A_t 1, eI cI 1452 c_t_before)] (va_A [(h_t, oR A_t c_t_many c_t_below c_t_above1 c_t_below1), (A_t 0, eI cI 242 c_t_now), (A_t 1, eI cI 1452 c_t_before)] sz)) 0 0 (va_A [(h_t, oR A_t c_t_many c_t_below c_t_above1 c_t_below1), (A_t 0, eI cI 242 c_t_now), (A_t 1, eI cI 1452 c_t_before)] sz) := by
  refine yM (cc := cX5_undo) (maxL := 2) (ret := (some .boolean)) RX5 (by decide) rfl rfl (Nat.le_of_ble_eq_true rfl) ?_
  intro p e s m below meth c Γ hr
  have loop21 : ∀ (n : Nat) (y1 : Int32) (d_t_many : Int32) (d_t_below : Int64) (d_t_above1 : Int64) (d_t_below1 : Int64) (d_t_now : Nat → Int32) (d_t_before : Nat → Int32) (w0 : Nat → Int32), fX5_undo_L21 N n y1 d_t_many d_t_now d_t_before = some w0 → yG p l e (headSpec wsX5_undo rmX5_undo).room s m (List.toArray [.ref h_t]) below meth c D (va_A [(h_t, oR A_t c_t_many c_t_below c_t_above1 c_t_below1), (A_t 0, eI cI 242 c_t_now), (A_t 1, eI cI 1452 c_t_before)] sz) 2 0 0 (MQ below (yQi D (yT cI cJ cZ cW cR) r [(h_t, oR A_t zc_t_many c_t_below c_t_above1 c_t_below1), (A_t 0, eI cI 242 zc_t_now), (A_t 1, eI cI 1452 c_t_before)] (va_A [(h_t, oR A_t c_t_many c_t_below c_t_above1 c_t_below1), (A_t 0, eI cI 242 c_t_now), (A_t 1, eI cI 1452 c_t_before)] sz)) (List.toArray [.ref h_t]) s 0 0 (va_A [(h_t, oR A_t c_t_many c_t_below c_t_above1 c_t_below1), (A_t 0, eI cI 242 c_t_now), (A_t 1, eI cI 1452 c_t_before)] sz)) 55 [] [] [(h_t, oR A_t d_t_many d_t_below d_t_above1 d_t_below1), (A_t 0, eI cI 242 w0), (A_t 1, eI cI 1452 d_t_before)] → yG p l e (headSpec wsX5_undo rmX5_undo).room s m (List.toArray [.ref h_t]) below meth c D (va_A [(h_t, oR A_t c_t_many c_t_below c_t_above1 c_t_below1), (A_t 0, eI cI 242 c_t_now), (A_t 1, eI cI 1452 c_t_before)] sz) 2 0 0 (MQ below (yQi D (yT cI cJ cZ cW cR) r [(h_t, oR A_t zc_t_many c_t_below c_t_above1 c_t_below1), (A_t 0, eI cI 242 zc_t_now), (A_t 1, eI cI 1452 c_t_before)] (va_A [(h_t, oR A_t c_t_many c_t_below c_t_above1 c_t_below1), (A_t 0, eI cI 242 c_t_now), (A_t 1, eI cI 1452 c_t_before)] sz)) (List.toArray [.ref h_t]) s 0 0 (va_A [(h_t, oR A_t c_t_many c_t_below c_t_above1 c_t_below1), (A_t 0, eI cI 242 c_t_now), (A_t 1, eI cI 1452 c_t_before)] sz)) 21 [(0, .ref h_t), (1, .int y1)] [] [(h_t, oR A_t d_t_many d_t_below d_t_above1 d_t_below1), (A_t 0, eI cI 242 d_t_now), (A_t 1, eI cI 1452 d_t_before)] := by
    intro n
    induction n with
    | zero =>
      intro y1 d_t_many d_t_below d_t_above1 d_t_below1 d_t_now d_t_before w0 hf
      cases hf
    | succ n ih =>
      intro y1 d_t_many d_t_below d_t_above1 d_t_below1 d_t_now d_t_before w0 hf hk
      unfold fX5_undo_L21 at hf
      refine g_iload_n Γ 1 dX5_undo_21 rfl ?_
      refine g_sipush (v := 242) Γ dX5_undo_22 (by decide) ?_
      refine g_icmp_ge Γ 55 dX5_undo_25 (by decide) (fun c4 => ?_) (fun c4 => ?_)
      · have hf := ya_if1 c4 hf
        cases hf
        refine g_lv [] rfl ?_
        exact hk
      · have hf := ya_if2 c4 hf
        refine g_aload_n Γ 0 dX5_undo_28 rfl ?_
        refine g_get Γ fX5_undo_7 0 rfl rfl dX5_undo_29 ?_
        refine g_iload_n Γ 1 dX5_undo_32 rfl ?_
        refine g_aload_n Γ 0 dX5_undo_33 rfl ?_
        refine g_get Γ fX5_undo_13 0 rfl rfl dX5_undo_34 ?_
        refine g_sipush (v := 242) Γ dX5_undo_37 (by decide) ?_
        refine g_aload_n Γ 0 dX5_undo_40 rfl ?_
        refine g_get Γ fX5_undo_68 0 rfl rfl dX5_undo_41 ?_
        refine g_imul Γ dX5_undo_44 ?_
        refine g_iload_n Γ 1 dX5_undo_45 rfl ?_
        refine g_iadd Γ dX5_undo_46 ?_
        obtain ⟨v5, e6, hf⟩ := ya_ob hf
        refine g_iald Γ e6 2 0 rfl rfl dX5_undo_47 ?_
        obtain ⟨v7, e8, hf⟩ := ya_ob hf
        refine g_iast (ws' := [(h_t, oR A_t d_t_many d_t_below d_t_above1 d_t_below1), (A_t 0, eI cI 242 v7), (A_t 1, eI cI 1452 d_t_before)]) Γ e8 1 0 rfl rfl dX5_undo_48 rfl ?_
        obtain ⟨v9, e10, hf⟩ := ya_lt_inv hf
        refine g_iinc (lv' := [(1, .int v9), (0, .ref h_t)]) Γ 1 dX5_undo_49 rfl (by rw [e10]; rfl) (by decide) rfl ?_
        refine g_goto Γ 21 dX5_undo_52 (by decide) ?_
        refine g_lv [1, 0] rfl ?_
        exact ih _ _ _ _ _ _ _ _ hf hk
  show yG p l e (headSpec wsX5_undo rmX5_undo).room s m (List.toArray [.ref h_t]) below meth c D (va_A [(h_t, oR A_t c_t_many c_t_below c_t_above1 c_t_below1), (A_t 0, eI cI 242 c_t_now), (A_t 1, eI cI 1452 c_t_before)] sz) 2 0 0 (MQ below (yQi D (yT cI cJ cZ cW cR) r [(h_t, oR A_t zc_t_many c_t_below c_t_above1 c_t_below1), (A_t 0, eI cI 242 zc_t_now), (A_t 1, eI cI 1452 c_t_before)] (va_A [(h_t, oR A_t c_t_many c_t_below c_t_above1 c_t_below1), (A_t 0, eI cI 242 c_t_now), (A_t 1, eI cI 1452 c_t_before)] sz)) (List.toArray [.ref h_t]) s 0 0 (va_A [(h_t, oR A_t c_t_many c_t_below c_t_above1 c_t_below1), (A_t 0, eI cI 242 c_t_now), (A_t 1, eI cI 1452 c_t_before)] sz)) 0 [(0, .ref h_t)] [] [(h_t, oR A_t c_t_many c_t_below c_t_above1 c_t_below1), (A_t 0, eI cI 242 c_t_now), (A_t 1, eI cI 1452 c_t_before)]
  unfold fX5_undo at hf
  refine g_aload_n Γ 0 dX5_undo_0 rfl ?_
  refine g_get Γ fX5_undo_68 0 rfl rfl dX5_undo_1 ?_
  refine g_if_ne Γ 9 dX5_undo_4 (by decide) (fun c1 => ?_) (fun c1 => ?_)
  · have hf := ya_if2 c1 hf
    refine g_aload_n Γ 0 dX5_undo_9 rfl ?_
    refine g_dup Γ dX5_undo_10 rfl ?_
    refine g_get Γ fX5_undo_68 0 rfl rfl dX5_undo_11 ?_
    refine g_iconst (v := 1) Γ dX5_undo_14 (by decide) ?_
    refine g_isub Γ dX5_undo_15 ?_
    obtain ⟨v2, e3, hf⟩ := ya_lt_inv hf
    refine g_nmi e3 ?_
    refine g_put (ws' := [(h_t, oR A_t v2 c_t_below c_t_above1 c_t_below1), (A_t 0, eI cI 242 c_t_now), (A_t 1, eI cI 1452 c_t_before)]) Γ fX5_undo_68 tyX5_ok nmX5 0 rfl rfl rfl rfl (Nat.le_of_ble_eq_true rfl) dX5_undo_16 rfl ?_
    refine g_iconst (v := 0) Γ dX5_undo_19 (by decide) ?_
    refine g_istore_n (lv' := [(1, .int 0), (0, .ref h_t)]) Γ dX5_undo_20 (by decide) rfl ?_
    obtain ⟨v11, e12, hf⟩ := ya_ob hf
    refine g_lv [1, 0] rfl ?_
    refine loop21 N _ _ _ _ _ _ _ _ e12  ?_
    refine g_iconst (v := 1) Γ dX5_undo_55 (by decide) ?_
    cases hf
    exact g_zret Γ hr (show ya_bo 1 = some 1 from rfl) dX5_undo_56 [0, 1, 2] rfl rfl
  · have hf := ya_if1 c1 hf
    refine g_iconst (v := 0) Γ dX5_undo_7 (by decide) ?_
    cases hf
    exact g_zret Γ hr (show ya_bo 0 = some 0 from rfl) dX5_undo_8 [0, 1, 2] rfl rfl

set_option maxRecDepth 20000 in
theorem ggX5_works_X5_isIn : GoodIn wsX5_works wsX5_isIn := goodIn_r _ [5] (by decide +kernel) (by decide +kernel)
set_option maxRecDepth 20000 in
theorem gX5_works_X5_isIn : GoodIn wsX5_works (va_wsS RX5 61 yX5_isIn wsX5_isIn) := goodIn_app (goodIn_of _ (by decide +kernel)) ggX5_works_X5_isIn
set_option maxRecDepth 20000 in
theorem ggX5_works_X5_keep : GoodIn wsX5_works wsX5_keep := goodIn_r _ [9, 10, 11, 1, 12, 13, 14, 15, 16, 17, 18, 19, 20, 21, 22, 23, 24, 25, 26, 27, 28, 29, 30] (by decide +kernel) (by decide +kernel)
set_option maxRecDepth 20000 in
theorem gX5_works_X5_keep : GoodIn wsX5_works (wsV RX5 72 RX5 yX5_keep wsX5_keep) := goodIn_app (goodIn_of _ (by decide +kernel)) ggX5_works_X5_keep
theorem dX5_works_0 : decode cX5_works 0 = .ok (.iload_n 1, 1) := by decide +kernel
theorem dX5_works_1 : decode cX5_works 1 = .ok (.iconst 2, 1) := by decide +kernel
theorem dX5_works_2 : decode cX5_works 2 = .ok (.bipush 6, 2) := by decide +kernel
theorem dX5_works_4 : decode cX5_works 4 = .ok (.invokestatic 61, 3) := by decide +kernel
theorem dX5_works_7 : decode cX5_works 7 = .ok (.ifCond .ne 5, 3) := by decide +kernel
theorem dX5_works_10 : decode cX5_works 10 = .ok (.iconst 0, 1) := by decide +kernel
theorem dX5_works_11 : decode cX5_works 11 = .ok (.ireturn, 1) := by decide +kernel
theorem dX5_works_12 : decode cX5_works 12 = .ok (.aload_n 0, 1) := by decide +kernel
theorem dX5_works_13 : decode cX5_works 13 = .ok (.invokevirtual 72, 3) := by decide +kernel
theorem dX5_works_16 : decode cX5_works 16 = .ok (.iconst 0, 1) := by decide +kernel
theorem dX5_works_17 : decode cX5_works 17 = .ok (.istore_n 2, 1) := by decide +kernel
theorem dX5_works_18 : decode cX5_works 18 = .ok (.iload_n 2, 1) := by decide +kernel
theorem dX5_works_19 : decode cX5_works 19 = .ok (.sipush 242, 3) := by decide +kernel
theorem dX5_works_22 : decode cX5_works 22 = .ok (.if_icmp .ge 16, 3) := by decide +kernel
theorem dX5_works_25 : decode cX5_works 25 = .ok (.aload_n 0, 1) := by decide +kernel
theorem dX5_works_26 : decode cX5_works 26 = .ok (.getfield 7, 3) := by decide +kernel
theorem dX5_works_29 : decode cX5_works 29 = .ok (.iload_n 2, 1) := by decide +kernel
theorem dX5_works_30 : decode cX5_works 30 = .ok (.iconst 0, 1) := by decide +kernel
theorem dX5_works_31 : decode cX5_works 31 = .ok (.iastore, 1) := by decide +kernel
theorem dX5_works_32 : decode cX5_works 32 = .ok (.iinc 2 1, 3) := by decide +kernel
theorem dX5_works_35 : decode cX5_works 35 = .ok (.goto (-17), 3) := by decide +kernel
theorem dX5_works_38 : decode cX5_works 38 = .ok (.aload_n 0, 1) := by decide +kernel
theorem dX5_works_39 : decode cX5_works 39 = .ok (.getfield 7, 3) := by decide +kernel
theorem dX5_works_42 : decode cX5_works 42 = .ok (.iconst 0, 1) := by decide +kernel
theorem dX5_works_43 : decode cX5_works 43 = .ok (.iload_n 1, 1) := by decide +kernel
theorem dX5_works_44 : decode cX5_works 44 = .ok (.iastore, 1) := by decide +kernel
theorem dX5_works_45 : decode cX5_works 45 = .ok (.iconst 1, 1) := by decide +kernel
theorem dX5_works_46 : decode cX5_works 46 = .ok (.ireturn, 1) := by decide +kernel
/-! ===== FlowMetersModel.works(I)Z ===== -/
def fX5_works_L18 (N : Nat) (n : Nat) (y1 : Int32) (y2 : Int32) (d_t_now : Nat → Int32) : Option (Nat → Int32) := match n with
  | 0 => none
  | n + 1 =>
    (if 242 ≤ y2 then
        some d_t_now
      else
        (ya_wr d_t_now 242 y2 0).bind fun v8 =>
        ya_lt (y2 + 1) fun v10 =>
        fX5_works_L18 N n y1 v10 v8)
def fX5_works (N : Nat) (c_t_many : Int32) (c_t_now : Nat → Int32) (c_t_before : Nat → Int32) (x1 : Int32) : Option (Int32 × Int32 × (Nat → Int32) × (Nat → Int32)) :=
  (fX5_isIn x1 2 6).bind fun v1 =>
  (if v1 = 0 then
    some (0, c_t_many, c_t_now, c_t_before)
  else
    (fX5_keep N c_t_many c_t_now c_t_before).bind fun (v4, v5) =>
    (fX5_works_L18 N N x1 0 c_t_now).bind fun v12 =>
    (ya_wr v12 242 0 x1).bind fun v14 =>
    some (1, v4, v14, v5))
theorem fX5_works_7 : yF wsX5_works RX5 7 5 0 RX5 TX5 19 := ⟨rfl, by decide, by decide +kernel, by decide +kernel⟩
abbrev rmX5_works : Room := { frames := 1, cells := 0, slots := 0, locals := 22 }
theorem eX5_works : yY yX5_works wsX5_works cX5_works 3 (some .boolean) rmX5_works 1 := ⟨⟨_, rfl⟩, rfl, rfl, by decide, by decide, by decide +kernel⟩
set_option maxHeartbeats 4000000 in
set_option maxRecDepth 100000 in
theorem mX5_works {l : Launch} {D : va_G} {sz : Nat} {cI cJ cZ cW cR : ClassId} {N : Nat} {h_t : Nat} {A_t : Nat → Nat} {c_t_many : Int32} {c_t_below : Int64} {c_t_above1 : Int64} {c_t_below1 : Int64} {c_t_now : Nat → Int32} {c_t_before : Nat → Int32} {x1 : Int32} {r : Int32} {zc_t_many : Int32} {zc_t_now : Nat → Int32} {zc_t_before : Nat → Int32} (hf : fX5_works N c_t_many c_t_now c_t_before x1 = some (r, zc_t_many, zc_t_now, zc_t_before)) : Met l yX5_works wsX5_works rmX5_works (yP D (yT cI cJ cZ cW cR) [(h_t, oR A_t c_t_many c_t_below c_t_above1 c_t_below1), (A_t 0, eI cI 242 c_t_now), (A_t 1, eI cI 1452 c_t_before)] sz [.ref h_t, .int x1]) (yQi D (yT cI cJ cZ cW cR) r [(h_t, oR A_t zc_t_many c_t_below c_t_above1 c_t_below1), (A_t 0, eI cI 242 zc_t_now), (A_t 1, eI cI 1452 zc_t_before)] (va_A [(h_t, oR A_t c_t_many c_t_below c_t_above1 c_t_below1), (A_t 0, eI cI 242 c_t_now), (A_t 1, eI cI 1452 c_t_before)] sz)) 0 0 (va_A [(h_t, oR A_t c_t_many c_t_below c_t_above1 c_t_below1), (A_t 0, eI cI 242 c_t_now), (A_t 1, eI cI 1452 c_t_before)] sz) := by
  refine yM (cc := cX5_works) (maxL := 3) (ret := (some .boolean)) RX5 (by decide) rfl rfl (Nat.le_of_ble_eq_true rfl) ?_
  intro p e s m below meth c Γ hr
  have loop18 : ∀ (n : Nat) (y1 : Int32) (y2 : Int32) (d_t_many : Int32) (d_t_below : Int64) (d_t_above1 : Int64) (d_t_below1 : Int64) (d_t_now : Nat → Int32) (d_t_before : Nat → Int32) (w0 : Nat → Int32), fX5_works_L18 N n y1 y2 d_t_now = some w0 → yG p l e (headSpec wsX5_works rmX5_works).room s m (List.toArray [.ref h_t, .int x1]) below meth c D (va_A [(h_t, oR A_t c_t_many c_t_below c_t_above1 c_t_below1), (A_t 0, eI cI 242 c_t_now), (A_t 1, eI cI 1452 c_t_before)] sz) 3 0 0 (MQ below (yQi D (yT cI cJ cZ cW cR) r [(h_t, oR A_t zc_t_many c_t_below c_t_above1 c_t_below1), (A_t 0, eI cI 242 zc_t_now), (A_t 1, eI cI 1452 zc_t_before)] (va_A [(h_t, oR A_t c_t_many c_t_below c_t_above1 c_t_below1), (A_t 0, eI cI 242 c_t_now), (A_t 1, eI cI 1452 c_t_before)] sz)) (List.toArray [.ref h_t, .int x1]) s 0 0 (va_A [(h_t, oR A_t c_t_many c_t_below c_t_above1 c_t_below1), (A_t 0, eI cI 242 c_t_now), (A_t 1, eI cI 1452 c_t_before)] sz)) 38 [(0, .ref h_t), (1, .int y1)] [] [(h_t, oR A_t d_t_many d_t_below d_t_above1 d_t_below1), (A_t 0, eI cI 242 w0), (A_t 1, eI cI 1452 d_t_before)] → yG p l e (headSpec wsX5_works rmX5_works).room s m (List.toArray [.ref h_t, .int x1]) below meth c D (va_A [(h_t, oR A_t c_t_many c_t_below c_t_above1 c_t_below1), (A_t 0, eI cI 242 c_t_now), (A_t 1, eI cI 1452 c_t_before)] sz) 3 0 0 (MQ below (yQi D (yT cI cJ cZ cW cR) r [(h_t, oR A_t zc_t_many c_t_below c_t_above1 c_t_below1), (A_t 0, eI cI 242 zc_t_now), (A_t 1, eI cI 1452 zc_t_before)] (va_A [(h_t, oR A_t c_t_many c_t_below c_t_above1 c_t_below1), (A_t 0, eI cI 242 c_t_now), (A_t 1, eI cI 1452 c_t_before)] sz)) (List.toArray [.ref h_t, .int x1]) s 0 0 (va_A [(h_t, oR A_t c_t_many c_t_below c_t_above1 c_t_below1), (A_t 0, eI cI 242 c_t_now), (A_t 1, eI cI 1452 c_t_before)] sz)) 18 [(0, .ref h_t), (1, .int y1), (2, .int y2)] [] [(h_t, oR A_t d_t_many d_t_below d_t_above1 d_t_below1), (A_t 0, eI cI 242 d_t_now), (A_t 1, eI cI 1452 d_t_before)] := by
    intro n
    induction n with
    | zero =>
      intro y1 y2 d_t_many d_t_below d_t_above1 d_t_below1 d_t_now d_t_before w0 hf
      cases hf
    | succ n ih =>
      intro y1 y2 d_t_many d_t_below d_t_above1 d_t_below1 d_t_now d_t_before w0 hf hk
      unfold fX5_works_L18 at hf
      refine g_iload_n Γ 2 dX5_works_18 rfl ?_
      refine g_sipush (v := 242) Γ dX5_works_19 (by decide) ?_
      refine g_icmp_ge Γ 38 dX5_works_22 (by decide) (fun c7 => ?_) (fun c7 => ?_)
      · have hf := ya_if1 c7 hf
        cases hf
        refine g_lv [0, 1] rfl ?_
        exact hk
      · have hf := ya_if2 c7 hf
        refine g_aload_n Γ 0 dX5_works_25 rfl ?_
        refine g_get Γ fX5_works_7 0 rfl rfl dX5_works_26 ?_
        refine g_iload_n Γ 2 dX5_works_29 rfl ?_
        refine g_iconst (v := 0) Γ dX5_works_30 (by decide) ?_
        obtain ⟨v8, e9, hf⟩ := ya_ob hf
        refine g_iast (ws' := [(h_t, oR A_t d_t_many d_t_below d_t_above1 d_t_below1), (A_t 0, eI cI 242 v8), (A_t 1, eI cI 1452 d_t_before)]) Γ e9 1 0 rfl rfl dX5_works_31 rfl ?_
        obtain ⟨v10, e11, hf⟩ := ya_lt_inv hf
        refine g_iinc (lv' := [(2, .int v10), (0, .ref h_t), (1, .int y1)]) Γ 2 dX5_works_32 rfl (by rw [e11]; rfl) (by decide) rfl ?_
        refine g_goto Γ 18 dX5_works_35 (by decide) ?_
        refine g_lv [1, 2, 0] rfl ?_
        exact ih _ _ _ _ _ _ _ _ _ hf hk
  show yG p l e (headSpec wsX5_works rmX5_works).room s m (List.toArray [.ref h_t, .int x1]) below meth c D (va_A [(h_t, oR A_t c_t_many c_t_below c_t_above1 c_t_below1), (A_t 0, eI cI 242 c_t_now), (A_t 1, eI cI 1452 c_t_before)] sz) 3 0 0 (MQ below (yQi D (yT cI cJ cZ cW cR) r [(h_t, oR A_t zc_t_many c_t_below c_t_above1 c_t_below1), (A_t 0, eI cI 242 zc_t_now), (A_t 1, eI cI 1452 zc_t_before)] (va_A [(h_t, oR A_t c_t_many c_t_below c_t_above1 c_t_below1), (A_t 0, eI cI 242 c_t_now), (A_t 1, eI cI 1452 c_t_before)] sz)) (List.toArray [.ref h_t, .int x1]) s 0 0 (va_A [(h_t, oR A_t c_t_many c_t_below c_t_above1 c_t_below1), (A_t 0, eI cI 242 c_t_now), (A_t 1, eI cI 1452 c_t_before)] sz)) 0 [(0, .ref h_t), (1, .int x1)] [] [(h_t, oR A_t c_t_many c_t_below c_t_above1 c_t_below1), (A_t 0, eI cI 242 c_t_now), (A_t 1, eI cI 1452 c_t_before)]
  unfold fX5_works at hf
  refine g_iload_n Γ 1 dX5_works_0 rfl ?_
  refine g_iconst (v := 2) Γ dX5_works_1 (by decide) ?_
  refine g_bipush (v := 6) Γ dX5_works_2 (by decide) ?_
  obtain ⟨v1, e2, hf⟩ := ya_ob hf
  refine g_si (wr := [(h_t, oR A_t c_t_many c_t_below c_t_above1 c_t_below1), (A_t 0, eI cI 242 c_t_now), (A_t 1, eI cI 1452 c_t_before)]) (ws' := [(h_t, oR A_t c_t_many c_t_below c_t_above1 c_t_below1), (A_t 0, eI cI 242 c_t_now), (A_t 1, eI cI 1452 c_t_before)]) Γ (fun sz => mX5_isIn (l := l) (D := D) (sz := sz) (cI := cI) (cJ := cJ) (cZ := cZ) (cW := cW) (cR := cR)  (hf := e2)) eX5_isIn ggX5_works_X5_isIn (by decide +kernel) (by decide +kernel) (by decide +kernel) rfl rfl (Nat.le_of_ble_eq_true rfl) ⟨Nat.le_of_ble_eq_true rfl, Nat.le_of_ble_eq_true rfl⟩ dX5_works_4 [] [0, 1, 2] rfl rfl rfl rfl (by decide) rfl ?_
  refine g_if_ne Γ 12 dX5_works_7 (by decide) (fun c3 => ?_) (fun c3 => ?_)
  · have hf := ya_if2 c3 hf
    refine g_aload_n Γ 0 dX5_works_12 rfl ?_
    obtain ⟨⟨v4, v5⟩, e6, hf⟩ := ya_ob hf
    refine g_vv (q := (RX5, TX5, 19)) (wr := []) (ws' := [(h_t, oR A_t v4 c_t_below c_t_above1 c_t_below1), (A_t 0, eI cI 242 c_t_now), (A_t 1, eI cI 1452 v5)]) Γ (fun sz => mX5_keep (l := l) (D := D) (sz := sz) (cI := cI) (cJ := cJ) (cZ := cZ) (cW := cW) (cR := cR) (h_t := h_t) (A_t := A_t) (hf := e6)) eX5_keep gX5_works_X5_keep rfl rfl 0 rfl rfl rfl (Nat.le_of_ble_eq_true rfl) ⟨Nat.le_of_ble_eq_true rfl, Nat.le_of_ble_eq_true rfl⟩ dX5_works_13 [0, 1, 2] [] rfl rfl rfl rfl (by decide) rfl ?_
    refine g_iconst (v := 0) Γ dX5_works_16 (by decide) ?_
    refine g_istore_n (lv' := [(2, .int 0), (0, .ref h_t), (1, .int x1)]) Γ dX5_works_17 (by decide) rfl ?_
    obtain ⟨v12, e13, hf⟩ := ya_ob hf
    refine g_lv [1, 2, 0] rfl ?_
    refine loop18 N _ _ _ _ _ _ _ _ _ e13  ?_
    refine g_aload_n Γ 0 dX5_works_38 rfl ?_
    refine g_get Γ fX5_works_7 0 rfl rfl dX5_works_39 ?_
    refine g_iconst (v := 0) Γ dX5_works_42 (by decide) ?_
    refine g_iload_n Γ 1 dX5_works_43 rfl ?_
    obtain ⟨v14, e15, hf⟩ := ya_ob hf
    refine g_iast (ws' := [(h_t, oR A_t v4 c_t_below c_t_above1 c_t_below1), (A_t 0, eI cI 242 v14), (A_t 1, eI cI 1452 v5)]) Γ e15 1 0 rfl rfl dX5_works_44 rfl ?_
    refine g_iconst (v := 1) Γ dX5_works_45 (by decide) ?_
    cases hf
    exact g_zret Γ hr (show ya_bo 1 = some 1 from rfl) dX5_works_46 [0, 1, 2] rfl rfl
  · have hf := ya_if1 c3 hf
    refine g_iconst (v := 0) Γ dX5_works_10 (by decide) ?_
    cases hf
    exact g_zret Γ hr (show ya_bo 0 = some 0 from rfl) dX5_works_11 [0, 1, 2] rfl rfl

set_option maxRecDepth 20000 in
theorem ggX5_flow_X5_isKnot : GoodIn wsX5_flow wsX5_isKnot := goodIn_r _ [6, 7, 8, 9, 5, 10, 1, 11, 12, 13, 28, 29, 30, 31, 32, 33, 34, 35, 36, 37, 38, 39, 40, 41, 42, 43, 44, 45, 46] (by decide +kernel) (by decide +kernel)
set_option maxRecDepth 20000 in
theorem gX5_flow_X5_isKnot : GoodIn wsX5_flow (wsV RX5 75 RX5 yX5_isKnot wsX5_isKnot) := goodIn_app (goodIn_of _ (by decide +kernel)) ggX5_flow_X5_isKnot
set_option maxRecDepth 20000 in
theorem ggX5_flow_X5_flows : GoodIn wsX5_flow wsX5_flows := goodIn_r _ [17, 1, 28, 29, 30, 31, 32, 33, 34, 35, 36, 37, 38, 39, 40, 41, 42, 43, 44, 45, 46] (by decide +kernel) (by decide +kernel)
set_option maxRecDepth 20000 in
theorem gX5_flow_X5_flows : GoodIn wsX5_flow (wsV RX5 57 RX5 yX5_flows wsX5_flows) := goodIn_app (goodIn_of _ (by decide +kernel)) ggX5_flow_X5_flows
set_option maxRecDepth 20000 in
theorem ggX5_flow_X5_keep : GoodIn wsX5_flow wsX5_keep := goodIn_r _ [21, 22, 23, 1, 28, 29, 30, 31, 32, 33, 34, 35, 36, 37, 38, 39, 40, 41, 42, 43, 44, 45, 46] (by decide +kernel) (by decide +kernel)
set_option maxRecDepth 20000 in
theorem gX5_flow_X5_keep : GoodIn wsX5_flow (wsV RX5 72 RX5 yX5_keep wsX5_keep) := goodIn_app (goodIn_of _ (by decide +kernel)) ggX5_flow_X5_keep
set_option maxRecDepth 20000 in
theorem ggX5_flow_X5_set : GoodIn wsX5_flow wsX5_set := goodIn_r _ [27, 1, 28, 29, 30, 31, 32, 33, 34, 35, 36, 37, 38, 39, 40, 41, 42, 43, 44, 45, 46] (by decide +kernel) (by decide +kernel)
set_option maxRecDepth 20000 in
theorem gX5_flow_X5_set : GoodIn wsX5_flow (wsV RX5 79 RX5 yX5_set wsX5_set) := goodIn_app (goodIn_of _ (by decide +kernel)) ggX5_flow_X5_set
theorem dX5_flow_0 : decode cX5_flow 0 = .ok (.aload_n 0, 1) := by decide +kernel
theorem dX5_flow_1 : decode cX5_flow 1 = .ok (.iload_n 1, 1) := by decide +kernel
theorem dX5_flow_2 : decode cX5_flow 2 = .ok (.invokevirtual 75, 3) := by decide +kernel
theorem dX5_flow_5 : decode cX5_flow 5 = .ok (.ifCond .eq 25, 3) := by decide +kernel
theorem dX5_flow_8 : decode cX5_flow 8 = .ok (.aload_n 0, 1) := by decide +kernel
theorem dX5_flow_9 : decode cX5_flow 9 = .ok (.iload_n 2, 1) := by decide +kernel
theorem dX5_flow_10 : decode cX5_flow 10 = .ok (.invokevirtual 75, 3) := by decide +kernel
theorem dX5_flow_13 : decode cX5_flow 13 = .ok (.ifCond .eq 17, 3) := by decide +kernel
theorem dX5_flow_16 : decode cX5_flow 16 = .ok (.iload_n 1, 1) := by decide +kernel
theorem dX5_flow_17 : decode cX5_flow 17 = .ok (.iload_n 2, 1) := by decide +kernel
theorem dX5_flow_18 : decode cX5_flow 18 = .ok (.if_icmp .eq 12, 3) := by decide +kernel
theorem dX5_flow_21 : decode cX5_flow 21 = .ok (.aload_n 0, 1) := by decide +kernel
theorem dX5_flow_22 : decode cX5_flow 22 = .ok (.invokevirtual 57, 3) := by decide +kernel
theorem dX5_flow_25 : decode cX5_flow 25 = .ok (.bipush 10, 2) := by decide +kernel
theorem dX5_flow_27 : decode cX5_flow 27 = .ok (.if_icmp .ne 5, 3) := by decide +kernel
theorem dX5_flow_30 : decode cX5_flow 30 = .ok (.iconst (-1), 1) := by decide +kernel
theorem dX5_flow_31 : decode cX5_flow 31 = .ok (.ireturn, 1) := by decide +kernel
theorem dX5_flow_32 : decode cX5_flow 32 = .ok (.aload_n 0, 1) := by decide +kernel
theorem dX5_flow_33 : decode cX5_flow 33 = .ok (.invokevirtual 72, 3) := by decide +kernel
theorem dX5_flow_36 : decode cX5_flow 36 = .ok (.aload_n 0, 1) := by decide +kernel
theorem dX5_flow_37 : decode cX5_flow 37 = .ok (.invokevirtual 57, 3) := by decide +kernel
theorem dX5_flow_40 : decode cX5_flow 40 = .ok (.istore_n 3, 1) := by decide +kernel
theorem dX5_flow_41 : decode cX5_flow 41 = .ok (.aload_n 0, 1) := by decide +kernel
theorem dX5_flow_42 : decode cX5_flow 42 = .ok (.getfield 7, 3) := by decide +kernel
theorem dX5_flow_45 : decode cX5_flow 45 = .ok (.iconst 1, 1) := by decide +kernel
theorem dX5_flow_46 : decode cX5_flow 46 = .ok (.dup2, 1) := by decide +kernel
theorem dX5_flow_47 : decode cX5_flow 47 = .ok (.iaload, 1) := by decide +kernel
theorem dX5_flow_48 : decode cX5_flow 48 = .ok (.iconst 1, 1) := by decide +kernel
theorem dX5_flow_49 : decode cX5_flow 49 = .ok (.iadd, 1) := by decide +kernel
theorem dX5_flow_50 : decode cX5_flow 50 = .ok (.iastore, 1) := by decide +kernel
theorem dX5_flow_51 : decode cX5_flow 51 = .ok (.iconst 0, 1) := by decide +kernel
theorem dX5_flow_52 : decode cX5_flow 52 = .ok (.istore 4, 2) := by decide +kernel
theorem dX5_flow_54 : decode cX5_flow 54 = .ok (.iload 4, 2) := by decide +kernel
theorem dX5_flow_56 : decode cX5_flow 56 = .ok (.bipush 24, 2) := by decide +kernel
theorem dX5_flow_58 : decode cX5_flow 58 = .ok (.if_icmp .ge 17, 3) := by decide +kernel
theorem dX5_flow_61 : decode cX5_flow 61 = .ok (.aload_n 0, 1) := by decide +kernel
theorem dX5_flow_62 : decode cX5_flow 62 = .ok (.iload_n 3, 1) := by decide +kernel
theorem dX5_flow_63 : decode cX5_flow 63 = .ok (.iload 4, 2) := by decide +kernel
theorem dX5_flow_65 : decode cX5_flow 65 = .ok (.iconst 0, 1) := by decide +kernel
theorem dX5_flow_66 : decode cX5_flow 66 = .ok (.invokevirtual 79, 3) := by decide +kernel
theorem dX5_flow_69 : decode cX5_flow 69 = .ok (.iinc 4 1, 3) := by decide +kernel
theorem dX5_flow_72 : decode cX5_flow 72 = .ok (.goto (-18), 3) := by decide +kernel
theorem dX5_flow_75 : decode cX5_flow 75 = .ok (.aload_n 0, 1) := by decide +kernel
theorem dX5_flow_76 : decode cX5_flow 76 = .ok (.iload_n 3, 1) := by decide +kernel
theorem dX5_flow_77 : decode cX5_flow 77 = .ok (.iconst 0, 1) := by decide +kernel
theorem dX5_flow_78 : decode cX5_flow 78 = .ok (.iload_n 1, 1) := by decide +kernel
theorem dX5_flow_79 : decode cX5_flow 79 = .ok (.invokevirtual 79, 3) := by decide +kernel
theorem dX5_flow_82 : decode cX5_flow 82 = .ok (.aload_n 0, 1) := by decide +kernel
theorem dX5_flow_83 : decode cX5_flow 83 = .ok (.iload_n 3, 1) := by decide +kernel
theorem dX5_flow_84 : decode cX5_flow 84 = .ok (.iconst 1, 1) := by decide +kernel
theorem dX5_flow_85 : decode cX5_flow 85 = .ok (.iload_n 2, 1) := by decide +kernel
theorem dX5_flow_86 : decode cX5_flow 86 = .ok (.invokevirtual 79, 3) := by decide +kernel
theorem dX5_flow_89 : decode cX5_flow 89 = .ok (.aload_n 0, 1) := by decide +kernel
theorem dX5_flow_90 : decode cX5_flow 90 = .ok (.iload_n 3, 1) := by decide +kernel
theorem dX5_flow_91 : decode cX5_flow 91 = .ok (.iconst 4, 1) := by decide +kernel
theorem dX5_flow_92 : decode cX5_flow 92 = .ok (.iconst 1, 1) := by decide +kernel
theorem dX5_flow_93 : decode cX5_flow 93 = .ok (.invokevirtual 79, 3) := by decide +kernel
theorem dX5_flow_96 : decode cX5_flow 96 = .ok (.aload_n 0, 1) := by decide +kernel
theorem dX5_flow_97 : decode cX5_flow 97 = .ok (.iload_n 3, 1) := by decide +kernel
theorem dX5_flow_98 : decode cX5_flow 98 = .ok (.iconst 5, 1) := by decide +kernel
theorem dX5_flow_99 : decode cX5_flow 99 = .ok (.iconst 1, 1) := by decide +kernel
theorem dX5_flow_100 : decode cX5_flow 100 = .ok (.invokevirtual 79, 3) := by decide +kernel
theorem dX5_flow_103 : decode cX5_flow 103 = .ok (.aload_n 0, 1) := by decide +kernel
theorem dX5_flow_104 : decode cX5_flow 104 = .ok (.iload_n 3, 1) := by decide +kernel
theorem dX5_flow_105 : decode cX5_flow 105 = .ok (.bipush 6, 2) := by decide +kernel
theorem dX5_flow_107 : decode cX5_flow 107 = .ok (.iconst (-1), 1) := by decide +kernel
theorem dX5_flow_108 : decode cX5_flow 108 = .ok (.invokevirtual 79, 3) := by decide +kernel
theorem dX5_flow_111 : decode cX5_flow 111 = .ok (.iload_n 3, 1) := by decide +kernel
theorem dX5_flow_112 : decode cX5_flow 112 = .ok (.ireturn, 1) := by decide +kernel
/-! ===== FlowMetersModel.flow(II)I ===== -/
def fX5_flow_L54 (N : Nat) (n : Nat) (y1 : Int32) (y2 : Int32) (y3 : Int32) (y4 : Int32) (d_t_now : Nat → Int32) : Option (Nat → Int32) := match n with
  | 0 => none
  | n + 1 =>
    (if 24 ≤ y4 then
        some d_t_now
      else
        (fX5_set d_t_now y3 y4 0).bind fun v21 =>
        ya_lt (y4 + 1) fun v23 =>
        fX5_flow_L54 N n y1 y2 y3 v23 v21)
def fX5_flow (N : Nat) (c_t_many : Int32) (c_t_now : Nat → Int32) (c_t_before : Nat → Int32) (x1 : Int32) (x2 : Int32) : Option (Int32 × Int32 × (Nat → Int32) × (Nat → Int32)) :=
  (fX5_isKnot c_t_now x1).bind fun v1 =>
  (if v1 = 0 then
    some ((-1), c_t_many, c_t_now, c_t_before)
  else
    (fX5_isKnot c_t_now x2).bind fun v4 =>
    (if v4 = 0 then
      some ((-1), c_t_many, c_t_now, c_t_before)
    else
      (if x1 = x2 then
        some ((-1), c_t_many, c_t_now, c_t_before)
      else
        (fX5_flows c_t_now).bind fun v8 =>
        (if v8 = 10 then
          some ((-1), c_t_many, c_t_now, c_t_before)
        else
          (fX5_keep N c_t_many c_t_now c_t_before).bind fun (v11, v12) =>
          (fX5_flows c_t_now).bind fun v14 =>
          (ya_rd c_t_now 242 1).bind fun v16 =>
          (ya_wr c_t_now 242 1 (v16 + 1)).bind fun v18 =>
          (fX5_flow_L54 N N x1 x2 v14 0 v18).bind fun v25 =>
          (fX5_set v25 v14 0 x1).bind fun v27 =>
          (fX5_set v27 v14 1 x2).bind fun v29 =>
          (fX5_set v29 v14 4 1).bind fun v31 =>
          (fX5_set v31 v14 5 1).bind fun v33 =>
          (fX5_set v33 v14 6 (-1)).bind fun v35 =>
          some (v14, v11, v35, v12)))))
theorem fX5_flow_7 : yF wsX5_flow RX5 7 5 0 RX5 TX5 19 := ⟨rfl, by decide, by decide +kernel, by decide +kernel⟩
abbrev rmX5_flow : Room := { frames := 2, cells := 0, slots := 0, locals := 43 }
theorem eX5_flow : yY yX5_flow wsX5_flow cX5_flow 5 (some .int) rmX5_flow 2 := ⟨⟨_, rfl⟩, rfl, rfl, by decide, by decide, by decide +kernel⟩
set_option maxHeartbeats 4000000 in
set_option maxRecDepth 100000 in
theorem mX5_flow {l : Launch} {D : va_G} {sz : Nat} {cI cJ cZ cW cR : ClassId} {N : Nat} {h_t : Nat} {A_t : Nat → Nat} {c_t_many : Int32} {c_t_below : Int64} {c_t_above1 : Int64} {c_t_below1 : Int64} {c_t_now : Nat → Int32} {c_t_before : Nat → Int32} {x1 : Int32} {x2 : Int32} {r : Int32} {zc_t_many : Int32} {zc_t_now : Nat → Int32} {zc_t_before : Nat → Int32} (hf : fX5_flow N c_t_many c_t_now c_t_before x1 x2 = some (r, zc_t_many, zc_t_now, zc_t_before)) : Met l yX5_flow wsX5_flow rmX5_flow (yP D (yT cI cJ cZ cW cR) [(h_t, oR A_t c_t_many c_t_below c_t_above1 c_t_below1), (A_t 0, eI cI 242 c_t_now), (A_t 1, eI cI 1452 c_t_before)] sz [.ref h_t, .int x1, .int x2]) (yQi D (yT cI cJ cZ cW cR) r [(h_t, oR A_t zc_t_many c_t_below c_t_above1 c_t_below1), (A_t 0, eI cI 242 zc_t_now), (A_t 1, eI cI 1452 zc_t_before)] (va_A [(h_t, oR A_t c_t_many c_t_below c_t_above1 c_t_below1), (A_t 0, eI cI 242 c_t_now), (A_t 1, eI cI 1452 c_t_before)] sz)) 0 0 (va_A [(h_t, oR A_t c_t_many c_t_below c_t_above1 c_t_below1), (A_t 0, eI cI 242 c_t_now), (A_t 1, eI cI 1452 c_t_before)] sz) := by
  refine yM (cc := cX5_flow) (maxL := 5) (ret := (some .int)) RX5 (by decide) rfl rfl (Nat.le_of_ble_eq_true rfl) ?_
  intro p e s m below meth c Γ hr
  have loop54 : ∀ (n : Nat) (y1 : Int32) (y2 : Int32) (y3 : Int32) (y4 : Int32) (d_t_many : Int32) (d_t_below : Int64) (d_t_above1 : Int64) (d_t_below1 : Int64) (d_t_now : Nat → Int32) (d_t_before : Nat → Int32) (w0 : Nat → Int32), fX5_flow_L54 N n y1 y2 y3 y4 d_t_now = some w0 → yG p l e (headSpec wsX5_flow rmX5_flow).room s m (List.toArray [.ref h_t, .int x1, .int x2]) below meth c D (va_A [(h_t, oR A_t c_t_many c_t_below c_t_above1 c_t_below1), (A_t 0, eI cI 242 c_t_now), (A_t 1, eI cI 1452 c_t_before)] sz) 5 0 0 (MQ below (yQi D (yT cI cJ cZ cW cR) r [(h_t, oR A_t zc_t_many c_t_below c_t_above1 c_t_below1), (A_t 0, eI cI 242 zc_t_now), (A_t 1, eI cI 1452 zc_t_before)] (va_A [(h_t, oR A_t c_t_many c_t_below c_t_above1 c_t_below1), (A_t 0, eI cI 242 c_t_now), (A_t 1, eI cI 1452 c_t_before)] sz)) (List.toArray [.ref h_t, .int x1, .int x2]) s 0 0 (va_A [(h_t, oR A_t c_t_many c_t_below c_t_above1 c_t_below1), (A_t 0, eI cI 242 c_t_now), (A_t 1, eI cI 1452 c_t_before)] sz)) 75 [(0, .ref h_t), (1, .int y1), (2, .int y2), (3, .int y3)] [] [(h_t, oR A_t d_t_many d_t_below d_t_above1 d_t_below1), (A_t 0, eI cI 242 w0), (A_t 1, eI cI 1452 d_t_before)] → yG p l e (headSpec wsX5_flow rmX5_flow).room s m (List.toArray [.ref h_t, .int x1, .int x2]) below meth c D (va_A [(h_t, oR A_t c_t_many c_t_below c_t_above1 c_t_below1), (A_t 0, eI cI 242 c_t_now), (A_t 1, eI cI 1452 c_t_before)] sz) 5 0 0 (MQ below (yQi D (yT cI cJ cZ cW cR) r [(h_t, oR A_t zc_t_many c_t_below c_t_above1 c_t_below1), (A_t 0, eI cI 242 zc_t_now), (A_t 1, eI cI 1452 zc_t_before)] (va_A [(h_t, oR A_t c_t_many c_t_below c_t_above1 c_t_below1), (A_t 0, eI cI 242 c_t_now), (A_t 1, eI cI 1452 c_t_before)] sz)) (List.toArray [.ref h_t, .int x1, .int x2]) s 0 0 (va_A [(h_t, oR A_t c_t_many c_t_below c_t_above1 c_t_below1), (A_t 0, eI cI 242 c_t_now), (A_t 1, eI cI 1452 c_t_before)] sz)) 54 [(0, .ref h_t), (1, .int y1), (2, .int y2), (3, .int y3), (4, .int y4)] [] [(h_t, oR A_t d_t_many d_t_below d_t_above1 d_t_below1), (A_t 0, eI cI 242 d_t_now), (A_t 1, eI cI 1452 d_t_before)] := by
    intro n
    induction n with
    | zero =>
      intro y1 y2 y3 y4 d_t_many d_t_below d_t_above1 d_t_below1 d_t_now d_t_before w0 hf
      cases hf
    | succ n ih =>
      intro y1 y2 y3 y4 d_t_many d_t_below d_t_above1 d_t_below1 d_t_now d_t_before w0 hf hk
      unfold fX5_flow_L54 at hf
      refine g_iload Γ 4 dX5_flow_54 rfl ?_
      refine g_bipush (v := 24) Γ dX5_flow_56 (by decide) ?_
      refine g_icmp_ge Γ 75 dX5_flow_58 (by decide) (fun c20 => ?_) (fun c20 => ?_)
      · have hf := ya_if1 c20 hf
        cases hf
        refine g_lv [0, 1, 2, 3] rfl ?_
        exact hk
      · have hf := ya_if2 c20 hf
        refine g_aload_n Γ 0 dX5_flow_61 rfl ?_
        refine g_iload_n Γ 3 dX5_flow_62 rfl ?_
        refine g_iload Γ 4 dX5_flow_63 rfl ?_
        refine g_iconst (v := 0) Γ dX5_flow_65 (by decide) ?_
        obtain ⟨v21, e22, hf⟩ := ya_ob hf
        refine g_vv (q := (RX5, TX5, 19)) (wr := [(A_t 1, eI cI 1452 d_t_before)]) (ws' := [(A_t 1, eI cI 1452 d_t_before), (h_t, oR A_t d_t_many d_t_below d_t_above1 d_t_below1), (A_t 0, eI cI 242 v21)]) Γ (fun sz => mX5_set (l := l) (D := D) (sz := sz) (cI := cI) (cJ := cJ) (cZ := cZ) (cW := cW) (cR := cR) (h_t := h_t) (A_t := A_t) (hf := e22)) eX5_set gX5_flow_X5_set rfl rfl 0 rfl rfl rfl (Nat.le_of_ble_eq_true rfl) ⟨Nat.le_of_ble_eq_true rfl, Nat.le_of_ble_eq_true rfl⟩ dX5_flow_66 [0, 1] [2] rfl rfl rfl rfl (by decide) rfl ?_
        obtain ⟨v23, e24, hf⟩ := ya_lt_inv hf
        refine g_iinc (lv' := [(4, .int v23), (0, .ref h_t), (1, .int y1), (2, .int y2), (3, .int y3)]) Γ 4 dX5_flow_69 rfl (by rw [e24]; rfl) (by decide) rfl ?_
        refine g_goto Γ 54 dX5_flow_72 (by decide) ?_
        refine g_lv [1, 2, 3, 4, 0] rfl ?_
        refine g_ws (ws' := [(h_t, oR A_t d_t_many d_t_below d_t_above1 d_t_below1), (A_t 0, eI cI 242 v21), (A_t 1, eI cI 1452 d_t_before)]) [1, 2, 0] rfl rfl ?_
        exact ih _ _ _ _ _ _ _ _ _ _ _ hf hk
  show yG p l e (headSpec wsX5_flow rmX5_flow).room s m (List.toArray [.ref h_t, .int x1, .int x2]) below meth c D (va_A [(h_t, oR A_t c_t_many c_t_below c_t_above1 c_t_below1), (A_t 0, eI cI 242 c_t_now), (A_t 1, eI cI 1452 c_t_before)] sz) 5 0 0 (MQ below (yQi D (yT cI cJ cZ cW cR) r [(h_t, oR A_t zc_t_many c_t_below c_t_above1 c_t_below1), (A_t 0, eI cI 242 zc_t_now), (A_t 1, eI cI 1452 zc_t_before)] (va_A [(h_t, oR A_t c_t_many c_t_below c_t_above1 c_t_below1), (A_t 0, eI cI 242 c_t_now), (A_t 1, eI cI 1452 c_t_before)] sz)) (List.toArray [.ref h_t, .int x1, .int x2]) s 0 0 (va_A [(h_t, oR A_t c_t_many c_t_below c_t_above1 c_t_below1), (A_t 0, eI cI 242 c_t_now), (A_t 1, eI cI 1452 c_t_before)] sz)) 0 [(0, .ref h_t), (1, .int x1), (2, .int x2)] [] [(h_t, oR A_t c_t_many c_t_below c_t_above1 c_t_below1), (A_t 0, eI cI 242 c_t_now), (A_t 1, eI cI 1452 c_t_before)]
  unfold fX5_flow at hf
  refine g_aload_n Γ 0 dX5_flow_0 rfl ?_
  refine g_iload_n Γ 1 dX5_flow_1 rfl ?_
  obtain ⟨v1, e2, hf⟩ := ya_ob hf
  refine g_vi (q := (RX5, TX5, 19)) (wr := [(A_t 1, eI cI 1452 c_t_before)]) (ws' := [(A_t 1, eI cI 1452 c_t_before), (h_t, oR A_t c_t_many c_t_below c_t_above1 c_t_below1), (A_t 0, eI cI 242 c_t_now)]) Γ (fun sz => mX5_isKnot (l := l) (D := D) (sz := sz) (cI := cI) (cJ := cJ) (cZ := cZ) (cW := cW) (cR := cR) (h_t := h_t) (A_t := A_t) (hf := e2)) eX5_isKnot gX5_flow_X5_isKnot rfl rfl 0 rfl rfl rfl (Nat.le_of_ble_eq_true rfl) ⟨Nat.le_of_ble_eq_true rfl, Nat.le_of_ble_eq_true rfl⟩ dX5_flow_2 [0, 1] [2] rfl rfl rfl rfl (by decide) rfl ?_
  refine g_if_eq Γ 30 dX5_flow_5 (by decide) (fun c3 => ?_) (fun c3 => ?_)
  · have hf := ya_if1 c3 hf
    refine g_iconst (v := (-1)) Γ dX5_flow_30 (by decide) ?_
    cases hf
    exact g_iret Γ hr dX5_flow_31 [1, 2, 0] rfl rfl
  · have hf := ya_if2 c3 hf
    refine g_aload_n Γ 0 dX5_flow_8 rfl ?_
    refine g_iload_n Γ 2 dX5_flow_9 rfl ?_
    obtain ⟨v4, e5, hf⟩ := ya_ob hf
    refine g_vi (q := (RX5, TX5, 19)) (wr := [(A_t 1, eI cI 1452 c_t_before)]) (ws' := [(A_t 1, eI cI 1452 c_t_before), (h_t, oR A_t c_t_many c_t_below c_t_above1 c_t_below1), (A_t 0, eI cI 242 c_t_now)]) Γ (fun sz => mX5_isKnot (l := l) (D := D) (sz := sz) (cI := cI) (cJ := cJ) (cZ := cZ) (cW := cW) (cR := cR) (h_t := h_t) (A_t := A_t) (hf := e5)) eX5_isKnot gX5_flow_X5_isKnot rfl rfl 0 rfl rfl rfl (Nat.le_of_ble_eq_true rfl) ⟨Nat.le_of_ble_eq_true rfl, Nat.le_of_ble_eq_true rfl⟩ dX5_flow_10 [1, 2] [0] rfl rfl rfl rfl (by decide) rfl ?_
    refine g_if_eq Γ 30 dX5_flow_13 (by decide) (fun c6 => ?_) (fun c6 => ?_)
    · have hf := ya_if1 c6 hf
      refine g_iconst (v := (-1)) Γ dX5_flow_30 (by decide) ?_
      cases hf
      exact g_iret Γ hr dX5_flow_31 [1, 2, 0] rfl rfl
    · have hf := ya_if2 c6 hf
      refine g_iload_n Γ 1 dX5_flow_16 rfl ?_
      refine g_iload_n Γ 2 dX5_flow_17 rfl ?_
      refine g_icmp_eq Γ 30 dX5_flow_18 (by decide) (fun c7 => ?_) (fun c7 => ?_)
      · have hf := ya_if1 c7 hf
        refine g_iconst (v := (-1)) Γ dX5_flow_30 (by decide) ?_
        cases hf
        exact g_iret Γ hr dX5_flow_31 [1, 2, 0] rfl rfl
      · have hf := ya_if2 c7 hf
        refine g_aload_n Γ 0 dX5_flow_21 rfl ?_
        obtain ⟨v8, e9, hf⟩ := ya_ob hf
        refine g_vi (q := (RX5, TX5, 19)) (wr := [(A_t 1, eI cI 1452 c_t_before)]) (ws' := [(A_t 1, eI cI 1452 c_t_before), (h_t, oR A_t c_t_many c_t_below c_t_above1 c_t_below1), (A_t 0, eI cI 242 c_t_now)]) Γ (fun sz => mX5_flows (l := l) (D := D) (sz := sz) (cI := cI) (cJ := cJ) (cZ := cZ) (cW := cW) (cR := cR) (h_t := h_t) (A_t := A_t) (hf := e9)) eX5_flows gX5_flow_X5_flows rfl rfl 0 rfl rfl rfl (Nat.le_of_ble_eq_true rfl) ⟨Nat.le_of_ble_eq_true rfl, Nat.le_of_ble_eq_true rfl⟩ dX5_flow_22 [1, 2] [0] rfl rfl rfl rfl (by decide) rfl ?_
        refine g_bipush (v := 10) Γ dX5_flow_25 (by decide) ?_
        refine g_icmp_ne Γ 32 dX5_flow_27 (by decide) (fun c10 => ?_) (fun c10 => ?_)
        · have hf := ya_if2 c10 hf
          refine g_aload_n Γ 0 dX5_flow_32 rfl ?_
          obtain ⟨⟨v11, v12⟩, e13, hf⟩ := ya_ob hf
          refine g_vv (q := (RX5, TX5, 19)) (wr := []) (ws' := [(h_t, oR A_t v11 c_t_below c_t_above1 c_t_below1), (A_t 0, eI cI 242 c_t_now), (A_t 1, eI cI 1452 v12)]) Γ (fun sz => mX5_keep (l := l) (D := D) (sz := sz) (cI := cI) (cJ := cJ) (cZ := cZ) (cW := cW) (cR := cR) (h_t := h_t) (A_t := A_t) (hf := e13)) eX5_keep gX5_flow_X5_keep rfl rfl 0 rfl rfl rfl (Nat.le_of_ble_eq_true rfl) ⟨Nat.le_of_ble_eq_true rfl, Nat.le_of_ble_eq_true rfl⟩ dX5_flow_33 [1, 2, 0] [] rfl rfl rfl rfl (by decide) rfl ?_
          refine g_aload_n Γ 0 dX5_flow_36 rfl ?_
          obtain ⟨v14, e15, hf⟩ := ya_ob hf
          refine g_vi (q := (RX5, TX5, 19)) (wr := [(A_t 1, eI cI 1452 v12)]) (ws' := [(A_t 1, eI cI 1452 v12), (h_t, oR A_t v11 c_t_below c_t_above1 c_t_below1), (A_t 0, eI cI 242 c_t_now)]) Γ (fun sz => mX5_flows (l := l) (D := D) (sz := sz) (cI := cI) (cJ := cJ) (cZ := cZ) (cW := cW) (cR := cR) (h_t := h_t) (A_t := A_t) (hf := e15)) eX5_flows gX5_flow_X5_flows rfl rfl 0 rfl rfl rfl (Nat.le_of_ble_eq_true rfl) ⟨Nat.le_of_ble_eq_true rfl, Nat.le_of_ble_eq_true rfl⟩ dX5_flow_37 [0, 1] [2] rfl rfl rfl rfl (by decide) rfl ?_
          refine g_istore_n (lv' := [(3, .int v14), (0, .ref h_t), (1, .int x1), (2, .int x2)]) Γ dX5_flow_40 (by decide) rfl ?_
          refine g_aload_n Γ 1 dX5_flow_41 rfl ?_
          refine g_get Γ fX5_flow_7 1 rfl rfl dX5_flow_42 ?_
          refine g_iconst (v := 1) Γ dX5_flow_45 (by decide) ?_
          refine g_dup2 Γ dX5_flow_46 rfl rfl ?_
          obtain ⟨v16, e17, hf⟩ := ya_ob hf
          refine g_iald Γ e17 2 0 rfl rfl dX5_flow_47 ?_
          refine g_iconst (v := 1) Γ dX5_flow_48 (by decide) ?_
          refine g_iadd Γ dX5_flow_49 ?_
          obtain ⟨v18, e19, hf⟩ := ya_ob hf
          refine g_iast (ws' := [(A_t 1, eI cI 1452 v12), (h_t, oR A_t v11 c_t_below c_t_above1 c_t_below1), (A_t 0, eI cI 242 v18)]) Γ e19 2 0 rfl rfl dX5_flow_50 rfl ?_
          refine g_iconst (v := 0) Γ dX5_flow_51 (by decide) ?_
          refine g_istore (lv' := [(4, .int 0), (3, .int v14), (0, .ref h_t), (1, .int x1), (2, .int x2)]) Γ dX5_flow_52 (by decide) rfl ?_
          obtain ⟨v25, e26, hf⟩ := ya_ob hf
          refine g_lv [2, 3, 4, 1, 0] rfl ?_
          refine g_ws (ws' := [(h_t, oR A_t v11 c_t_below c_t_above1 c_t_below1), (A_t 0, eI cI 242 v18), (A_t 1, eI cI 1452 v12)]) [1, 2, 0] rfl rfl ?_
          refine loop54 N _ _ _ _ _ _ _ _ _ _ _ e26  ?_
          refine g_aload_n Γ 0 dX5_flow_75 rfl ?_
          refine g_iload_n Γ 3 dX5_flow_76 rfl ?_
          refine g_iconst (v := 0) Γ dX5_flow_77 (by decide) ?_
          refine g_iload_n Γ 1 dX5_flow_78 rfl ?_
          obtain ⟨v27, e28, hf⟩ := ya_ob hf
          refine g_vv (q := (RX5, TX5, 19)) (wr := [(A_t 1, eI cI 1452 v12)]) (ws' := [(A_t 1, eI cI 1452 v12), (h_t, oR A_t v11 c_t_below c_t_above1 c_t_below1), (A_t 0, eI cI 242 v27)]) Γ (fun sz => mX5_set (l := l) (D := D) (sz := sz) (cI := cI) (cJ := cJ) (cZ := cZ) (cW := cW) (cR := cR) (h_t := h_t) (A_t := A_t) (hf := e28)) eX5_set gX5_flow_X5_set rfl rfl 0 rfl rfl rfl (Nat.le_of_ble_eq_true rfl) ⟨Nat.le_of_ble_eq_true rfl, Nat.le_of_ble_eq_true rfl⟩ dX5_flow_79 [0, 1] [2] rfl rfl rfl rfl (by decide) rfl ?_
          refine g_aload_n Γ 0 dX5_flow_82 rfl ?_
          refine g_iload_n Γ 3 dX5_flow_83 rfl ?_
          refine g_iconst (v := 1) Γ dX5_flow_84 (by decide) ?_
          refine g_iload_n Γ 2 dX5_flow_85 rfl ?_
          obtain ⟨v29, e30, hf⟩ := ya_ob hf
          refine g_vv (q := (RX5, TX5, 19)) (wr := [(A_t 1, eI cI 1452 v12)]) (ws' := [(A_t 1, eI cI 1452 v12), (h_t, oR A_t v11 c_t_below c_t_above1 c_t_below1), (A_t 0, eI cI 242 v29)]) Γ (fun sz => mX5_set (l := l) (D := D) (sz := sz) (cI := cI) (cJ := cJ) (cZ := cZ) (cW := cW) (cR := cR) (h_t := h_t) (A_t := A_t) (hf := e30)) eX5_set gX5_flow_X5_set rfl rfl 0 rfl rfl rfl (Nat.le_of_ble_eq_true rfl) ⟨Nat.le_of_ble_eq_true rfl, Nat.le_of_ble_eq_true rfl⟩ dX5_flow_86 [1, 2] [0] rfl rfl rfl rfl (by decide) rfl ?_
          refine g_aload_n Γ 0 dX5_flow_89 rfl ?_
          refine g_iload_n Γ 3 dX5_flow_90 rfl ?_
          refine g_iconst (v := 4) Γ dX5_flow_91 (by decide) ?_
          refine g_iconst (v := 1) Γ dX5_flow_92 (by decide) ?_
          obtain ⟨v31, e32, hf⟩ := ya_ob hf
          refine g_vv (q := (RX5, TX5, 19)) (wr := [(A_t 1, eI cI 1452 v12)]) (ws' := [(A_t 1, eI cI 1452 v12), (h_t, oR A_t v11 c_t_below c_t_above1 c_t_below1), (A_t 0, eI cI 242 v31)]) Γ (fun sz => mX5_set (l := l) (D := D) (sz := sz) (cI := cI) (cJ := cJ) (cZ := cZ) (cW := cW) (cR := cR) (h_t := h_t) (A_t := A_t) (hf := e32)) eX5_set gX5_flow_X5_set rfl rfl 0 rfl rfl rfl (Nat.le_of_ble_eq_true rfl) ⟨Nat.le_of_ble_eq_true rfl, Nat.le_of_ble_eq_true rfl⟩ dX5_flow_93 [1, 2] [0] rfl rfl rfl rfl (by decide) rfl ?_
          refine g_aload_n Γ 0 dX5_flow_96 rfl ?_
          refine g_iload_n Γ 3 dX5_flow_97 rfl ?_
          refine g_iconst (v := 5) Γ dX5_flow_98 (by decide) ?_
          refine g_iconst (v := 1) Γ dX5_flow_99 (by decide) ?_
          obtain ⟨v33, e34, hf⟩ := ya_ob hf
          refine g_vv (q := (RX5, TX5, 19)) (wr := [(A_t 1, eI cI 1452 v12)]) (ws' := [(A_t 1, eI cI 1452 v12), (h_t, oR A_t v11 c_t_below c_t_above1 c_t_below1), (A_t 0, eI cI 242 v33)]) Γ (fun sz => mX5_set (l := l) (D := D) (sz := sz) (cI := cI) (cJ := cJ) (cZ := cZ) (cW := cW) (cR := cR) (h_t := h_t) (A_t := A_t) (hf := e34)) eX5_set gX5_flow_X5_set rfl rfl 0 rfl rfl rfl (Nat.le_of_ble_eq_true rfl) ⟨Nat.le_of_ble_eq_true rfl, Nat.le_of_ble_eq_true rfl⟩ dX5_flow_100 [1, 2] [0] rfl rfl rfl rfl (by decide) rfl ?_
          refine g_aload_n Γ 0 dX5_flow_103 rfl ?_
          refine g_iload_n Γ 3 dX5_flow_104 rfl ?_
          refine g_bipush (v := 6) Γ dX5_flow_105 (by decide) ?_
          refine g_iconst (v := (-1)) Γ dX5_flow_107 (by decide) ?_
          obtain ⟨v35, e36, hf⟩ := ya_ob hf
          refine g_vv (q := (RX5, TX5, 19)) (wr := [(A_t 1, eI cI 1452 v12)]) (ws' := [(A_t 1, eI cI 1452 v12), (h_t, oR A_t v11 c_t_below c_t_above1 c_t_below1), (A_t 0, eI cI 242 v35)]) Γ (fun sz => mX5_set (l := l) (D := D) (sz := sz) (cI := cI) (cJ := cJ) (cZ := cZ) (cW := cW) (cR := cR) (h_t := h_t) (A_t := A_t) (hf := e36)) eX5_set gX5_flow_X5_set rfl rfl 0 rfl rfl rfl (Nat.le_of_ble_eq_true rfl) ⟨Nat.le_of_ble_eq_true rfl, Nat.le_of_ble_eq_true rfl⟩ dX5_flow_108 [1, 2] [0] rfl rfl rfl rfl (by decide) rfl ?_
          refine g_iload_n Γ 3 dX5_flow_111 rfl ?_
          cases hf
          exact g_iret Γ hr dX5_flow_112 [1, 2, 0] rfl rfl
        · have hf := ya_if1 c10 hf
          refine g_iconst (v := (-1)) Γ dX5_flow_30 (by decide) ?_
          cases hf
          exact g_iret Γ hr dX5_flow_31 [1, 2, 0] rfl rfl

set_option maxRecDepth 20000 in
theorem ggX5_read_X5_isFlow : GoodIn wsX5_read wsX5_isFlow := goodIn_r _ [5, 6, 7, 8, 4, 9, 10, 11, 12, 13, 24, 25, 26, 27, 28, 29, 30, 31, 32, 33, 34, 35, 36, 37, 38, 39, 40, 41, 42] (by decide +kernel) (by decide +kernel)
set_option maxRecDepth 20000 in
theorem gX5_read_X5_isFlow : GoodIn wsX5_read (wsV RX5 83 RX5 yX5_isFlow wsX5_isFlow) := goodIn_app (goodIn_of _ (by decide +kernel)) ggX5_read_X5_isFlow
set_option maxRecDepth 20000 in
theorem ggX5_read_X5_isIn : GoodIn wsX5_read wsX5_isIn := goodIn_r _ [13] (by decide +kernel) (by decide +kernel)
set_option maxRecDepth 20000 in
theorem gX5_read_X5_isIn : GoodIn wsX5_read (va_wsS RX5 61 yX5_isIn wsX5_isIn) := goodIn_app (goodIn_of _ (by decide +kernel)) ggX5_read_X5_isIn
set_option maxRecDepth 20000 in
theorem ggX5_read_X5_keep : GoodIn wsX5_read wsX5_keep := goodIn_r _ [17, 18, 19, 10, 24, 25, 26, 27, 28, 29, 30, 31, 32, 33, 34, 35, 36, 37, 38, 39, 40, 41, 42] (by decide +kernel) (by decide +kernel)
set_option maxRecDepth 20000 in
theorem gX5_read_X5_keep : GoodIn wsX5_read (wsV RX5 72 RX5 yX5_keep wsX5_keep) := goodIn_app (goodIn_of _ (by decide +kernel)) ggX5_read_X5_keep
set_option maxRecDepth 20000 in
theorem ggX5_read_X5_set : GoodIn wsX5_read wsX5_set := goodIn_r _ [23, 10, 24, 25, 26, 27, 28, 29, 30, 31, 32, 33, 34, 35, 36, 37, 38, 39, 40, 41, 42] (by decide +kernel) (by decide +kernel)
set_option maxRecDepth 20000 in
theorem gX5_read_X5_set : GoodIn wsX5_read (wsV RX5 79 RX5 yX5_set wsX5_set) := goodIn_app (goodIn_of _ (by decide +kernel)) ggX5_read_X5_set
theorem dX5_read_0 : decode cX5_read 0 = .ok (.aload_n 0, 1) := by decide +kernel
theorem dX5_read_1 : decode cX5_read 1 = .ok (.iload_n 1, 1) := by decide +kernel
theorem dX5_read_2 : decode cX5_read 2 = .ok (.invokevirtual 83, 3) := by decide +kernel
theorem dX5_read_5 : decode cX5_read 5 = .ok (.ifCond .eq 16, 3) := by decide +kernel
theorem dX5_read_8 : decode cX5_read 8 = .ok (.iload_n 2, 1) := by decide +kernel
theorem dX5_read_9 : decode cX5_read 9 = .ok (.sipush (-2000), 3) := by decide +kernel
theorem dX5_read_12 : decode cX5_read 12 = .ok (.sipush 2000, 3) := by decide +kernel
theorem dX5_read_15 : decode cX5_read 15 = .ok (.invokestatic 61, 3) := by decide +kernel
theorem dX5_read_18 : decode cX5_read 18 = .ok (.ifCond .ne 5, 3) := by decide +kernel
theorem dX5_read_21 : decode cX5_read 21 = .ok (.iconst 0, 1) := by decide +kernel
theorem dX5_read_22 : decode cX5_read 22 = .ok (.ireturn, 1) := by decide +kernel
theorem dX5_read_23 : decode cX5_read 23 = .ok (.aload_n 0, 1) := by decide +kernel
theorem dX5_read_24 : decode cX5_read 24 = .ok (.invokevirtual 72, 3) := by decide +kernel
theorem dX5_read_27 : decode cX5_read 27 = .ok (.aload_n 0, 1) := by decide +kernel
theorem dX5_read_28 : decode cX5_read 28 = .ok (.iload_n 1, 1) := by decide +kernel
theorem dX5_read_29 : decode cX5_read 29 = .ok (.iconst 2, 1) := by decide +kernel
theorem dX5_read_30 : decode cX5_read 30 = .ok (.iconst 1, 1) := by decide +kernel
theorem dX5_read_31 : decode cX5_read 31 = .ok (.invokevirtual 79, 3) := by decide +kernel
theorem dX5_read_34 : decode cX5_read 34 = .ok (.aload_n 0, 1) := by decide +kernel
theorem dX5_read_35 : decode cX5_read 35 = .ok (.iload_n 1, 1) := by decide +kernel
theorem dX5_read_36 : decode cX5_read 36 = .ok (.iconst 3, 1) := by decide +kernel
theorem dX5_read_37 : decode cX5_read 37 = .ok (.iload_n 2, 1) := by decide +kernel
theorem dX5_read_38 : decode cX5_read 38 = .ok (.invokevirtual 79, 3) := by decide +kernel
theorem dX5_read_41 : decode cX5_read 41 = .ok (.iconst 1, 1) := by decide +kernel
theorem dX5_read_42 : decode cX5_read 42 = .ok (.ireturn, 1) := by decide +kernel
/-! ===== FlowMetersModel.read(II)Z ===== -/
def fX5_read (N : Nat) (c_t_many : Int32) (c_t_now : Nat → Int32) (c_t_before : Nat → Int32) (x1 : Int32) (x2 : Int32) : Option (Int32 × Int32 × (Nat → Int32) × (Nat → Int32)) :=
  (fX5_isFlow c_t_now x1).bind fun v1 =>
  (if v1 = 0 then
    some (0, c_t_many, c_t_now, c_t_before)
  else
    (fX5_isIn x2 (-2000) 2000).bind fun v4 =>
    (if v4 = 0 then
      some (0, c_t_many, c_t_now, c_t_before)
    else
      (fX5_keep N c_t_many c_t_now c_t_before).bind fun (v7, v8) =>
      (fX5_set c_t_now x1 2 1).bind fun v10 =>
      (fX5_set v10 x1 3 x2).bind fun v12 =>
      some (1, v7, v12, v8)))
abbrev rmX5_read : Room := { frames := 2, cells := 0, slots := 0, locals := 43 }
theorem eX5_read : yY yX5_read wsX5_read cX5_read 3 (some .boolean) rmX5_read 2 := ⟨⟨_, rfl⟩, rfl, rfl, by decide, by decide, by decide +kernel⟩
set_option maxHeartbeats 4000000 in
set_option maxRecDepth 100000 in
theorem mX5_read {l : Launch} {D : va_G} {sz : Nat} {cI cJ cZ cW cR : ClassId} {N : Nat} {h_t : Nat} {A_t : Nat → Nat} {c_t_many : Int32} {c_t_below : Int64} {c_t_above1 : Int64} {c_t_below1 : Int64} {c_t_now : Nat → Int32} {c_t_before : Nat → Int32} {x1 : Int32} {x2 : Int32} {r : Int32} {zc_t_many : Int32} {zc_t_now : Nat → Int32} {zc_t_before : Nat → Int32} (hf : fX5_read N c_t_many c_t_now c_t_before x1 x2 = some (r, zc_t_many, zc_t_now, zc_t_before)) : Met l yX5_read wsX5_read rmX5_read (yP D (yT cI cJ cZ cW cR) [(h_t, oR A_t c_t_many c_t_below c_t_above1 c_t_below1), (A_t 0, eI cI 242 c_t_now), (A_t 1, eI cI 1452 c_t_before)] sz [.ref h_t, .int x1, .int x2]) (yQi D (yT cI cJ cZ cW cR) r [(h_t, oR A_t zc_t_many c_t_below c_t_above1 c_t_below1), (A_t 0, eI cI 242 zc_t_now), (A_t 1, eI cI 1452 zc_t_before)] (va_A [(h_t, oR A_t c_t_many c_t_below c_t_above1 c_t_below1), (A_t 0, eI cI 242 c_t_now), (A_t 1, eI cI 1452 c_t_before)] sz)) 0 0 (va_A [(h_t, oR A_t c_t_many c_t_below c_t_above1 c_t_below1), (A_t 0, eI cI 242 c_t_now), (A_t 1, eI cI 1452 c_t_before)] sz) := by
  refine yM (cc := cX5_read) (maxL := 3) (ret := (some .boolean)) RX5 (by decide) rfl rfl (Nat.le_of_ble_eq_true rfl) ?_
  intro p e s m below meth c Γ hr
  show yG p l e (headSpec wsX5_read rmX5_read).room s m (List.toArray [.ref h_t, .int x1, .int x2]) below meth c D (va_A [(h_t, oR A_t c_t_many c_t_below c_t_above1 c_t_below1), (A_t 0, eI cI 242 c_t_now), (A_t 1, eI cI 1452 c_t_before)] sz) 3 0 0 (MQ below (yQi D (yT cI cJ cZ cW cR) r [(h_t, oR A_t zc_t_many c_t_below c_t_above1 c_t_below1), (A_t 0, eI cI 242 zc_t_now), (A_t 1, eI cI 1452 zc_t_before)] (va_A [(h_t, oR A_t c_t_many c_t_below c_t_above1 c_t_below1), (A_t 0, eI cI 242 c_t_now), (A_t 1, eI cI 1452 c_t_before)] sz)) (List.toArray [.ref h_t, .int x1, .int x2]) s 0 0 (va_A [(h_t, oR A_t c_t_many c_t_below c_t_above1 c_t_below1), (A_t 0, eI cI 242 c_t_now), (A_t 1, eI cI 1452 c_t_before)] sz)) 0 [(0, .ref h_t), (1, .int x1), (2, .int x2)] [] [(h_t, oR A_t c_t_many c_t_below c_t_above1 c_t_below1), (A_t 0, eI cI 242 c_t_now), (A_t 1, eI cI 1452 c_t_before)]
  unfold fX5_read at hf
  refine g_aload_n Γ 0 dX5_read_0 rfl ?_
  refine g_iload_n Γ 1 dX5_read_1 rfl ?_
  obtain ⟨v1, e2, hf⟩ := ya_ob hf
  refine g_vi (q := (RX5, TX5, 19)) (wr := [(A_t 1, eI cI 1452 c_t_before)]) (ws' := [(A_t 1, eI cI 1452 c_t_before), (h_t, oR A_t c_t_many c_t_below c_t_above1 c_t_below1), (A_t 0, eI cI 242 c_t_now)]) Γ (fun sz => mX5_isFlow (l := l) (D := D) (sz := sz) (cI := cI) (cJ := cJ) (cZ := cZ) (cW := cW) (cR := cR) (h_t := h_t) (A_t := A_t) (hf := e2)) eX5_isFlow gX5_read_X5_isFlow rfl rfl 0 rfl rfl rfl (Nat.le_of_ble_eq_true rfl) ⟨Nat.le_of_ble_eq_true rfl, Nat.le_of_ble_eq_true rfl⟩ dX5_read_2 [0, 1] [2] rfl rfl rfl rfl (by decide) rfl ?_
  refine g_if_eq Γ 21 dX5_read_5 (by decide) (fun c3 => ?_) (fun c3 => ?_)
  · have hf := ya_if1 c3 hf
    refine g_iconst (v := 0) Γ dX5_read_21 (by decide) ?_
    cases hf
    exact g_zret Γ hr (show ya_bo 0 = some 0 from rfl) dX5_read_22 [1, 2, 0] rfl rfl
  · have hf := ya_if2 c3 hf
    refine g_iload_n Γ 2 dX5_read_8 rfl ?_
    refine g_sipush (v := (-2000)) Γ dX5_read_9 (by decide) ?_
    refine g_sipush (v := 2000) Γ dX5_read_12 (by decide) ?_
    obtain ⟨v4, e5, hf⟩ := ya_ob hf
    refine g_si (wr := [(A_t 1, eI cI 1452 c_t_before), (h_t, oR A_t c_t_many c_t_below c_t_above1 c_t_below1), (A_t 0, eI cI 242 c_t_now)]) (ws' := [(A_t 1, eI cI 1452 c_t_before), (h_t, oR A_t c_t_many c_t_below c_t_above1 c_t_below1), (A_t 0, eI cI 242 c_t_now)]) Γ (fun sz => mX5_isIn (l := l) (D := D) (sz := sz) (cI := cI) (cJ := cJ) (cZ := cZ) (cW := cW) (cR := cR)  (hf := e5)) eX5_isIn ggX5_read_X5_isIn (by decide +kernel) (by decide +kernel) (by decide +kernel) rfl rfl (Nat.le_of_ble_eq_true rfl) ⟨Nat.le_of_ble_eq_true rfl, Nat.le_of_ble_eq_true rfl⟩ dX5_read_15 [] [0, 1, 2] rfl rfl rfl rfl (by decide) rfl ?_
    refine g_if_ne Γ 23 dX5_read_18 (by decide) (fun c6 => ?_) (fun c6 => ?_)
    · have hf := ya_if2 c6 hf
      refine g_aload_n Γ 0 dX5_read_23 rfl ?_
      obtain ⟨⟨v7, v8⟩, e9, hf⟩ := ya_ob hf
      refine g_vv (q := (RX5, TX5, 19)) (wr := []) (ws' := [(h_t, oR A_t v7 c_t_below c_t_above1 c_t_below1), (A_t 0, eI cI 242 c_t_now), (A_t 1, eI cI 1452 v8)]) Γ (fun sz => mX5_keep (l := l) (D := D) (sz := sz) (cI := cI) (cJ := cJ) (cZ := cZ) (cW := cW) (cR := cR) (h_t := h_t) (A_t := A_t) (hf := e9)) eX5_keep gX5_read_X5_keep rfl rfl 0 rfl rfl rfl (Nat.le_of_ble_eq_true rfl) ⟨Nat.le_of_ble_eq_true rfl, Nat.le_of_ble_eq_true rfl⟩ dX5_read_24 [1, 2, 0] [] rfl rfl rfl rfl (by decide) rfl ?_
      refine g_aload_n Γ 0 dX5_read_27 rfl ?_
      refine g_iload_n Γ 1 dX5_read_28 rfl ?_
      refine g_iconst (v := 2) Γ dX5_read_29 (by decide) ?_
      refine g_iconst (v := 1) Γ dX5_read_30 (by decide) ?_
      obtain ⟨v10, e11, hf⟩ := ya_ob hf
      refine g_vv (q := (RX5, TX5, 19)) (wr := [(A_t 1, eI cI 1452 v8)]) (ws' := [(A_t 1, eI cI 1452 v8), (h_t, oR A_t v7 c_t_below c_t_above1 c_t_below1), (A_t 0, eI cI 242 v10)]) Γ (fun sz => mX5_set (l := l) (D := D) (sz := sz) (cI := cI) (cJ := cJ) (cZ := cZ) (cW := cW) (cR := cR) (h_t := h_t) (A_t := A_t) (hf := e11)) eX5_set gX5_read_X5_set rfl rfl 0 rfl rfl rfl (Nat.le_of_ble_eq_true rfl) ⟨Nat.le_of_ble_eq_true rfl, Nat.le_of_ble_eq_true rfl⟩ dX5_read_31 [0, 1] [2] rfl rfl rfl rfl (by decide) rfl ?_
      refine g_aload_n Γ 0 dX5_read_34 rfl ?_
      refine g_iload_n Γ 1 dX5_read_35 rfl ?_
      refine g_iconst (v := 3) Γ dX5_read_36 (by decide) ?_
      refine g_iload_n Γ 2 dX5_read_37 rfl ?_
      obtain ⟨v12, e13, hf⟩ := ya_ob hf
      refine g_vv (q := (RX5, TX5, 19)) (wr := [(A_t 1, eI cI 1452 v8)]) (ws' := [(A_t 1, eI cI 1452 v8), (h_t, oR A_t v7 c_t_below c_t_above1 c_t_below1), (A_t 0, eI cI 242 v12)]) Γ (fun sz => mX5_set (l := l) (D := D) (sz := sz) (cI := cI) (cJ := cJ) (cZ := cZ) (cW := cW) (cR := cR) (h_t := h_t) (A_t := A_t) (hf := e13)) eX5_set gX5_read_X5_set rfl rfl 0 rfl rfl rfl (Nat.le_of_ble_eq_true rfl) ⟨Nat.le_of_ble_eq_true rfl, Nat.le_of_ble_eq_true rfl⟩ dX5_read_38 [1, 2] [0] rfl rfl rfl rfl (by decide) rfl ?_
      refine g_iconst (v := 1) Γ dX5_read_41 (by decide) ?_
      cases hf
      exact g_zret Γ hr (show ya_bo 1 = some 1 from rfl) dX5_read_42 [1, 2, 0] rfl rfl
    · have hf := ya_if1 c6 hf
      refine g_iconst (v := 0) Γ dX5_read_21 (by decide) ?_
      cases hf
      exact g_zret Γ hr (show ya_bo 0 = some 0 from rfl) dX5_read_22 [1, 2, 0] rfl rfl

set_option maxRecDepth 20000 in
theorem ggX5_unread_X5_isFlow : GoodIn wsX5_unread wsX5_isFlow := goodIn_r _ [5, 6, 7, 8, 4, 9, 10, 11, 12, 13, 28, 29, 30, 31, 32, 33, 34, 35, 36, 37, 38, 39, 40, 41, 42, 43, 44, 45, 46] (by decide +kernel) (by decide +kernel)
set_option maxRecDepth 20000 in
theorem gX5_unread_X5_isFlow : GoodIn wsX5_unread (wsV RX5 83 RX5 yX5_isFlow wsX5_isFlow) := goodIn_app (goodIn_of _ (by decide +kernel)) ggX5_unread_X5_isFlow
set_option maxRecDepth 20000 in
theorem ggX5_unread_X5_get : GoodIn wsX5_unread wsX5_get := goodIn_r _ [17, 10, 28, 29, 30, 31, 32, 33, 34, 35, 36, 37, 38, 39, 40, 41, 42, 43, 44, 45, 46] (by decide +kernel) (by decide +kernel)
set_option maxRecDepth 20000 in
theorem gX5_unread_X5_get : GoodIn wsX5_unread (wsV RX5 86 RX5 yX5_get wsX5_get) := goodIn_app (goodIn_of _ (by decide +kernel)) ggX5_unread_X5_get
set_option maxRecDepth 20000 in
theorem ggX5_unread_X5_keep : GoodIn wsX5_unread wsX5_keep := goodIn_r _ [21, 22, 23, 10, 28, 29, 30, 31, 32, 33, 34, 35, 36, 37, 38, 39, 40, 41, 42, 43, 44, 45, 46] (by decide +kernel) (by decide +kernel)
set_option maxRecDepth 20000 in
theorem gX5_unread_X5_keep : GoodIn wsX5_unread (wsV RX5 72 RX5 yX5_keep wsX5_keep) := goodIn_app (goodIn_of _ (by decide +kernel)) ggX5_unread_X5_keep
set_option maxRecDepth 20000 in
theorem ggX5_unread_X5_set : GoodIn wsX5_unread wsX5_set := goodIn_r _ [27, 10, 28, 29, 30, 31, 32, 33, 34, 35, 36, 37, 38, 39, 40, 41, 42, 43, 44, 45, 46] (by decide +kernel) (by decide +kernel)
set_option maxRecDepth 20000 in
theorem gX5_unread_X5_set : GoodIn wsX5_unread (wsV RX5 79 RX5 yX5_set wsX5_set) := goodIn_app (goodIn_of _ (by decide +kernel)) ggX5_unread_X5_set
theorem dX5_unread_0 : decode cX5_unread 0 = .ok (.aload_n 0, 1) := by decide +kernel
theorem dX5_unread_1 : decode cX5_unread 1 = .ok (.iload_n 1, 1) := by decide +kernel
theorem dX5_unread_2 : decode cX5_unread 2 = .ok (.invokevirtual 83, 3) := by decide +kernel
theorem dX5_unread_5 : decode cX5_unread 5 = .ok (.ifCond .eq 12, 3) := by decide +kernel
theorem dX5_unread_8 : decode cX5_unread 8 = .ok (.aload_n 0, 1) := by decide +kernel
theorem dX5_unread_9 : decode cX5_unread 9 = .ok (.iload_n 1, 1) := by decide +kernel
theorem dX5_unread_10 : decode cX5_unread 10 = .ok (.iconst 2, 1) := by decide +kernel
theorem dX5_unread_11 : decode cX5_unread 11 = .ok (.invokevirtual 86, 3) := by decide +kernel
theorem dX5_unread_14 : decode cX5_unread 14 = .ok (.ifCond .ne 5, 3) := by decide +kernel
theorem dX5_unread_17 : decode cX5_unread 17 = .ok (.iconst 0, 1) := by decide +kernel
theorem dX5_unread_18 : decode cX5_unread 18 = .ok (.ireturn, 1) := by decide +kernel
theorem dX5_unread_19 : decode cX5_unread 19 = .ok (.aload_n 0, 1) := by decide +kernel
theorem dX5_unread_20 : decode cX5_unread 20 = .ok (.invokevirtual 72, 3) := by decide +kernel
theorem dX5_unread_23 : decode cX5_unread 23 = .ok (.aload_n 0, 1) := by decide +kernel
theorem dX5_unread_24 : decode cX5_unread 24 = .ok (.iload_n 1, 1) := by decide +kernel
theorem dX5_unread_25 : decode cX5_unread 25 = .ok (.iconst 2, 1) := by decide +kernel
theorem dX5_unread_26 : decode cX5_unread 26 = .ok (.iconst 0, 1) := by decide +kernel
theorem dX5_unread_27 : decode cX5_unread 27 = .ok (.invokevirtual 79, 3) := by decide +kernel
theorem dX5_unread_30 : decode cX5_unread 30 = .ok (.aload_n 0, 1) := by decide +kernel
theorem dX5_unread_31 : decode cX5_unread 31 = .ok (.iload_n 1, 1) := by decide +kernel
theorem dX5_unread_32 : decode cX5_unread 32 = .ok (.iconst 3, 1) := by decide +kernel
theorem dX5_unread_33 : decode cX5_unread 33 = .ok (.iconst 0, 1) := by decide +kernel
theorem dX5_unread_34 : decode cX5_unread 34 = .ok (.invokevirtual 79, 3) := by decide +kernel
theorem dX5_unread_37 : decode cX5_unread 37 = .ok (.iconst 1, 1) := by decide +kernel
theorem dX5_unread_38 : decode cX5_unread 38 = .ok (.ireturn, 1) := by decide +kernel
/-! ===== FlowMetersModel.unread(I)Z ===== -/
def fX5_unread (N : Nat) (c_t_many : Int32) (c_t_now : Nat → Int32) (c_t_before : Nat → Int32) (x1 : Int32) : Option (Int32 × Int32 × (Nat → Int32) × (Nat → Int32)) :=
  (fX5_isFlow c_t_now x1).bind fun v1 =>
  (if v1 = 0 then
    some (0, c_t_many, c_t_now, c_t_before)
  else
    (fX5_get c_t_now x1 2).bind fun v4 =>
    (if v4 = 0 then
      some (0, c_t_many, c_t_now, c_t_before)
    else
      (fX5_keep N c_t_many c_t_now c_t_before).bind fun (v7, v8) =>
      (fX5_set c_t_now x1 2 0).bind fun v10 =>
      (fX5_set v10 x1 3 0).bind fun v12 =>
      some (1, v7, v12, v8)))
abbrev rmX5_unread : Room := { frames := 2, cells := 0, slots := 0, locals := 43 }
theorem eX5_unread : yY yX5_unread wsX5_unread cX5_unread 2 (some .boolean) rmX5_unread 1 := ⟨⟨_, rfl⟩, rfl, rfl, by decide, by decide, by decide +kernel⟩
set_option maxHeartbeats 4000000 in
set_option maxRecDepth 100000 in
theorem mX5_unread {l : Launch} {D : va_G} {sz : Nat} {cI cJ cZ cW cR : ClassId} {N : Nat} {h_t : Nat} {A_t : Nat → Nat} {c_t_many : Int32} {c_t_below : Int64} {c_t_above1 : Int64} {c_t_below1 : Int64} {c_t_now : Nat → Int32} {c_t_before : Nat → Int32} {x1 : Int32} {r : Int32} {zc_t_many : Int32} {zc_t_now : Nat → Int32} {zc_t_before : Nat → Int32} (hf : fX5_unread N c_t_many c_t_now c_t_before x1 = some (r, zc_t_many, zc_t_now, zc_t_before)) : Met l yX5_unread wsX5_unread rmX5_unread (yP D (yT cI cJ cZ cW cR) [(h_t, oR A_t c_t_many c_t_below c_t_above1 c_t_below1), (A_t 0, eI cI 242 c_t_now), (A_t 1, eI cI 1452 c_t_before)] sz [.ref h_t, .int x1]) (yQi D (yT cI cJ cZ cW cR) r [(h_t, oR A_t zc_t_many c_t_below c_t_above1 c_t_below1), (A_t 0, eI cI 242 zc_t_now), (A_t 1, eI cI 1452 zc_t_before)] (va_A [(h_t, oR A_t c_t_many c_t_below c_t_above1 c_t_below1), (A_t 0, eI cI 242 c_t_now), (A_t 1, eI cI 1452 c_t_before)] sz)) 0 0 (va_A [(h_t, oR A_t c_t_many c_t_below c_t_above1 c_t_below1), (A_t 0, eI cI 242 c_t_now), (A_t 1, eI cI 1452 c_t_before)] sz) := by
  refine yM (cc := cX5_unread) (maxL := 2) (ret := (some .boolean)) RX5 (by decide) rfl rfl (Nat.le_of_ble_eq_true rfl) ?_
  intro p e s m below meth c Γ hr
  show yG p l e (headSpec wsX5_unread rmX5_unread).room s m (List.toArray [.ref h_t, .int x1]) below meth c D (va_A [(h_t, oR A_t c_t_many c_t_below c_t_above1 c_t_below1), (A_t 0, eI cI 242 c_t_now), (A_t 1, eI cI 1452 c_t_before)] sz) 2 0 0 (MQ below (yQi D (yT cI cJ cZ cW cR) r [(h_t, oR A_t zc_t_many c_t_below c_t_above1 c_t_below1), (A_t 0, eI cI 242 zc_t_now), (A_t 1, eI cI 1452 zc_t_before)] (va_A [(h_t, oR A_t c_t_many c_t_below c_t_above1 c_t_below1), (A_t 0, eI cI 242 c_t_now), (A_t 1, eI cI 1452 c_t_before)] sz)) (List.toArray [.ref h_t, .int x1]) s 0 0 (va_A [(h_t, oR A_t c_t_many c_t_below c_t_above1 c_t_below1), (A_t 0, eI cI 242 c_t_now), (A_t 1, eI cI 1452 c_t_before)] sz)) 0 [(0, .ref h_t), (1, .int x1)] [] [(h_t, oR A_t c_t_many c_t_below c_t_above1 c_t_below1), (A_t 0, eI cI 242 c_t_now), (A_t 1, eI cI 1452 c_t_before)]
  unfold fX5_unread at hf
  refine g_aload_n Γ 0 dX5_unread_0 rfl ?_
  refine g_iload_n Γ 1 dX5_unread_1 rfl ?_
  obtain ⟨v1, e2, hf⟩ := ya_ob hf
  refine g_vi (q := (RX5, TX5, 19)) (wr := [(A_t 1, eI cI 1452 c_t_before)]) (ws' := [(A_t 1, eI cI 1452 c_t_before), (h_t, oR A_t c_t_many c_t_below c_t_above1 c_t_below1), (A_t 0, eI cI 242 c_t_now)]) Γ (fun sz => mX5_isFlow (l := l) (D := D) (sz := sz) (cI := cI) (cJ := cJ) (cZ := cZ) (cW := cW) (cR := cR) (h_t := h_t) (A_t := A_t) (hf := e2)) eX5_isFlow gX5_unread_X5_isFlow rfl rfl 0 rfl rfl rfl (Nat.le_of_ble_eq_true rfl) ⟨Nat.le_of_ble_eq_true rfl, Nat.le_of_ble_eq_true rfl⟩ dX5_unread_2 [0, 1] [2] rfl rfl rfl rfl (by decide) rfl ?_
  refine g_if_eq Γ 17 dX5_unread_5 (by decide) (fun c3 => ?_) (fun c3 => ?_)
  · have hf := ya_if1 c3 hf
    refine g_iconst (v := 0) Γ dX5_unread_17 (by decide) ?_
    cases hf
    exact g_zret Γ hr (show ya_bo 0 = some 0 from rfl) dX5_unread_18 [1, 2, 0] rfl rfl
  · have hf := ya_if2 c3 hf
    refine g_aload_n Γ 0 dX5_unread_8 rfl ?_
    refine g_iload_n Γ 1 dX5_unread_9 rfl ?_
    refine g_iconst (v := 2) Γ dX5_unread_10 (by decide) ?_
    obtain ⟨v4, e5, hf⟩ := ya_ob hf
    refine g_vi (q := (RX5, TX5, 19)) (wr := [(A_t 1, eI cI 1452 c_t_before)]) (ws' := [(A_t 1, eI cI 1452 c_t_before), (h_t, oR A_t c_t_many c_t_below c_t_above1 c_t_below1), (A_t 0, eI cI 242 c_t_now)]) Γ (fun sz => mX5_get (l := l) (D := D) (sz := sz) (cI := cI) (cJ := cJ) (cZ := cZ) (cW := cW) (cR := cR) (h_t := h_t) (A_t := A_t) (hf := e5)) eX5_get gX5_unread_X5_get rfl rfl 0 rfl rfl rfl (Nat.le_of_ble_eq_true rfl) ⟨Nat.le_of_ble_eq_true rfl, Nat.le_of_ble_eq_true rfl⟩ dX5_unread_11 [1, 2] [0] rfl rfl rfl rfl (by decide) rfl ?_
    refine g_if_ne Γ 19 dX5_unread_14 (by decide) (fun c6 => ?_) (fun c6 => ?_)
    · have hf := ya_if2 c6 hf
      refine g_aload_n Γ 0 dX5_unread_19 rfl ?_
      obtain ⟨⟨v7, v8⟩, e9, hf⟩ := ya_ob hf
      refine g_vv (q := (RX5, TX5, 19)) (wr := []) (ws' := [(h_t, oR A_t v7 c_t_below c_t_above1 c_t_below1), (A_t 0, eI cI 242 c_t_now), (A_t 1, eI cI 1452 v8)]) Γ (fun sz => mX5_keep (l := l) (D := D) (sz := sz) (cI := cI) (cJ := cJ) (cZ := cZ) (cW := cW) (cR := cR) (h_t := h_t) (A_t := A_t) (hf := e9)) eX5_keep gX5_unread_X5_keep rfl rfl 0 rfl rfl rfl (Nat.le_of_ble_eq_true rfl) ⟨Nat.le_of_ble_eq_true rfl, Nat.le_of_ble_eq_true rfl⟩ dX5_unread_20 [1, 2, 0] [] rfl rfl rfl rfl (by decide) rfl ?_
      refine g_aload_n Γ 0 dX5_unread_23 rfl ?_
      refine g_iload_n Γ 1 dX5_unread_24 rfl ?_
      refine g_iconst (v := 2) Γ dX5_unread_25 (by decide) ?_
      refine g_iconst (v := 0) Γ dX5_unread_26 (by decide) ?_
      obtain ⟨v10, e11, hf⟩ := ya_ob hf
      refine g_vv (q := (RX5, TX5, 19)) (wr := [(A_t 1, eI cI 1452 v8)]) (ws' := [(A_t 1, eI cI 1452 v8), (h_t, oR A_t v7 c_t_below c_t_above1 c_t_below1), (A_t 0, eI cI 242 v10)]) Γ (fun sz => mX5_set (l := l) (D := D) (sz := sz) (cI := cI) (cJ := cJ) (cZ := cZ) (cW := cW) (cR := cR) (h_t := h_t) (A_t := A_t) (hf := e11)) eX5_set gX5_unread_X5_set rfl rfl 0 rfl rfl rfl (Nat.le_of_ble_eq_true rfl) ⟨Nat.le_of_ble_eq_true rfl, Nat.le_of_ble_eq_true rfl⟩ dX5_unread_27 [0, 1] [2] rfl rfl rfl rfl (by decide) rfl ?_
      refine g_aload_n Γ 0 dX5_unread_30 rfl ?_
      refine g_iload_n Γ 1 dX5_unread_31 rfl ?_
      refine g_iconst (v := 3) Γ dX5_unread_32 (by decide) ?_
      refine g_iconst (v := 0) Γ dX5_unread_33 (by decide) ?_
      obtain ⟨v12, e13, hf⟩ := ya_ob hf
      refine g_vv (q := (RX5, TX5, 19)) (wr := [(A_t 1, eI cI 1452 v8)]) (ws' := [(A_t 1, eI cI 1452 v8), (h_t, oR A_t v7 c_t_below c_t_above1 c_t_below1), (A_t 0, eI cI 242 v12)]) Γ (fun sz => mX5_set (l := l) (D := D) (sz := sz) (cI := cI) (cJ := cJ) (cZ := cZ) (cW := cW) (cR := cR) (h_t := h_t) (A_t := A_t) (hf := e13)) eX5_set gX5_unread_X5_set rfl rfl 0 rfl rfl rfl (Nat.le_of_ble_eq_true rfl) ⟨Nat.le_of_ble_eq_true rfl, Nat.le_of_ble_eq_true rfl⟩ dX5_unread_34 [1, 2] [0] rfl rfl rfl rfl (by decide) rfl ?_
      refine g_iconst (v := 1) Γ dX5_unread_37 (by decide) ?_
      cases hf
      exact g_zret Γ hr (show ya_bo 1 = some 1 from rfl) dX5_unread_38 [1, 2, 0] rfl rfl
    · have hf := ya_if1 c6 hf
      refine g_iconst (v := 0) Γ dX5_unread_17 (by decide) ?_
      cases hf
      exact g_zret Γ hr (show ya_bo 0 = some 0 from rfl) dX5_unread_18 [1, 2, 0] rfl rfl

set_option maxRecDepth 20000 in
theorem ggX5_miss_X5_isFlow : GoodIn wsX5_miss wsX5_isFlow := goodIn_r _ [5, 6, 7, 8, 4, 9, 10, 11, 12, 13, 24, 25, 26, 27, 28, 29, 30, 31, 32, 33, 34, 35, 36, 37, 38, 39, 40, 41, 42] (by decide +kernel) (by decide +kernel)
set_option maxRecDepth 20000 in
theorem gX5_miss_X5_isFlow : GoodIn wsX5_miss (wsV RX5 83 RX5 yX5_isFlow wsX5_isFlow) := goodIn_app (goodIn_of _ (by decide +kernel)) ggX5_miss_X5_isFlow
set_option maxRecDepth 20000 in
theorem ggX5_miss_X5_isIn : GoodIn wsX5_miss wsX5_isIn := goodIn_r _ [13] (by decide +kernel) (by decide +kernel)
set_option maxRecDepth 20000 in
theorem gX5_miss_X5_isIn : GoodIn wsX5_miss (va_wsS RX5 61 yX5_isIn wsX5_isIn) := goodIn_app (goodIn_of _ (by decide +kernel)) ggX5_miss_X5_isIn
set_option maxRecDepth 20000 in
theorem ggX5_miss_X5_keep : GoodIn wsX5_miss wsX5_keep := goodIn_r _ [17, 18, 19, 10, 24, 25, 26, 27, 28, 29, 30, 31, 32, 33, 34, 35, 36, 37, 38, 39, 40, 41, 42] (by decide +kernel) (by decide +kernel)
set_option maxRecDepth 20000 in
theorem gX5_miss_X5_keep : GoodIn wsX5_miss (wsV RX5 72 RX5 yX5_keep wsX5_keep) := goodIn_app (goodIn_of _ (by decide +kernel)) ggX5_miss_X5_keep
set_option maxRecDepth 20000 in
theorem ggX5_miss_X5_set : GoodIn wsX5_miss wsX5_set := goodIn_r _ [23, 10, 24, 25, 26, 27, 28, 29, 30, 31, 32, 33, 34, 35, 36, 37, 38, 39, 40, 41, 42] (by decide +kernel) (by decide +kernel)
set_option maxRecDepth 20000 in
theorem gX5_miss_X5_set : GoodIn wsX5_miss (wsV RX5 79 RX5 yX5_set wsX5_set) := goodIn_app (goodIn_of _ (by decide +kernel)) ggX5_miss_X5_set
theorem dX5_miss_0 : decode cX5_miss 0 = .ok (.aload_n 0, 1) := by decide +kernel
theorem dX5_miss_1 : decode cX5_miss 1 = .ok (.iload_n 1, 1) := by decide +kernel
theorem dX5_miss_2 : decode cX5_miss 2 = .ok (.invokevirtual 83, 3) := by decide +kernel
theorem dX5_miss_5 : decode cX5_miss 5 = .ok (.ifCond .eq 12, 3) := by decide +kernel
theorem dX5_miss_8 : decode cX5_miss 8 = .ok (.iload_n 2, 1) := by decide +kernel
theorem dX5_miss_9 : decode cX5_miss 9 = .ok (.iconst 1, 1) := by decide +kernel
theorem dX5_miss_10 : decode cX5_miss 10 = .ok (.iconst 4, 1) := by decide +kernel
theorem dX5_miss_11 : decode cX5_miss 11 = .ok (.invokestatic 61, 3) := by decide +kernel
theorem dX5_miss_14 : decode cX5_miss 14 = .ok (.ifCond .ne 5, 3) := by decide +kernel
theorem dX5_miss_17 : decode cX5_miss 17 = .ok (.iconst 0, 1) := by decide +kernel
theorem dX5_miss_18 : decode cX5_miss 18 = .ok (.ireturn, 1) := by decide +kernel
theorem dX5_miss_19 : decode cX5_miss 19 = .ok (.aload_n 0, 1) := by decide +kernel
theorem dX5_miss_20 : decode cX5_miss 20 = .ok (.invokevirtual 72, 3) := by decide +kernel
theorem dX5_miss_23 : decode cX5_miss 23 = .ok (.aload_n 0, 1) := by decide +kernel
theorem dX5_miss_24 : decode cX5_miss 24 = .ok (.iload_n 1, 1) := by decide +kernel
theorem dX5_miss_25 : decode cX5_miss 25 = .ok (.iconst 4, 1) := by decide +kernel
theorem dX5_miss_26 : decode cX5_miss 26 = .ok (.iload_n 2, 1) := by decide +kernel
theorem dX5_miss_27 : decode cX5_miss 27 = .ok (.invokevirtual 79, 3) := by decide +kernel
theorem dX5_miss_30 : decode cX5_miss 30 = .ok (.iconst 1, 1) := by decide +kernel
theorem dX5_miss_31 : decode cX5_miss 31 = .ok (.ireturn, 1) := by decide +kernel
/-! ===== FlowMetersModel.miss(II)Z ===== -/
def fX5_miss (N : Nat) (c_t_many : Int32) (c_t_now : Nat → Int32) (c_t_before : Nat → Int32) (x1 : Int32) (x2 : Int32) : Option (Int32 × Int32 × (Nat → Int32) × (Nat → Int32)) :=
  (fX5_isFlow c_t_now x1).bind fun v1 =>
  (if v1 = 0 then
    some (0, c_t_many, c_t_now, c_t_before)
  else
    (fX5_isIn x2 1 4).bind fun v4 =>
    (if v4 = 0 then
      some (0, c_t_many, c_t_now, c_t_before)
    else
      (fX5_keep N c_t_many c_t_now c_t_before).bind fun (v7, v8) =>
      (fX5_set c_t_now x1 4 x2).bind fun v10 =>
      some (1, v7, v10, v8)))
abbrev rmX5_miss : Room := { frames := 2, cells := 0, slots := 0, locals := 43 }
theorem eX5_miss : yY yX5_miss wsX5_miss cX5_miss 3 (some .boolean) rmX5_miss 2 := ⟨⟨_, rfl⟩, rfl, rfl, by decide, by decide, by decide +kernel⟩
set_option maxHeartbeats 4000000 in
set_option maxRecDepth 100000 in
theorem mX5_miss {l : Launch} {D : va_G} {sz : Nat} {cI cJ cZ cW cR : ClassId} {N : Nat} {h_t : Nat} {A_t : Nat → Nat} {c_t_many : Int32} {c_t_below : Int64} {c_t_above1 : Int64} {c_t_below1 : Int64} {c_t_now : Nat → Int32} {c_t_before : Nat → Int32} {x1 : Int32} {x2 : Int32} {r : Int32} {zc_t_many : Int32} {zc_t_now : Nat → Int32} {zc_t_before : Nat → Int32} (hf : fX5_miss N c_t_many c_t_now c_t_before x1 x2 = some (r, zc_t_many, zc_t_now, zc_t_before)) : Met l yX5_miss wsX5_miss rmX5_miss (yP D (yT cI cJ cZ cW cR) [(h_t, oR A_t c_t_many c_t_below c_t_above1 c_t_below1), (A_t 0, eI cI 242 c_t_now), (A_t 1, eI cI 1452 c_t_before)] sz [.ref h_t, .int x1, .int x2]) (yQi D (yT cI cJ cZ cW cR) r [(h_t, oR A_t zc_t_many c_t_below c_t_above1 c_t_below1), (A_t 0, eI cI 242 zc_t_now), (A_t 1, eI cI 1452 zc_t_before)] (va_A [(h_t, oR A_t c_t_many c_t_below c_t_above1 c_t_below1), (A_t 0, eI cI 242 c_t_now), (A_t 1, eI cI 1452 c_t_before)] sz)) 0 0 (va_A [(h_t, oR A_t c_t_many c_t_below c_t_above1 c_t_below1), (A_t 0, eI cI 242 c_t_now), (A_t 1, eI cI 1452 c_t_before)] sz) := by
  refine yM (cc := cX5_miss) (maxL := 3) (ret := (some .boolean)) RX5 (by decide) rfl rfl (Nat.le_of_ble_eq_true rfl) ?_
  intro p e s m below meth c Γ hr
  show yG p l e (headSpec wsX5_miss rmX5_miss).room s m (List.toArray [.ref h_t, .int x1, .int x2]) below meth c D (va_A [(h_t, oR A_t c_t_many c_t_below c_t_above1 c_t_below1), (A_t 0, eI cI 242 c_t_now), (A_t 1, eI cI 1452 c_t_before)] sz) 3 0 0 (MQ below (yQi D (yT cI cJ cZ cW cR) r [(h_t, oR A_t zc_t_many c_t_below c_t_above1 c_t_below1), (A_t 0, eI cI 242 zc_t_now), (A_t 1, eI cI 1452 zc_t_before)] (va_A [(h_t, oR A_t c_t_many c_t_below c_t_above1 c_t_below1), (A_t 0, eI cI 242 c_t_now), (A_t 1, eI cI 1452 c_t_before)] sz)) (List.toArray [.ref h_t, .int x1, .int x2]) s 0 0 (va_A [(h_t, oR A_t c_t_many c_t_below c_t_above1 c_t_below1), (A_t 0, eI cI 242 c_t_now), (A_t 1, eI cI 1452 c_t_before)] sz)) 0 [(0, .ref h_t), (1, .int x1), (2, .int x2)] [] [(h_t, oR A_t c_t_many c_t_below c_t_above1 c_t_below1), (A_t 0, eI cI 242 c_t_now), (A_t 1, eI cI 1452 c_t_before)]
  unfold fX5_miss at hf
  refine g_aload_n Γ 0 dX5_miss_0 rfl ?_
  refine g_iload_n Γ 1 dX5_miss_1 rfl ?_
  obtain ⟨v1, e2, hf⟩ := ya_ob hf
  refine g_vi (q := (RX5, TX5, 19)) (wr := [(A_t 1, eI cI 1452 c_t_before)]) (ws' := [(A_t 1, eI cI 1452 c_t_before), (h_t, oR A_t c_t_many c_t_below c_t_above1 c_t_below1), (A_t 0, eI cI 242 c_t_now)]) Γ (fun sz => mX5_isFlow (l := l) (D := D) (sz := sz) (cI := cI) (cJ := cJ) (cZ := cZ) (cW := cW) (cR := cR) (h_t := h_t) (A_t := A_t) (hf := e2)) eX5_isFlow gX5_miss_X5_isFlow rfl rfl 0 rfl rfl rfl (Nat.le_of_ble_eq_true rfl) ⟨Nat.le_of_ble_eq_true rfl, Nat.le_of_ble_eq_true rfl⟩ dX5_miss_2 [0, 1] [2] rfl rfl rfl rfl (by decide) rfl ?_
  refine g_if_eq Γ 17 dX5_miss_5 (by decide) (fun c3 => ?_) (fun c3 => ?_)
  · have hf := ya_if1 c3 hf
    refine g_iconst (v := 0) Γ dX5_miss_17 (by decide) ?_
    cases hf
    exact g_zret Γ hr (show ya_bo 0 = some 0 from rfl) dX5_miss_18 [1, 2, 0] rfl rfl
  · have hf := ya_if2 c3 hf
    refine g_iload_n Γ 2 dX5_miss_8 rfl ?_
    refine g_iconst (v := 1) Γ dX5_miss_9 (by decide) ?_
    refine g_iconst (v := 4) Γ dX5_miss_10 (by decide) ?_
    obtain ⟨v4, e5, hf⟩ := ya_ob hf
    refine g_si (wr := [(A_t 1, eI cI 1452 c_t_before), (h_t, oR A_t c_t_many c_t_below c_t_above1 c_t_below1), (A_t 0, eI cI 242 c_t_now)]) (ws' := [(A_t 1, eI cI 1452 c_t_before), (h_t, oR A_t c_t_many c_t_below c_t_above1 c_t_below1), (A_t 0, eI cI 242 c_t_now)]) Γ (fun sz => mX5_isIn (l := l) (D := D) (sz := sz) (cI := cI) (cJ := cJ) (cZ := cZ) (cW := cW) (cR := cR)  (hf := e5)) eX5_isIn ggX5_miss_X5_isIn (by decide +kernel) (by decide +kernel) (by decide +kernel) rfl rfl (Nat.le_of_ble_eq_true rfl) ⟨Nat.le_of_ble_eq_true rfl, Nat.le_of_ble_eq_true rfl⟩ dX5_miss_11 [] [0, 1, 2] rfl rfl rfl rfl (by decide) rfl ?_
    refine g_if_ne Γ 19 dX5_miss_14 (by decide) (fun c6 => ?_) (fun c6 => ?_)
    · have hf := ya_if2 c6 hf
      refine g_aload_n Γ 0 dX5_miss_19 rfl ?_
      obtain ⟨⟨v7, v8⟩, e9, hf⟩ := ya_ob hf
      refine g_vv (q := (RX5, TX5, 19)) (wr := []) (ws' := [(h_t, oR A_t v7 c_t_below c_t_above1 c_t_below1), (A_t 0, eI cI 242 c_t_now), (A_t 1, eI cI 1452 v8)]) Γ (fun sz => mX5_keep (l := l) (D := D) (sz := sz) (cI := cI) (cJ := cJ) (cZ := cZ) (cW := cW) (cR := cR) (h_t := h_t) (A_t := A_t) (hf := e9)) eX5_keep gX5_miss_X5_keep rfl rfl 0 rfl rfl rfl (Nat.le_of_ble_eq_true rfl) ⟨Nat.le_of_ble_eq_true rfl, Nat.le_of_ble_eq_true rfl⟩ dX5_miss_20 [1, 2, 0] [] rfl rfl rfl rfl (by decide) rfl ?_
      refine g_aload_n Γ 0 dX5_miss_23 rfl ?_
      refine g_iload_n Γ 1 dX5_miss_24 rfl ?_
      refine g_iconst (v := 4) Γ dX5_miss_25 (by decide) ?_
      refine g_iload_n Γ 2 dX5_miss_26 rfl ?_
      obtain ⟨v10, e11, hf⟩ := ya_ob hf
      refine g_vv (q := (RX5, TX5, 19)) (wr := [(A_t 1, eI cI 1452 v8)]) (ws' := [(A_t 1, eI cI 1452 v8), (h_t, oR A_t v7 c_t_below c_t_above1 c_t_below1), (A_t 0, eI cI 242 v10)]) Γ (fun sz => mX5_set (l := l) (D := D) (sz := sz) (cI := cI) (cJ := cJ) (cZ := cZ) (cW := cW) (cR := cR) (h_t := h_t) (A_t := A_t) (hf := e11)) eX5_set gX5_miss_X5_set rfl rfl 0 rfl rfl rfl (Nat.le_of_ble_eq_true rfl) ⟨Nat.le_of_ble_eq_true rfl, Nat.le_of_ble_eq_true rfl⟩ dX5_miss_27 [0, 1] [2] rfl rfl rfl rfl (by decide) rfl ?_
      refine g_iconst (v := 1) Γ dX5_miss_30 (by decide) ?_
      cases hf
      exact g_zret Γ hr (show ya_bo 1 = some 1 from rfl) dX5_miss_31 [1, 2, 0] rfl rfl
    · have hf := ya_if1 c6 hf
      refine g_iconst (v := 0) Γ dX5_miss_17 (by decide) ?_
      cases hf
      exact g_zret Γ hr (show ya_bo 0 = some 0 from rfl) dX5_miss_18 [1, 2, 0] rfl rfl

set_option maxRecDepth 20000 in
theorem ggX5_price_X5_isFlow : GoodIn wsX5_price wsX5_isFlow := goodIn_r _ [5, 6, 7, 8, 4, 9, 10, 11, 12, 13, 24, 25, 26, 27, 28, 29, 30, 31, 32, 33, 34, 35, 36, 37, 38, 39, 40, 41, 42] (by decide +kernel) (by decide +kernel)
set_option maxRecDepth 20000 in
theorem gX5_price_X5_isFlow : GoodIn wsX5_price (wsV RX5 83 RX5 yX5_isFlow wsX5_isFlow) := goodIn_app (goodIn_of _ (by decide +kernel)) ggX5_price_X5_isFlow
set_option maxRecDepth 20000 in
theorem ggX5_price_X5_isIn : GoodIn wsX5_price wsX5_isIn := goodIn_r _ [13] (by decide +kernel) (by decide +kernel)
set_option maxRecDepth 20000 in
theorem gX5_price_X5_isIn : GoodIn wsX5_price (va_wsS RX5 61 yX5_isIn wsX5_isIn) := goodIn_app (goodIn_of _ (by decide +kernel)) ggX5_price_X5_isIn
set_option maxRecDepth 20000 in
theorem ggX5_price_X5_keep : GoodIn wsX5_price wsX5_keep := goodIn_r _ [17, 18, 19, 10, 24, 25, 26, 27, 28, 29, 30, 31, 32, 33, 34, 35, 36, 37, 38, 39, 40, 41, 42] (by decide +kernel) (by decide +kernel)
set_option maxRecDepth 20000 in
theorem gX5_price_X5_keep : GoodIn wsX5_price (wsV RX5 72 RX5 yX5_keep wsX5_keep) := goodIn_app (goodIn_of _ (by decide +kernel)) ggX5_price_X5_keep
set_option maxRecDepth 20000 in
theorem ggX5_price_X5_set : GoodIn wsX5_price wsX5_set := goodIn_r _ [23, 10, 24, 25, 26, 27, 28, 29, 30, 31, 32, 33, 34, 35, 36, 37, 38, 39, 40, 41, 42] (by decide +kernel) (by decide +kernel)
set_option maxRecDepth 20000 in
theorem gX5_price_X5_set : GoodIn wsX5_price (wsV RX5 79 RX5 yX5_set wsX5_set) := goodIn_app (goodIn_of _ (by decide +kernel)) ggX5_price_X5_set
theorem dX5_price_0 : decode cX5_price 0 = .ok (.aload_n 0, 1) := by decide +kernel
theorem dX5_price_1 : decode cX5_price 1 = .ok (.iload_n 1, 1) := by decide +kernel
theorem dX5_price_2 : decode cX5_price 2 = .ok (.invokevirtual 83, 3) := by decide +kernel
theorem dX5_price_5 : decode cX5_price 5 = .ok (.ifCond .eq 13, 3) := by decide +kernel
theorem dX5_price_8 : decode cX5_price 8 = .ok (.iload_n 2, 1) := by decide +kernel
theorem dX5_price_9 : decode cX5_price 9 = .ok (.iconst 0, 1) := by decide +kernel
theorem dX5_price_10 : decode cX5_price 10 = .ok (.bipush 99, 2) := by decide +kernel
theorem dX5_price_12 : decode cX5_price 12 = .ok (.invokestatic 61, 3) := by decide +kernel
theorem dX5_price_15 : decode cX5_price 15 = .ok (.ifCond .ne 5, 3) := by decide +kernel
theorem dX5_price_18 : decode cX5_price 18 = .ok (.iconst 0, 1) := by decide +kernel
theorem dX5_price_19 : decode cX5_price 19 = .ok (.ireturn, 1) := by decide +kernel
theorem dX5_price_20 : decode cX5_price 20 = .ok (.aload_n 0, 1) := by decide +kernel
theorem dX5_price_21 : decode cX5_price 21 = .ok (.invokevirtual 72, 3) := by decide +kernel
theorem dX5_price_24 : decode cX5_price 24 = .ok (.aload_n 0, 1) := by decide +kernel
theorem dX5_price_25 : decode cX5_price 25 = .ok (.iload_n 1, 1) := by decide +kernel
theorem dX5_price_26 : decode cX5_price 26 = .ok (.iconst 5, 1) := by decide +kernel
theorem dX5_price_27 : decode cX5_price 27 = .ok (.iload_n 2, 1) := by decide +kernel
theorem dX5_price_28 : decode cX5_price 28 = .ok (.invokevirtual 79, 3) := by decide +kernel
theorem dX5_price_31 : decode cX5_price 31 = .ok (.iconst 1, 1) := by decide +kernel
theorem dX5_price_32 : decode cX5_price 32 = .ok (.ireturn, 1) := by decide +kernel
/-! ===== FlowMetersModel.price(II)Z ===== -/
def fX5_price (N : Nat) (c_t_many : Int32) (c_t_now : Nat → Int32) (c_t_before : Nat → Int32) (x1 : Int32) (x2 : Int32) : Option (Int32 × Int32 × (Nat → Int32) × (Nat → Int32)) :=
  (fX5_isFlow c_t_now x1).bind fun v1 =>
  (if v1 = 0 then
    some (0, c_t_many, c_t_now, c_t_before)
  else
    (fX5_isIn x2 0 99).bind fun v4 =>
    (if v4 = 0 then
      some (0, c_t_many, c_t_now, c_t_before)
    else
      (fX5_keep N c_t_many c_t_now c_t_before).bind fun (v7, v8) =>
      (fX5_set c_t_now x1 5 x2).bind fun v10 =>
      some (1, v7, v10, v8)))
abbrev rmX5_price : Room := { frames := 2, cells := 0, slots := 0, locals := 43 }
theorem eX5_price : yY yX5_price wsX5_price cX5_price 3 (some .boolean) rmX5_price 2 := ⟨⟨_, rfl⟩, rfl, rfl, by decide, by decide, by decide +kernel⟩
set_option maxHeartbeats 4000000 in
set_option maxRecDepth 100000 in
theorem mX5_price {l : Launch} {D : va_G} {sz : Nat} {cI cJ cZ cW cR : ClassId} {N : Nat} {h_t : Nat} {A_t : Nat → Nat} {c_t_many : Int32} {c_t_below : Int64} {c_t_above1 : Int64} {c_t_below1 : Int64} {c_t_now : Nat → Int32} {c_t_before : Nat → Int32} {x1 : Int32} {x2 : Int32} {r : Int32} {zc_t_many : Int32} {zc_t_now : Nat → Int32} {zc_t_before : Nat → Int32} (hf : fX5_price N c_t_many c_t_now c_t_before x1 x2 = some (r, zc_t_many, zc_t_now, zc_t_before)) : Met l yX5_price wsX5_price rmX5_price (yP D (yT cI cJ cZ cW cR) [(h_t, oR A_t c_t_many c_t_below c_t_above1 c_t_below1), (A_t 0, eI cI 242 c_t_now), (A_t 1, eI cI 1452 c_t_before)] sz [.ref h_t, .int x1, .int x2]) (yQi D (yT cI cJ cZ cW cR) r [(h_t, oR A_t zc_t_many c_t_below c_t_above1 c_t_below1), (A_t 0, eI cI 242 zc_t_now), (A_t 1, eI cI 1452 zc_t_before)] (va_A [(h_t, oR A_t c_t_many c_t_below c_t_above1 c_t_below1), (A_t 0, eI cI 242 c_t_now), (A_t 1, eI cI 1452 c_t_before)] sz)) 0 0 (va_A [(h_t, oR A_t c_t_many c_t_below c_t_above1 c_t_below1), (A_t 0, eI cI 242 c_t_now), (A_t 1, eI cI 1452 c_t_before)] sz) := by
  refine yM (cc := cX5_price) (maxL := 3) (ret := (some .boolean)) RX5 (by decide) rfl rfl (Nat.le_of_ble_eq_true rfl) ?_
  intro p e s m below meth c Γ hr
  show yG p l e (headSpec wsX5_price rmX5_price).room s m (List.toArray [.ref h_t, .int x1, .int x2]) below meth c D (va_A [(h_t, oR A_t c_t_many c_t_below c_t_above1 c_t_below1), (A_t 0, eI cI 242 c_t_now), (A_t 1, eI cI 1452 c_t_before)] sz) 3 0 0 (MQ below (yQi D (yT cI cJ cZ cW cR) r [(h_t, oR A_t zc_t_many c_t_below c_t_above1 c_t_below1), (A_t 0, eI cI 242 zc_t_now), (A_t 1, eI cI 1452 zc_t_before)] (va_A [(h_t, oR A_t c_t_many c_t_below c_t_above1 c_t_below1), (A_t 0, eI cI 242 c_t_now), (A_t 1, eI cI 1452 c_t_before)] sz)) (List.toArray [.ref h_t, .int x1, .int x2]) s 0 0 (va_A [(h_t, oR A_t c_t_many c_t_below c_t_above1 c_t_below1), (A_t 0, eI cI 242 c_t_now), (A_t 1, eI cI 1452 c_t_before)] sz)) 0 [(0, .ref h_t), (1, .int x1), (2, .int x2)] [] [(h_t, oR A_t c_t_many c_t_below c_t_above1 c_t_below1), (A_t 0, eI cI 242 c_t_now), (A_t 1, eI cI 1452 c_t_before)]
  unfold fX5_price at hf
  refine g_aload_n Γ 0 dX5_price_0 rfl ?_
  refine g_iload_n Γ 1 dX5_price_1 rfl ?_
  obtain ⟨v1, e2, hf⟩ := ya_ob hf
  refine g_vi (q := (RX5, TX5, 19)) (wr := [(A_t 1, eI cI 1452 c_t_before)]) (ws' := [(A_t 1, eI cI 1452 c_t_before), (h_t, oR A_t c_t_many c_t_below c_t_above1 c_t_below1), (A_t 0, eI cI 242 c_t_now)]) Γ (fun sz => mX5_isFlow (l := l) (D := D) (sz := sz) (cI := cI) (cJ := cJ) (cZ := cZ) (cW := cW) (cR := cR) (h_t := h_t) (A_t := A_t) (hf := e2)) eX5_isFlow gX5_price_X5_isFlow rfl rfl 0 rfl rfl rfl (Nat.le_of_ble_eq_true rfl) ⟨Nat.le_of_ble_eq_true rfl, Nat.le_of_ble_eq_true rfl⟩ dX5_price_2 [0, 1] [2] rfl rfl rfl rfl (by decide) rfl ?_
  refine g_if_eq Γ 18 dX5_price_5 (by decide) (fun c3 => ?_) (fun c3 => ?_)
  · have hf := ya_if1 c3 hf
    refine g_iconst (v := 0) Γ dX5_price_18 (by decide) ?_
    cases hf
    exact g_zret Γ hr (show ya_bo 0 = some 0 from rfl) dX5_price_19 [1, 2, 0] rfl rfl
  · have hf := ya_if2 c3 hf
    refine g_iload_n Γ 2 dX5_price_8 rfl ?_
    refine g_iconst (v := 0) Γ dX5_price_9 (by decide) ?_
    refine g_bipush (v := 99) Γ dX5_price_10 (by decide) ?_
    obtain ⟨v4, e5, hf⟩ := ya_ob hf
    refine g_si (wr := [(A_t 1, eI cI 1452 c_t_before), (h_t, oR A_t c_t_many c_t_below c_t_above1 c_t_below1), (A_t 0, eI cI 242 c_t_now)]) (ws' := [(A_t 1, eI cI 1452 c_t_before), (h_t, oR A_t c_t_many c_t_below c_t_above1 c_t_below1), (A_t 0, eI cI 242 c_t_now)]) Γ (fun sz => mX5_isIn (l := l) (D := D) (sz := sz) (cI := cI) (cJ := cJ) (cZ := cZ) (cW := cW) (cR := cR)  (hf := e5)) eX5_isIn ggX5_price_X5_isIn (by decide +kernel) (by decide +kernel) (by decide +kernel) rfl rfl (Nat.le_of_ble_eq_true rfl) ⟨Nat.le_of_ble_eq_true rfl, Nat.le_of_ble_eq_true rfl⟩ dX5_price_12 [] [0, 1, 2] rfl rfl rfl rfl (by decide) rfl ?_
    refine g_if_ne Γ 20 dX5_price_15 (by decide) (fun c6 => ?_) (fun c6 => ?_)
    · have hf := ya_if2 c6 hf
      refine g_aload_n Γ 0 dX5_price_20 rfl ?_
      obtain ⟨⟨v7, v8⟩, e9, hf⟩ := ya_ob hf
      refine g_vv (q := (RX5, TX5, 19)) (wr := []) (ws' := [(h_t, oR A_t v7 c_t_below c_t_above1 c_t_below1), (A_t 0, eI cI 242 c_t_now), (A_t 1, eI cI 1452 v8)]) Γ (fun sz => mX5_keep (l := l) (D := D) (sz := sz) (cI := cI) (cJ := cJ) (cZ := cZ) (cW := cW) (cR := cR) (h_t := h_t) (A_t := A_t) (hf := e9)) eX5_keep gX5_price_X5_keep rfl rfl 0 rfl rfl rfl (Nat.le_of_ble_eq_true rfl) ⟨Nat.le_of_ble_eq_true rfl, Nat.le_of_ble_eq_true rfl⟩ dX5_price_21 [1, 2, 0] [] rfl rfl rfl rfl (by decide) rfl ?_
      refine g_aload_n Γ 0 dX5_price_24 rfl ?_
      refine g_iload_n Γ 1 dX5_price_25 rfl ?_
      refine g_iconst (v := 5) Γ dX5_price_26 (by decide) ?_
      refine g_iload_n Γ 2 dX5_price_27 rfl ?_
      obtain ⟨v10, e11, hf⟩ := ya_ob hf
      refine g_vv (q := (RX5, TX5, 19)) (wr := [(A_t 1, eI cI 1452 v8)]) (ws' := [(A_t 1, eI cI 1452 v8), (h_t, oR A_t v7 c_t_below c_t_above1 c_t_below1), (A_t 0, eI cI 242 v10)]) Γ (fun sz => mX5_set (l := l) (D := D) (sz := sz) (cI := cI) (cJ := cJ) (cZ := cZ) (cW := cW) (cR := cR) (h_t := h_t) (A_t := A_t) (hf := e11)) eX5_set gX5_price_X5_set rfl rfl 0 rfl rfl rfl (Nat.le_of_ble_eq_true rfl) ⟨Nat.le_of_ble_eq_true rfl, Nat.le_of_ble_eq_true rfl⟩ dX5_price_28 [0, 1] [2] rfl rfl rfl rfl (by decide) rfl ?_
      refine g_iconst (v := 1) Γ dX5_price_31 (by decide) ?_
      cases hf
      exact g_zret Γ hr (show ya_bo 1 = some 1 from rfl) dX5_price_32 [1, 2, 0] rfl rfl
    · have hf := ya_if1 c6 hf
      refine g_iconst (v := 0) Γ dX5_price_18 (by decide) ?_
      cases hf
      exact g_zret Γ hr (show ya_bo 0 = some 0 from rfl) dX5_price_19 [1, 2, 0] rfl rfl

set_option maxRecDepth 20000 in
theorem ggX5_sheet_X5_isFlow : GoodIn wsX5_sheet wsX5_isFlow := goodIn_r _ [6, 7, 8, 9, 5, 10, 11, 12, 13, 14, 25, 26, 27, 28, 29, 30, 31, 32, 33, 34, 35, 36, 37, 38, 39, 40, 41, 42, 43] (by decide +kernel) (by decide +kernel)
set_option maxRecDepth 20000 in
theorem gX5_sheet_X5_isFlow : GoodIn wsX5_sheet (wsV RX5 83 RX5 yX5_isFlow wsX5_isFlow) := goodIn_app (goodIn_of _ (by decide +kernel)) ggX5_sheet_X5_isFlow
set_option maxRecDepth 20000 in
theorem ggX5_sheet_X5_isIn : GoodIn wsX5_sheet wsX5_isIn := goodIn_r _ [14] (by decide +kernel) (by decide +kernel)
set_option maxRecDepth 20000 in
theorem gX5_sheet_X5_isIn : GoodIn wsX5_sheet (va_wsS RX5 61 yX5_isIn wsX5_isIn) := goodIn_app (goodIn_of _ (by decide +kernel)) ggX5_sheet_X5_isIn
set_option maxRecDepth 20000 in
theorem ggX5_sheet_X5_keep : GoodIn wsX5_sheet wsX5_keep := goodIn_r _ [18, 19, 20, 11, 25, 26, 27, 28, 29, 30, 31, 32, 33, 34, 35, 36, 37, 38, 39, 40, 41, 42, 43] (by decide +kernel) (by decide +kernel)
set_option maxRecDepth 20000 in
theorem gX5_sheet_X5_keep : GoodIn wsX5_sheet (wsV RX5 72 RX5 yX5_keep wsX5_keep) := goodIn_app (goodIn_of _ (by decide +kernel)) ggX5_sheet_X5_keep
set_option maxRecDepth 20000 in
theorem ggX5_sheet_X5_set : GoodIn wsX5_sheet wsX5_set := goodIn_r _ [24, 11, 25, 26, 27, 28, 29, 30, 31, 32, 33, 34, 35, 36, 37, 38, 39, 40, 41, 42, 43] (by decide +kernel) (by decide +kernel)
set_option maxRecDepth 20000 in
theorem gX5_sheet_X5_set : GoodIn wsX5_sheet (wsV RX5 79 RX5 yX5_set wsX5_set) := goodIn_app (goodIn_of _ (by decide +kernel)) ggX5_sheet_X5_set
theorem dX5_sheet_0 : decode cX5_sheet 0 = .ok (.aload_n 0, 1) := by decide +kernel
theorem dX5_sheet_1 : decode cX5_sheet 1 = .ok (.iload_n 1, 1) := by decide +kernel
theorem dX5_sheet_2 : decode cX5_sheet 2 = .ok (.invokevirtual 83, 3) := by decide +kernel
theorem dX5_sheet_5 : decode cX5_sheet 5 = .ok (.ifCond .eq 22, 3) := by decide +kernel
theorem dX5_sheet_8 : decode cX5_sheet 8 = .ok (.iload_n 2, 1) := by decide +kernel
theorem dX5_sheet_9 : decode cX5_sheet 9 = .ok (.iconst 0, 1) := by decide +kernel
theorem dX5_sheet_10 : decode cX5_sheet 10 = .ok (.iconst 3, 1) := by decide +kernel
theorem dX5_sheet_11 : decode cX5_sheet 11 = .ok (.invokestatic 61, 3) := by decide +kernel
theorem dX5_sheet_14 : decode cX5_sheet 14 = .ok (.ifCond .eq 13, 3) := by decide +kernel
theorem dX5_sheet_17 : decode cX5_sheet 17 = .ok (.iload_n 3, 1) := by decide +kernel
theorem dX5_sheet_18 : decode cX5_sheet 18 = .ok (.iconst 0, 1) := by decide +kernel
theorem dX5_sheet_19 : decode cX5_sheet 19 = .ok (.bipush 16, 2) := by decide +kernel
theorem dX5_sheet_21 : decode cX5_sheet 21 = .ok (.invokestatic 61, 3) := by decide +kernel
theorem dX5_sheet_24 : decode cX5_sheet 24 = .ok (.ifCond .ne 5, 3) := by decide +kernel
theorem dX5_sheet_27 : decode cX5_sheet 27 = .ok (.iconst (-1), 1) := by decide +kernel
theorem dX5_sheet_28 : decode cX5_sheet 28 = .ok (.ireturn, 1) := by decide +kernel
theorem dX5_sheet_29 : decode cX5_sheet 29 = .ok (.aload_n 0, 1) := by decide +kernel
theorem dX5_sheet_30 : decode cX5_sheet 30 = .ok (.invokevirtual 72, 3) := by decide +kernel
theorem dX5_sheet_33 : decode cX5_sheet 33 = .ok (.aload_n 0, 1) := by decide +kernel
theorem dX5_sheet_34 : decode cX5_sheet 34 = .ok (.iload_n 1, 1) := by decide +kernel
theorem dX5_sheet_35 : decode cX5_sheet 35 = .ok (.bipush 6, 2) := by decide +kernel
theorem dX5_sheet_37 : decode cX5_sheet 37 = .ok (.iload_n 2, 1) := by decide +kernel
theorem dX5_sheet_38 : decode cX5_sheet 38 = .ok (.invokevirtual 79, 3) := by decide +kernel
theorem dX5_sheet_41 : decode cX5_sheet 41 = .ok (.aload_n 0, 1) := by decide +kernel
theorem dX5_sheet_42 : decode cX5_sheet 42 = .ok (.iload_n 1, 1) := by decide +kernel
theorem dX5_sheet_43 : decode cX5_sheet 43 = .ok (.bipush 7, 2) := by decide +kernel
theorem dX5_sheet_45 : decode cX5_sheet 45 = .ok (.iload_n 3, 1) := by decide +kernel
theorem dX5_sheet_46 : decode cX5_sheet 46 = .ok (.invokevirtual 79, 3) := by decide +kernel
theorem dX5_sheet_49 : decode cX5_sheet 49 = .ok (.iconst 0, 1) := by decide +kernel
theorem dX5_sheet_50 : decode cX5_sheet 50 = .ok (.istore 8, 2) := by decide +kernel
theorem dX5_sheet_52 : decode cX5_sheet 52 = .ok (.iload 8, 2) := by decide +kernel
theorem dX5_sheet_54 : decode cX5_sheet 54 = .ok (.bipush 16, 2) := by decide +kernel
theorem dX5_sheet_56 : decode cX5_sheet 56 = .ok (.if_icmp .ge 105, 3) := by decide +kernel
theorem dX5_sheet_59 : decode cX5_sheet 59 = .ok (.iload 8, 2) := by decide +kernel
theorem dX5_sheet_61 : decode cX5_sheet 61 = .ok (.iconst 4, 1) := by decide +kernel
theorem dX5_sheet_62 : decode cX5_sheet 62 = .ok (.if_icmp .ge 8, 3) := by decide +kernel
theorem dX5_sheet_65 : decode cX5_sheet 65 = .ok (.iload 4, 2) := by decide +kernel
theorem dX5_sheet_67 : decode cX5_sheet 67 = .ok (.goto 29, 3) := by decide +kernel
theorem dX5_sheet_70 : decode cX5_sheet 70 = .ok (.iload 8, 2) := by decide +kernel
theorem dX5_sheet_72 : decode cX5_sheet 72 = .ok (.bipush 8, 2) := by decide +kernel
theorem dX5_sheet_74 : decode cX5_sheet 74 = .ok (.if_icmp .ge 8, 3) := by decide +kernel
theorem dX5_sheet_77 : decode cX5_sheet 77 = .ok (.iload 5, 2) := by decide +kernel
theorem dX5_sheet_79 : decode cX5_sheet 79 = .ok (.goto 17, 3) := by decide +kernel
theorem dX5_sheet_82 : decode cX5_sheet 82 = .ok (.iload 8, 2) := by decide +kernel
theorem dX5_sheet_84 : decode cX5_sheet 84 = .ok (.bipush 12, 2) := by decide +kernel
theorem dX5_sheet_86 : decode cX5_sheet 86 = .ok (.if_icmp .ge 8, 3) := by decide +kernel
theorem dX5_sheet_89 : decode cX5_sheet 89 = .ok (.iload 6, 2) := by decide +kernel
theorem dX5_sheet_91 : decode cX5_sheet 91 = .ok (.goto 5, 3) := by decide +kernel
theorem dX5_sheet_94 : decode cX5_sheet 94 = .ok (.iload 7, 2) := by decide +kernel
theorem dX5_sheet_96 : decode cX5_sheet 96 = .ok (.istore 9, 2) := by decide +kernel
theorem dX5_sheet_98 : decode cX5_sheet 98 = .ok (.iload 9, 2) := by decide +kernel
theorem dX5_sheet_100 : decode cX5_sheet 100 = .ok (.bipush 8, 2) := by decide +kernel
theorem dX5_sheet_102 : decode cX5_sheet 102 = .ok (.iload 8, 2) := by decide +kernel
theorem dX5_sheet_104 : decode cX5_sheet 104 = .ok (.iconst 4, 1) := by decide +kernel
theorem dX5_sheet_105 : decode cX5_sheet 105 = .ok (.irem, 1) := by decide +kernel
theorem dX5_sheet_106 : decode cX5_sheet 106 = .ok (.imul, 1) := by decide +kernel
theorem dX5_sheet_107 : decode cX5_sheet 107 = .ok (.ishl, 1) := by decide +kernel
theorem dX5_sheet_108 : decode cX5_sheet 108 = .ok (.bipush 24, 2) := by decide +kernel
theorem dX5_sheet_110 : decode cX5_sheet 110 = .ok (.ishr, 1) := by decide +kernel
theorem dX5_sheet_111 : decode cX5_sheet 111 = .ok (.istore 10, 2) := by decide +kernel
theorem dX5_sheet_113 : decode cX5_sheet 113 = .ok (.aload_n 0, 1) := by decide +kernel
theorem dX5_sheet_114 : decode cX5_sheet 114 = .ok (.iload_n 1, 1) := by decide +kernel
theorem dX5_sheet_115 : decode cX5_sheet 115 = .ok (.bipush 8, 2) := by decide +kernel
theorem dX5_sheet_117 : decode cX5_sheet 117 = .ok (.iload 8, 2) := by decide +kernel
theorem dX5_sheet_119 : decode cX5_sheet 119 = .ok (.iadd, 1) := by decide +kernel
theorem dX5_sheet_120 : decode cX5_sheet 120 = .ok (.iload 8, 2) := by decide +kernel
theorem dX5_sheet_122 : decode cX5_sheet 122 = .ok (.iload_n 3, 1) := by decide +kernel
theorem dX5_sheet_123 : decode cX5_sheet 123 = .ok (.if_icmp .lt 7, 3) := by decide +kernel
theorem dX5_sheet_126 : decode cX5_sheet 126 = .ok (.iconst 0, 1) := by decide +kernel
theorem dX5_sheet_127 : decode cX5_sheet 127 = .ok (.goto 25, 3) := by decide +kernel
theorem dX5_sheet_130 : decode cX5_sheet 130 = .ok (.iload_n 2, 1) := by decide +kernel
theorem dX5_sheet_131 : decode cX5_sheet 131 = .ok (.iconst 3, 1) := by decide +kernel
theorem dX5_sheet_132 : decode cX5_sheet 132 = .ok (.if_icmp .ne 15, 3) := by decide +kernel
theorem dX5_sheet_135 : decode cX5_sheet 135 = .ok (.iload 10, 2) := by decide +kernel
theorem dX5_sheet_137 : decode cX5_sheet 137 = .ok (.bipush (-128), 2) := by decide +kernel
theorem dX5_sheet_139 : decode cX5_sheet 139 = .ok (.if_icmp .ne 8, 3) := by decide +kernel
theorem dX5_sheet_142 : decode cX5_sheet 142 = .ok (.ldc 90, 2) := by decide +kernel
theorem dX5_sheet_144 : decode cX5_sheet 144 = .ok (.goto 8, 3) := by decide +kernel
theorem dX5_sheet_147 : decode cX5_sheet 147 = .ok (.bipush 10, 2) := by decide +kernel
theorem dX5_sheet_149 : decode cX5_sheet 149 = .ok (.iload 10, 2) := by decide +kernel
theorem dX5_sheet_151 : decode cX5_sheet 151 = .ok (.imul, 1) := by decide +kernel
theorem dX5_sheet_152 : decode cX5_sheet 152 = .ok (.invokevirtual 79, 3) := by decide +kernel
theorem dX5_sheet_155 : decode cX5_sheet 155 = .ok (.iinc 8 1, 3) := by decide +kernel
theorem dX5_sheet_158 : decode cX5_sheet 158 = .ok (.goto (-106), 3) := by decide +kernel
theorem dX5_sheet_161 : decode cX5_sheet 161 = .ok (.iload_n 3, 1) := by decide +kernel
theorem dX5_sheet_162 : decode cX5_sheet 162 = .ok (.ireturn, 1) := by decide +kernel
/-! ===== FlowMetersModel.sheet(IIIIIII)I ===== -/
def fX5_sheet_L52 (N : Nat) (n : Nat) (y1 : Int32) (y2 : Int32) (y3 : Int32) (y4 : Int32) (y5 : Int32) (y6 : Int32) (y7 : Int32) (y8 : Int32) (d_t_now : Nat → Int32) : Option (Nat → Int32) := match n with
  | 0 => none
  | n + 1 =>
    (if 16 ≤ y8 then
        some d_t_now
      else
        (if 4 ≤ y8 then
          (if 8 ≤ y8 then
            (if 12 ≤ y8 then
              (ya_irm y8 4).bind fun v21 =>
              ya_lt ((y7 <<< ((8 * v21) &&& 31)) >>> (24 &&& 31)) fun v23 =>
              (if y8 < y3 then
                (if y2 = 3 then
                  (if v23 = (-128) then
                    (fX5_set d_t_now y1 (8 + y8) (-1000000)).bind fun v36 =>
                    ya_lt (y8 + 1) fun v38 =>
                    fX5_sheet_L52 N n y1 y2 y3 y4 y5 y6 y7 v38 v36
                  else
                    (fX5_set d_t_now y1 (8 + y8) (10 * v23)).bind fun v32 =>
                    ya_lt (y8 + 1) fun v34 =>
                    fX5_sheet_L52 N n y1 y2 y3 y4 y5 y6 y7 v34 v32)
                else
                  (fX5_set d_t_now y1 (8 + y8) (10 * v23)).bind fun v27 =>
                  ya_lt (y8 + 1) fun v29 =>
                  fX5_sheet_L52 N n y1 y2 y3 y4 y5 y6 y7 v29 v27)
              else
                (fX5_set d_t_now y1 (8 + y8) 0).bind fun v40 =>
                ya_lt (y8 + 1) fun v42 =>
                fX5_sheet_L52 N n y1 y2 y3 y4 y5 y6 y7 v42 v40)
            else
              (ya_irm y8 4).bind fun v44 =>
              ya_lt ((y6 <<< ((8 * v44) &&& 31)) >>> (24 &&& 31)) fun v46 =>
              (if y8 < y3 then
                (if y2 = 3 then
                  (if v46 = (-128) then
                    (fX5_set d_t_now y1 (8 + y8) (-1000000)).bind fun v59 =>
                    ya_lt (y8 + 1) fun v61 =>
                    fX5_sheet_L52 N n y1 y2 y3 y4 y5 y6 y7 v61 v59
                  else
                    (fX5_set d_t_now y1 (8 + y8) (10 * v46)).bind fun v55 =>
                    ya_lt (y8 + 1) fun v57 =>
                    fX5_sheet_L52 N n y1 y2 y3 y4 y5 y6 y7 v57 v55)
                else
                  (fX5_set d_t_now y1 (8 + y8) (10 * v46)).bind fun v50 =>
                  ya_lt (y8 + 1) fun v52 =>
                  fX5_sheet_L52 N n y1 y2 y3 y4 y5 y6 y7 v52 v50)
              else
                (fX5_set d_t_now y1 (8 + y8) 0).bind fun v63 =>
                ya_lt (y8 + 1) fun v65 =>
                fX5_sheet_L52 N n y1 y2 y3 y4 y5 y6 y7 v65 v63))
          else
            (ya_irm y8 4).bind fun v67 =>
            ya_lt ((y5 <<< ((8 * v67) &&& 31)) >>> (24 &&& 31)) fun v69 =>
            (if y8 < y3 then
              (if y2 = 3 then
                (if v69 = (-128) then
                  (fX5_set d_t_now y1 (8 + y8) (-1000000)).bind fun v82 =>
                  ya_lt (y8 + 1) fun v84 =>
                  fX5_sheet_L52 N n y1 y2 y3 y4 y5 y6 y7 v84 v82
                else
                  (fX5_set d_t_now y1 (8 + y8) (10 * v69)).bind fun v78 =>
                  ya_lt (y8 + 1) fun v80 =>
                  fX5_sheet_L52 N n y1 y2 y3 y4 y5 y6 y7 v80 v78)
              else
                (fX5_set d_t_now y1 (8 + y8) (10 * v69)).bind fun v73 =>
                ya_lt (y8 + 1) fun v75 =>
                fX5_sheet_L52 N n y1 y2 y3 y4 y5 y6 y7 v75 v73)
            else
              (fX5_set d_t_now y1 (8 + y8) 0).bind fun v86 =>
              ya_lt (y8 + 1) fun v88 =>
              fX5_sheet_L52 N n y1 y2 y3 y4 y5 y6 y7 v88 v86))
        else
          (ya_irm y8 4).bind fun v90 =>
          ya_lt ((y4 <<< ((8 * v90) &&& 31)) >>> (24 &&& 31)) fun v92 =>
          (if y8 < y3 then
            (if y2 = 3 then
              (if v92 = (-128) then
                (fX5_set d_t_now y1 (8 + y8) (-1000000)).bind fun v105 =>
                ya_lt (y8 + 1) fun v107 =>
                fX5_sheet_L52 N n y1 y2 y3 y4 y5 y6 y7 v107 v105
              else
                (fX5_set d_t_now y1 (8 + y8) (10 * v92)).bind fun v101 =>
                ya_lt (y8 + 1) fun v103 =>
                fX5_sheet_L52 N n y1 y2 y3 y4 y5 y6 y7 v103 v101)
            else
              (fX5_set d_t_now y1 (8 + y8) (10 * v92)).bind fun v96 =>
              ya_lt (y8 + 1) fun v98 =>
              fX5_sheet_L52 N n y1 y2 y3 y4 y5 y6 y7 v98 v96)
          else
            (fX5_set d_t_now y1 (8 + y8) 0).bind fun v109 =>
            ya_lt (y8 + 1) fun v111 =>
            fX5_sheet_L52 N n y1 y2 y3 y4 y5 y6 y7 v111 v109)))
def fX5_sheet (N : Nat) (c_t_many : Int32) (c_t_now : Nat → Int32) (c_t_before : Nat → Int32) (x1 : Int32) (x2 : Int32) (x3 : Int32) (x4 : Int32) (x5 : Int32) (x6 : Int32) (x7 : Int32) : Option (Int32 × Int32 × (Nat → Int32) × (Nat → Int32)) :=
  (fX5_isFlow c_t_now x1).bind fun v1 =>
  (if v1 = 0 then
    some ((-1), c_t_many, c_t_now, c_t_before)
  else
    (fX5_isIn x2 0 3).bind fun v4 =>
    (if v4 = 0 then
      some ((-1), c_t_many, c_t_now, c_t_before)
    else
      (fX5_isIn x3 0 16).bind fun v7 =>
      (if v7 = 0 then
        some ((-1), c_t_many, c_t_now, c_t_before)
      else
        (fX5_keep N c_t_many c_t_now c_t_before).bind fun (v10, v11) =>
        (fX5_set c_t_now x1 6 x2).bind fun v13 =>
        (fX5_set v13 x1 7 x3).bind fun v15 =>
        (fX5_sheet_L52 N N x1 x2 x3 x4 x5 x6 x7 0 v15).bind fun v113 =>
        some (x3, v10, v113, v11))))
abbrev rmX5_sheet : Room := { frames := 2, cells := 0, slots := 0, locals := 43 }
theorem eX5_sheet : yY yX5_sheet wsX5_sheet cX5_sheet 11 (some .int) rmX5_sheet 7 := ⟨⟨_, rfl⟩, rfl, rfl, by decide, by decide, by decide +kernel⟩
set_option maxHeartbeats 4000000 in
set_option maxRecDepth 100000 in
theorem mX5_sheet {l : Launch} {D : va_G} {sz : Nat} {cI cJ cZ cW cR : ClassId} {N : Nat} {h_t : Nat} {A_t : Nat → Nat} {c_t_many : Int32} {c_t_below : Int64} {c_t_above1 : Int64} {c_t_below1 : Int64} {c_t_now : Nat → Int32} {c_t_before : Nat → Int32} {x1 : Int32} {x2 : Int32} {x3 : Int32} {x4 : Int32} {x5 : Int32} {x6 : Int32} {x7 : Int32} {r : Int32} {zc_t_many : Int32} {zc_t_now : Nat → Int32} {zc_t_before : Nat → Int32} (hf : fX5_sheet N c_t_many c_t_now c_t_before x1 x2 x3 x4 x5 x6 x7 = some (r, zc_t_many, zc_t_now, zc_t_before)) : Met l yX5_sheet wsX5_sheet rmX5_sheet (yP D (yT cI cJ cZ cW cR) [(h_t, oR A_t c_t_many c_t_below c_t_above1 c_t_below1), (A_t 0, eI cI 242 c_t_now), (A_t 1, eI cI 1452 c_t_before)] sz [.ref h_t, .int x1, .int x2, .int x3, .int x4, .int x5, .int x6, .int x7]) (yQi D (yT cI cJ cZ cW cR) r [(h_t, oR A_t zc_t_many c_t_below c_t_above1 c_t_below1), (A_t 0, eI cI 242 zc_t_now), (A_t 1, eI cI 1452 zc_t_before)] (va_A [(h_t, oR A_t c_t_many c_t_below c_t_above1 c_t_below1), (A_t 0, eI cI 242 c_t_now), (A_t 1, eI cI 1452 c_t_before)] sz)) 0 0 (va_A [(h_t, oR A_t c_t_many c_t_below c_t_above1 c_t_below1), (A_t 0, eI cI 242 c_t_now), (A_t 1, eI cI 1452 c_t_before)] sz) := by
  refine yM (cc := cX5_sheet) (maxL := 11) (ret := (some .int)) RX5 (by decide) rfl rfl (Nat.le_of_ble_eq_true rfl) ?_
  intro p e s m below meth c Γ hr
  have loop52 : ∀ (n : Nat) (y1 : Int32) (y2 : Int32) (y3 : Int32) (y4 : Int32) (y5 : Int32) (y6 : Int32) (y7 : Int32) (y8 : Int32) (d_t_many : Int32) (d_t_below : Int64) (d_t_above1 : Int64) (d_t_below1 : Int64) (d_t_now : Nat → Int32) (d_t_before : Nat → Int32) (w0 : Nat → Int32), fX5_sheet_L52 N n y1 y2 y3 y4 y5 y6 y7 y8 d_t_now = some w0 → yG p l e (headSpec wsX5_sheet rmX5_sheet).room s m (List.toArray [.ref h_t, .int x1, .int x2, .int x3, .int x4, .int x5, .int x6, .int x7]) below meth c D (va_A [(h_t, oR A_t c_t_many c_t_below c_t_above1 c_t_below1), (A_t 0, eI cI 242 c_t_now), (A_t 1, eI cI 1452 c_t_before)] sz) 11 0 0 (MQ below (yQi D (yT cI cJ cZ cW cR) r [(h_t, oR A_t zc_t_many c_t_below c_t_above1 c_t_below1), (A_t 0, eI cI 242 zc_t_now), (A_t 1, eI cI 1452 zc_t_before)] (va_A [(h_t, oR A_t c_t_many c_t_below c_t_above1 c_t_below1), (A_t 0, eI cI 242 c_t_now), (A_t 1, eI cI 1452 c_t_before)] sz)) (List.toArray [.ref h_t, .int x1, .int x2, .int x3, .int x4, .int x5, .int x6, .int x7]) s 0 0 (va_A [(h_t, oR A_t c_t_many c_t_below c_t_above1 c_t_below1), (A_t 0, eI cI 242 c_t_now), (A_t 1, eI cI 1452 c_t_before)] sz)) 161 [(3, .int y3)] [] [(h_t, oR A_t d_t_many d_t_below d_t_above1 d_t_below1), (A_t 0, eI cI 242 w0), (A_t 1, eI cI 1452 d_t_before)] → yG p l e (headSpec wsX5_sheet rmX5_sheet).room s m (List.toArray [.ref h_t, .int x1, .int x2, .int x3, .int x4, .int x5, .int x6, .int x7]) below meth c D (va_A [(h_t, oR A_t c_t_many c_t_below c_t_above1 c_t_below1), (A_t 0, eI cI 242 c_t_now), (A_t 1, eI cI 1452 c_t_before)] sz) 11 0 0 (MQ below (yQi D (yT cI cJ cZ cW cR) r [(h_t, oR A_t zc_t_many c_t_below c_t_above1 c_t_below1), (A_t 0, eI cI 242 zc_t_now), (A_t 1, eI cI 1452 zc_t_before)] (va_A [(h_t, oR A_t c_t_many c_t_below c_t_above1 c_t_below1), (A_t 0, eI cI 242 c_t_now), (A_t 1, eI cI 1452 c_t_before)] sz)) (List.toArray [.ref h_t, .int x1, .int x2, .int x3, .int x4, .int x5, .int x6, .int x7]) s 0 0 (va_A [(h_t, oR A_t c_t_many c_t_below c_t_above1 c_t_below1), (A_t 0, eI cI 242 c_t_now), (A_t 1, eI cI 1452 c_t_before)] sz)) 52 [(0, .ref h_t), (1, .int y1), (2, .int y2), (3, .int y3), (4, .int y4), (5, .int y5), (6, .int y6), (7, .int y7), (8, .int y8)] [] [(h_t, oR A_t d_t_many d_t_below d_t_above1 d_t_below1), (A_t 0, eI cI 242 d_t_now), (A_t 1, eI cI 1452 d_t_before)] := by
    intro n
    induction n with
    | zero =>
      intro y1 y2 y3 y4 y5 y6 y7 y8 d_t_many d_t_below d_t_above1 d_t_below1 d_t_now d_t_before w0 hf
      cases hf
    | succ n ih =>
      intro y1 y2 y3 y4 y5 y6 y7 y8 d_t_many d_t_below d_t_above1 d_t_below1 d_t_now d_t_before w0 hf hk
      unfold fX5_sheet_L52 at hf
      refine g_iload Γ 8 dX5_sheet_52 rfl ?_
      refine g_bipush (v := 16) Γ dX5_sheet_54 (by decide) ?_
      refine g_icmp_ge Γ 161 dX5_sheet_56 (by decide) (fun c17 => ?_) (fun c17 => ?_)
      · have hf := ya_if1 c17 hf
        cases hf
        refine g_lv [3] rfl ?_
        exact hk
      · have hf := ya_if2 c17 hf
        refine g_iload Γ 8 dX5_sheet_59 rfl ?_
        refine g_iconst (v := 4) Γ dX5_sheet_61 (by decide) ?_
        refine g_icmp_ge Γ 70 dX5_sheet_62 (by decide) (fun c18 => ?_) (fun c18 => ?_)
        · have hf := ya_if1 c18 hf
          refine g_iload Γ 8 dX5_sheet_70 rfl ?_
          refine g_bipush (v := 8) Γ dX5_sheet_72 (by decide) ?_
          refine g_icmp_ge Γ 82 dX5_sheet_74 (by decide) (fun c19 => ?_) (fun c19 => ?_)
          · have hf := ya_if1 c19 hf
            refine g_iload Γ 8 dX5_sheet_82 rfl ?_
            refine g_bipush (v := 12) Γ dX5_sheet_84 (by decide) ?_
            refine g_icmp_ge Γ 94 dX5_sheet_86 (by decide) (fun c20 => ?_) (fun c20 => ?_)
            · have hf := ya_if1 c20 hf
              refine g_iload Γ 7 dX5_sheet_94 rfl ?_
              refine g_istore (lv' := [(9, .int y7), (0, .ref h_t), (1, .int y1), (2, .int y2), (3, .int y3), (4, .int y4), (5, .int y5), (6, .int y6), (7, .int y7), (8, .int y8)]) Γ dX5_sheet_96 (by decide) rfl ?_
              refine g_iload Γ 0 dX5_sheet_98 rfl ?_
              refine g_bipush (v := 8) Γ dX5_sheet_100 (by decide) ?_
              refine g_iload Γ 9 dX5_sheet_102 rfl ?_
              refine g_iconst (v := 4) Γ dX5_sheet_104 (by decide) ?_
              obtain ⟨v21, e22, hf⟩ := ya_ob hf
              refine g_irem Γ e22 dX5_sheet_105 ?_
              refine g_imul Γ dX5_sheet_106 ?_
              refine g_ishl Γ dX5_sheet_107 ?_
              refine g_bipush (v := 24) Γ dX5_sheet_108 (by decide) ?_
              refine g_ishr Γ dX5_sheet_110 ?_
              obtain ⟨v23, e24, hf⟩ := ya_lt_inv hf
              refine g_nmi e24 ?_
              refine g_istore (lv' := [(10, .int v23), (9, .int y7), (0, .ref h_t), (1, .int y1), (2, .int y2), (3, .int y3), (4, .int y4), (5, .int y5), (6, .int y6), (7, .int y7), (8, .int y8)]) Γ dX5_sheet_111 (by decide) rfl ?_
              refine g_aload_n Γ 2 dX5_sheet_113 rfl ?_
              refine g_iload_n Γ 3 dX5_sheet_114 rfl ?_
              refine g_bipush (v := 8) Γ dX5_sheet_115 (by decide) ?_
              refine g_iload Γ 10 dX5_sheet_117 rfl ?_
              refine g_iadd Γ dX5_sheet_119 ?_
              refine g_iload Γ 10 dX5_sheet_120 rfl ?_
              refine g_iload_n Γ 5 dX5_sheet_122 rfl ?_
              refine g_icmp_lt Γ 130 dX5_sheet_123 (by decide) (fun c25 => ?_) (fun c25 => ?_)
              · have hf := ya_if1 c25 hf
                refine g_iload_n Γ 4 dX5_sheet_130 rfl ?_
                refine g_iconst (v := 3) Γ dX5_sheet_131 (by decide) ?_
                refine g_icmp_ne Γ 147 dX5_sheet_132 (by decide) (fun c26 => ?_) (fun c26 => ?_)
                · have hf := ya_if2 c26 hf
                  refine g_bipush (v := 10) Γ dX5_sheet_147 (by decide) ?_
                  refine g_iload Γ 0 dX5_sheet_149 rfl ?_
                  refine g_imul Γ dX5_sheet_151 ?_
                  obtain ⟨v27, e28, hf⟩ := ya_ob hf
                  refine g_vv (q := (RX5, TX5, 19)) (wr := [(A_t 1, eI cI 1452 d_t_before)]) (ws' := [(A_t 1, eI cI 1452 d_t_before), (h_t, oR A_t d_t_many d_t_below d_t_above1 d_t_below1), (A_t 0, eI cI 242 v27)]) Γ (fun sz => mX5_set (l := l) (D := D) (sz := sz) (cI := cI) (cJ := cJ) (cZ := cZ) (cW := cW) (cR := cR) (h_t := h_t) (A_t := A_t) (hf := e28)) eX5_set gX5_sheet_X5_set rfl rfl 0 rfl rfl rfl (Nat.le_of_ble_eq_true rfl) ⟨Nat.le_of_ble_eq_true rfl, Nat.le_of_ble_eq_true rfl⟩ dX5_sheet_152 [0, 1] [2] rfl rfl rfl rfl (by decide) rfl ?_
                  obtain ⟨v29, e30, hf⟩ := ya_lt_inv hf
                  refine g_iinc (lv' := [(8, .int v29), (10, .int v23), (9, .int y7), (0, .ref h_t), (1, .int y1), (2, .int y2), (3, .int y3), (4, .int y4), (5, .int y5), (6, .int y6), (7, .int y7)]) Γ 10 dX5_sheet_155 rfl (by rw [e30]; rfl) (by decide) rfl ?_
                  refine g_goto Γ 52 dX5_sheet_158 (by decide) ?_
                  refine g_lv [3, 4, 5, 6, 7, 8, 9, 10, 0] rfl ?_
                  refine g_ws (ws' := [(h_t, oR A_t d_t_many d_t_below d_t_above1 d_t_below1), (A_t 0, eI cI 242 v27), (A_t 1, eI cI 1452 d_t_before)]) [1, 2, 0] rfl rfl ?_
                  exact ih _ _ _ _ _ _ _ _ _ _ _ _ _ _ _ hf hk
                · have hf := ya_if1 c26 hf
                  refine g_iload Γ 0 dX5_sheet_135 rfl ?_
                  refine g_bipush (v := (-128)) Γ dX5_sheet_137 (by decide) ?_
                  refine g_icmp_ne Γ 147 dX5_sheet_139 (by decide) (fun c31 => ?_) (fun c31 => ?_)
                  · have hf := ya_if2 c31 hf
                    refine g_bipush (v := 10) Γ dX5_sheet_147 (by decide) ?_
                    refine g_iload Γ 0 dX5_sheet_149 rfl ?_
                    refine g_imul Γ dX5_sheet_151 ?_
                    obtain ⟨v32, e33, hf⟩ := ya_ob hf
                    refine g_vv (q := (RX5, TX5, 19)) (wr := [(A_t 1, eI cI 1452 d_t_before)]) (ws' := [(A_t 1, eI cI 1452 d_t_before), (h_t, oR A_t d_t_many d_t_below d_t_above1 d_t_below1), (A_t 0, eI cI 242 v32)]) Γ (fun sz => mX5_set (l := l) (D := D) (sz := sz) (cI := cI) (cJ := cJ) (cZ := cZ) (cW := cW) (cR := cR) (h_t := h_t) (A_t := A_t) (hf := e33)) eX5_set gX5_sheet_X5_set rfl rfl 0 rfl rfl rfl (Nat.le_of_ble_eq_true rfl) ⟨Nat.le_of_ble_eq_true rfl, Nat.le_of_ble_eq_true rfl⟩ dX5_sheet_152 [0, 1] [2] rfl rfl rfl rfl (by decide) rfl ?_
                    obtain ⟨v34, e35, hf⟩ := ya_lt_inv hf
                    refine g_iinc (lv' := [(8, .int v34), (10, .int v23), (9, .int y7), (0, .ref h_t), (1, .int y1), (2, .int y2), (3, .int y3), (4, .int y4), (5, .int y5), (6, .int y6), (7, .int y7)]) Γ 10 dX5_sheet_155 rfl (by rw [e35]; rfl) (by decide) rfl ?_
                    refine g_goto Γ 52 dX5_sheet_158 (by decide) ?_
                    refine g_lv [3, 4, 5, 6, 7, 8, 9, 10, 0] rfl ?_
                    refine g_ws (ws' := [(h_t, oR A_t d_t_many d_t_below d_t_above1 d_t_below1), (A_t 0, eI cI 242 v32), (A_t 1, eI cI 1452 d_t_before)]) [1, 2, 0] rfl rfl ?_
                    exact ih _ _ _ _ _ _ _ _ _ _ _ _ _ _ _ hf hk
                  · have hf := ya_if1 c31 hf
                    refine g_ldc (v := (-1000000)) Γ dX5_sheet_142 (by decide +kernel) ?_
                    refine g_goto Γ 152 dX5_sheet_144 (by decide) ?_
                    obtain ⟨v36, e37, hf⟩ := ya_ob hf
                    refine g_vv (q := (RX5, TX5, 19)) (wr := [(A_t 1, eI cI 1452 d_t_before)]) (ws' := [(A_t 1, eI cI 1452 d_t_before), (h_t, oR A_t d_t_many d_t_below d_t_above1 d_t_below1), (A_t 0, eI cI 242 v36)]) Γ (fun sz => mX5_set (l := l) (D := D) (sz := sz) (cI := cI) (cJ := cJ) (cZ := cZ) (cW := cW) (cR := cR) (h_t := h_t) (A_t := A_t) (hf := e37)) eX5_set gX5_sheet_X5_set rfl rfl 0 rfl rfl rfl (Nat.le_of_ble_eq_true rfl) ⟨Nat.le_of_ble_eq_true rfl, Nat.le_of_ble_eq_true rfl⟩ dX5_sheet_152 [0, 1] [2] rfl rfl rfl rfl (by decide) rfl ?_
                    obtain ⟨v38, e39, hf⟩ := ya_lt_inv hf
                    refine g_iinc (lv' := [(8, .int v38), (10, .int v23), (9, .int y7), (0, .ref h_t), (1, .int y1), (2, .int y2), (3, .int y3), (4, .int y4), (5, .int y5), (6, .int y6), (7, .int y7)]) Γ 10 dX5_sheet_155 rfl (by rw [e39]; rfl) (by decide) rfl ?_
                    refine g_goto Γ 52 dX5_sheet_158 (by decide) ?_
                    refine g_lv [3, 4, 5, 6, 7, 8, 9, 10, 0] rfl ?_
                    refine g_ws (ws' := [(h_t, oR A_t d_t_many d_t_below d_t_above1 d_t_below1), (A_t 0, eI cI 242 v36), (A_t 1, eI cI 1452 d_t_before)]) [1, 2, 0] rfl rfl ?_
                    exact ih _ _ _ _ _ _ _ _ _ _ _ _ _ _ _ hf hk
              · have hf := ya_if2 c25 hf
                refine g_iconst (v := 0) Γ dX5_sheet_126 (by decide) ?_
                refine g_goto Γ 152 dX5_sheet_127 (by decide) ?_
                obtain ⟨v40, e41, hf⟩ := ya_ob hf
                refine g_vv (q := (RX5, TX5, 19)) (wr := [(A_t 1, eI cI 1452 d_t_before)]) (ws' := [(A_t 1, eI cI 1452 d_t_before), (h_t, oR A_t d_t_many d_t_below d_t_above1 d_t_below1), (A_t 0, eI cI 242 v40)]) Γ (fun sz => mX5_set (l := l) (D := D) (sz := sz) (cI := cI) (cJ := cJ) (cZ := cZ) (cW := cW) (cR := cR) (h_t := h_t) (A_t := A_t) (hf := e41)) eX5_set gX5_sheet_X5_set rfl rfl 0 rfl rfl rfl (Nat.le_of_ble_eq_true rfl) ⟨Nat.le_of_ble_eq_true rfl, Nat.le_of_ble_eq_true rfl⟩ dX5_sheet_152 [0, 1] [2] rfl rfl rfl rfl (by decide) rfl ?_
                obtain ⟨v42, e43, hf⟩ := ya_lt_inv hf
                refine g_iinc (lv' := [(8, .int v42), (10, .int v23), (9, .int y7), (0, .ref h_t), (1, .int y1), (2, .int y2), (3, .int y3), (4, .int y4), (5, .int y5), (6, .int y6), (7, .int y7)]) Γ 10 dX5_sheet_155 rfl (by rw [e43]; rfl) (by decide) rfl ?_
                refine g_goto Γ 52 dX5_sheet_158 (by decide) ?_
                refine g_lv [3, 4, 5, 6, 7, 8, 9, 10, 0] rfl ?_
                refine g_ws (ws' := [(h_t, oR A_t d_t_many d_t_below d_t_above1 d_t_below1), (A_t 0, eI cI 242 v40), (A_t 1, eI cI 1452 d_t_before)]) [1, 2, 0] rfl rfl ?_
                exact ih _ _ _ _ _ _ _ _ _ _ _ _ _ _ _ hf hk
            · have hf := ya_if2 c20 hf
              refine g_iload Γ 6 dX5_sheet_89 rfl ?_
              refine g_goto Γ 96 dX5_sheet_91 (by decide) ?_
              refine g_istore (lv' := [(9, .int y6), (0, .ref h_t), (1, .int y1), (2, .int y2), (3, .int y3), (4, .int y4), (5, .int y5), (6, .int y6), (7, .int y7), (8, .int y8)]) Γ dX5_sheet_96 (by decide) rfl ?_
              refine g_iload Γ 0 dX5_sheet_98 rfl ?_
              refine g_bipush (v := 8) Γ dX5_sheet_100 (by decide) ?_
              refine g_iload Γ 9 dX5_sheet_102 rfl ?_
              refine g_iconst (v := 4) Γ dX5_sheet_104 (by decide) ?_
              obtain ⟨v44, e45, hf⟩ := ya_ob hf
              refine g_irem Γ e45 dX5_sheet_105 ?_
              refine g_imul Γ dX5_sheet_106 ?_
              refine g_ishl Γ dX5_sheet_107 ?_
              refine g_bipush (v := 24) Γ dX5_sheet_108 (by decide) ?_
              refine g_ishr Γ dX5_sheet_110 ?_
              obtain ⟨v46, e47, hf⟩ := ya_lt_inv hf
              refine g_nmi e47 ?_
              refine g_istore (lv' := [(10, .int v46), (9, .int y6), (0, .ref h_t), (1, .int y1), (2, .int y2), (3, .int y3), (4, .int y4), (5, .int y5), (6, .int y6), (7, .int y7), (8, .int y8)]) Γ dX5_sheet_111 (by decide) rfl ?_
              refine g_aload_n Γ 2 dX5_sheet_113 rfl ?_
              refine g_iload_n Γ 3 dX5_sheet_114 rfl ?_
              refine g_bipush (v := 8) Γ dX5_sheet_115 (by decide) ?_
              refine g_iload Γ 10 dX5_sheet_117 rfl ?_
              refine g_iadd Γ dX5_sheet_119 ?_
              refine g_iload Γ 10 dX5_sheet_120 rfl ?_
              refine g_iload_n Γ 5 dX5_sheet_122 rfl ?_
              refine g_icmp_lt Γ 130 dX5_sheet_123 (by decide) (fun c48 => ?_) (fun c48 => ?_)
              · have hf := ya_if1 c48 hf
                refine g_iload_n Γ 4 dX5_sheet_130 rfl ?_
                refine g_iconst (v := 3) Γ dX5_sheet_131 (by decide) ?_
                refine g_icmp_ne Γ 147 dX5_sheet_132 (by decide) (fun c49 => ?_) (fun c49 => ?_)
                · have hf := ya_if2 c49 hf
                  refine g_bipush (v := 10) Γ dX5_sheet_147 (by decide) ?_
                  refine g_iload Γ 0 dX5_sheet_149 rfl ?_
                  refine g_imul Γ dX5_sheet_151 ?_
                  obtain ⟨v50, e51, hf⟩ := ya_ob hf
                  refine g_vv (q := (RX5, TX5, 19)) (wr := [(A_t 1, eI cI 1452 d_t_before)]) (ws' := [(A_t 1, eI cI 1452 d_t_before), (h_t, oR A_t d_t_many d_t_below d_t_above1 d_t_below1), (A_t 0, eI cI 242 v50)]) Γ (fun sz => mX5_set (l := l) (D := D) (sz := sz) (cI := cI) (cJ := cJ) (cZ := cZ) (cW := cW) (cR := cR) (h_t := h_t) (A_t := A_t) (hf := e51)) eX5_set gX5_sheet_X5_set rfl rfl 0 rfl rfl rfl (Nat.le_of_ble_eq_true rfl) ⟨Nat.le_of_ble_eq_true rfl, Nat.le_of_ble_eq_true rfl⟩ dX5_sheet_152 [0, 1] [2] rfl rfl rfl rfl (by decide) rfl ?_
                  obtain ⟨v52, e53, hf⟩ := ya_lt_inv hf
                  refine g_iinc (lv' := [(8, .int v52), (10, .int v46), (9, .int y6), (0, .ref h_t), (1, .int y1), (2, .int y2), (3, .int y3), (4, .int y4), (5, .int y5), (6, .int y6), (7, .int y7)]) Γ 10 dX5_sheet_155 rfl (by rw [e53]; rfl) (by decide) rfl ?_
                  refine g_goto Γ 52 dX5_sheet_158 (by decide) ?_
                  refine g_lv [3, 4, 5, 6, 7, 8, 9, 10, 0] rfl ?_
                  refine g_ws (ws' := [(h_t, oR A_t d_t_many d_t_below d_t_above1 d_t_below1), (A_t 0, eI cI 242 v50), (A_t 1, eI cI 1452 d_t_before)]) [1, 2, 0] rfl rfl ?_
                  exact ih _ _ _ _ _ _ _ _ _ _ _ _ _ _ _ hf hk
                · have hf := ya_if1 c49 hf
                  refine g_iload Γ 0 dX5_sheet_135 rfl ?_
                  refine g_bipush (v := (-128)) Γ dX5_sheet_137 (by decide) ?_
                  refine g_icmp_ne Γ 147 dX5_sheet_139 (by decide) (fun c54 => ?_) (fun c54 => ?_)
                  · have hf := ya_if2 c54 hf
                    refine g_bipush (v := 10) Γ dX5_sheet_147 (by decide) ?_
                    refine g_iload Γ 0 dX5_sheet_149 rfl ?_
                    refine g_imul Γ dX5_sheet_151 ?_
                    obtain ⟨v55, e56, hf⟩ := ya_ob hf
                    refine g_vv (q := (RX5, TX5, 19)) (wr := [(A_t 1, eI cI 1452 d_t_before)]) (ws' := [(A_t 1, eI cI 1452 d_t_before), (h_t, oR A_t d_t_many d_t_below d_t_above1 d_t_below1), (A_t 0, eI cI 242 v55)]) Γ (fun sz => mX5_set (l := l) (D := D) (sz := sz) (cI := cI) (cJ := cJ) (cZ := cZ) (cW := cW) (cR := cR) (h_t := h_t) (A_t := A_t) (hf := e56)) eX5_set gX5_sheet_X5_set rfl rfl 0 rfl rfl rfl (Nat.le_of_ble_eq_true rfl) ⟨Nat.le_of_ble_eq_true rfl, Nat.le_of_ble_eq_true rfl⟩ dX5_sheet_152 [0, 1] [2] rfl rfl rfl rfl (by decide) rfl ?_
                    obtain ⟨v57, e58, hf⟩ := ya_lt_inv hf
                    refine g_iinc (lv' := [(8, .int v57), (10, .int v46), (9, .int y6), (0, .ref h_t), (1, .int y1), (2, .int y2), (3, .int y3), (4, .int y4), (5, .int y5), (6, .int y6), (7, .int y7)]) Γ 10 dX5_sheet_155 rfl (by rw [e58]; rfl) (by decide) rfl ?_
                    refine g_goto Γ 52 dX5_sheet_158 (by decide) ?_
                    refine g_lv [3, 4, 5, 6, 7, 8, 9, 10, 0] rfl ?_
                    refine g_ws (ws' := [(h_t, oR A_t d_t_many d_t_below d_t_above1 d_t_below1), (A_t 0, eI cI 242 v55), (A_t 1, eI cI 1452 d_t_before)]) [1, 2, 0] rfl rfl ?_
                    exact ih _ _ _ _ _ _ _ _ _ _ _ _ _ _ _ hf hk
                  · have hf := ya_if1 c54 hf
                    refine g_ldc (v := (-1000000)) Γ dX5_sheet_142 (by decide +kernel) ?_
                    refine g_goto Γ 152 dX5_sheet_144 (by decide) ?_
                    obtain ⟨v59, e60, hf⟩ := ya_ob hf
                    refine g_vv (q := (RX5, TX5, 19)) (wr := [(A_t 1, eI cI 1452 d_t_before)]) (ws' := [(A_t 1, eI cI 1452 d_t_before), (h_t, oR A_t d_t_many d_t_below d_t_above1 d_t_below1), (A_t 0, eI cI 242 v59)]) Γ (fun sz => mX5_set (l := l) (D := D) (sz := sz) (cI := cI) (cJ := cJ) (cZ := cZ) (cW := cW) (cR := cR) (h_t := h_t) (A_t := A_t) (hf := e60)) eX5_set gX5_sheet_X5_set rfl rfl 0 rfl rfl rfl (Nat.le_of_ble_eq_true rfl) ⟨Nat.le_of_ble_eq_true rfl, Nat.le_of_ble_eq_true rfl⟩ dX5_sheet_152 [0, 1] [2] rfl rfl rfl rfl (by decide) rfl ?_
                    obtain ⟨v61, e62, hf⟩ := ya_lt_inv hf
                    refine g_iinc (lv' := [(8, .int v61), (10, .int v46), (9, .int y6), (0, .ref h_t), (1, .int y1), (2, .int y2), (3, .int y3), (4, .int y4), (5, .int y5), (6, .int y6), (7, .int y7)]) Γ 10 dX5_sheet_155 rfl (by rw [e62]; rfl) (by decide) rfl ?_
                    refine g_goto Γ 52 dX5_sheet_158 (by decide) ?_
                    refine g_lv [3, 4, 5, 6, 7, 8, 9, 10, 0] rfl ?_
                    refine g_ws (ws' := [(h_t, oR A_t d_t_many d_t_below d_t_above1 d_t_below1), (A_t 0, eI cI 242 v59), (A_t 1, eI cI 1452 d_t_before)]) [1, 2, 0] rfl rfl ?_
                    exact ih _ _ _ _ _ _ _ _ _ _ _ _ _ _ _ hf hk
              · have hf := ya_if2 c48 hf
                refine g_iconst (v := 0) Γ dX5_sheet_126 (by decide) ?_
                refine g_goto Γ 152 dX5_sheet_127 (by decide) ?_
                obtain ⟨v63, e64, hf⟩ := ya_ob hf
                refine g_vv (q := (RX5, TX5, 19)) (wr := [(A_t 1, eI cI 1452 d_t_before)]) (ws' := [(A_t 1, eI cI 1452 d_t_before), (h_t, oR A_t d_t_many d_t_below d_t_above1 d_t_below1), (A_t 0, eI cI 242 v63)]) Γ (fun sz => mX5_set (l := l) (D := D) (sz := sz) (cI := cI) (cJ := cJ) (cZ := cZ) (cW := cW) (cR := cR) (h_t := h_t) (A_t := A_t) (hf := e64)) eX5_set gX5_sheet_X5_set rfl rfl 0 rfl rfl rfl (Nat.le_of_ble_eq_true rfl) ⟨Nat.le_of_ble_eq_true rfl, Nat.le_of_ble_eq_true rfl⟩ dX5_sheet_152 [0, 1] [2] rfl rfl rfl rfl (by decide) rfl ?_
                obtain ⟨v65, e66, hf⟩ := ya_lt_inv hf
                refine g_iinc (lv' := [(8, .int v65), (10, .int v46), (9, .int y6), (0, .ref h_t), (1, .int y1), (2, .int y2), (3, .int y3), (4, .int y4), (5, .int y5), (6, .int y6), (7, .int y7)]) Γ 10 dX5_sheet_155 rfl (by rw [e66]; rfl) (by decide) rfl ?_
                refine g_goto Γ 52 dX5_sheet_158 (by decide) ?_
                refine g_lv [3, 4, 5, 6, 7, 8, 9, 10, 0] rfl ?_
                refine g_ws (ws' := [(h_t, oR A_t d_t_many d_t_below d_t_above1 d_t_below1), (A_t 0, eI cI 242 v63), (A_t 1, eI cI 1452 d_t_before)]) [1, 2, 0] rfl rfl ?_
                exact ih _ _ _ _ _ _ _ _ _ _ _ _ _ _ _ hf hk
          · have hf := ya_if2 c19 hf
            refine g_iload Γ 5 dX5_sheet_77 rfl ?_
            refine g_goto Γ 96 dX5_sheet_79 (by decide) ?_
            refine g_istore (lv' := [(9, .int y5), (0, .ref h_t), (1, .int y1), (2, .int y2), (3, .int y3), (4, .int y4), (5, .int y5), (6, .int y6), (7, .int y7), (8, .int y8)]) Γ dX5_sheet_96 (by decide) rfl ?_
            refine g_iload Γ 0 dX5_sheet_98 rfl ?_
            refine g_bipush (v := 8) Γ dX5_sheet_100 (by decide) ?_
            refine g_iload Γ 9 dX5_sheet_102 rfl ?_
            refine g_iconst (v := 4) Γ dX5_sheet_104 (by decide) ?_
            obtain ⟨v67, e68, hf⟩ := ya_ob hf
            refine g_irem Γ e68 dX5_sheet_105 ?_
            refine g_imul Γ dX5_sheet_106 ?_
            refine g_ishl Γ dX5_sheet_107 ?_
            refine g_bipush (v := 24) Γ dX5_sheet_108 (by decide) ?_
            refine g_ishr Γ dX5_sheet_110 ?_
            obtain ⟨v69, e70, hf⟩ := ya_lt_inv hf
            refine g_nmi e70 ?_
            refine g_istore (lv' := [(10, .int v69), (9, .int y5), (0, .ref h_t), (1, .int y1), (2, .int y2), (3, .int y3), (4, .int y4), (5, .int y5), (6, .int y6), (7, .int y7), (8, .int y8)]) Γ dX5_sheet_111 (by decide) rfl ?_
            refine g_aload_n Γ 2 dX5_sheet_113 rfl ?_
            refine g_iload_n Γ 3 dX5_sheet_114 rfl ?_
            refine g_bipush (v := 8) Γ dX5_sheet_115 (by decide) ?_
            refine g_iload Γ 10 dX5_sheet_117 rfl ?_
            refine g_iadd Γ dX5_sheet_119 ?_
            refine g_iload Γ 10 dX5_sheet_120 rfl ?_
            refine g_iload_n Γ 5 dX5_sheet_122 rfl ?_
            refine g_icmp_lt Γ 130 dX5_sheet_123 (by decide) (fun c71 => ?_) (fun c71 => ?_)
            · have hf := ya_if1 c71 hf
              refine g_iload_n Γ 4 dX5_sheet_130 rfl ?_
              refine g_iconst (v := 3) Γ dX5_sheet_131 (by decide) ?_
              refine g_icmp_ne Γ 147 dX5_sheet_132 (by decide) (fun c72 => ?_) (fun c72 => ?_)
              · have hf := ya_if2 c72 hf
                refine g_bipush (v := 10) Γ dX5_sheet_147 (by decide) ?_
                refine g_iload Γ 0 dX5_sheet_149 rfl ?_
                refine g_imul Γ dX5_sheet_151 ?_
                obtain ⟨v73, e74, hf⟩ := ya_ob hf
                refine g_vv (q := (RX5, TX5, 19)) (wr := [(A_t 1, eI cI 1452 d_t_before)]) (ws' := [(A_t 1, eI cI 1452 d_t_before), (h_t, oR A_t d_t_many d_t_below d_t_above1 d_t_below1), (A_t 0, eI cI 242 v73)]) Γ (fun sz => mX5_set (l := l) (D := D) (sz := sz) (cI := cI) (cJ := cJ) (cZ := cZ) (cW := cW) (cR := cR) (h_t := h_t) (A_t := A_t) (hf := e74)) eX5_set gX5_sheet_X5_set rfl rfl 0 rfl rfl rfl (Nat.le_of_ble_eq_true rfl) ⟨Nat.le_of_ble_eq_true rfl, Nat.le_of_ble_eq_true rfl⟩ dX5_sheet_152 [0, 1] [2] rfl rfl rfl rfl (by decide) rfl ?_
                obtain ⟨v75, e76, hf⟩ := ya_lt_inv hf
                refine g_iinc (lv' := [(8, .int v75), (10, .int v69), (9, .int y5), (0, .ref h_t), (1, .int y1), (2, .int y2), (3, .int y3), (4, .int y4), (5, .int y5), (6, .int y6), (7, .int y7)]) Γ 10 dX5_sheet_155 rfl (by rw [e76]; rfl) (by decide) rfl ?_
                refine g_goto Γ 52 dX5_sheet_158 (by decide) ?_
                refine g_lv [3, 4, 5, 6, 7, 8, 9, 10, 0] rfl ?_
                refine g_ws (ws' := [(h_t, oR A_t d_t_many d_t_below d_t_above1 d_t_below1), (A_t 0, eI cI 242 v73), (A_t 1, eI cI 1452 d_t_before)]) [1, 2, 0] rfl rfl ?_
                exact ih _ _ _ _ _ _ _ _ _ _ _ _ _ _ _ hf hk
              · have hf := ya_if1 c72 hf
                refine g_iload Γ 0 dX5_sheet_135 rfl ?_
                refine g_bipush (v := (-128)) Γ dX5_sheet_137 (by decide) ?_
                refine g_icmp_ne Γ 147 dX5_sheet_139 (by decide) (fun c77 => ?_) (fun c77 => ?_)
                · have hf := ya_if2 c77 hf
                  refine g_bipush (v := 10) Γ dX5_sheet_147 (by decide) ?_
                  refine g_iload Γ 0 dX5_sheet_149 rfl ?_
                  refine g_imul Γ dX5_sheet_151 ?_
                  obtain ⟨v78, e79, hf⟩ := ya_ob hf
                  refine g_vv (q := (RX5, TX5, 19)) (wr := [(A_t 1, eI cI 1452 d_t_before)]) (ws' := [(A_t 1, eI cI 1452 d_t_before), (h_t, oR A_t d_t_many d_t_below d_t_above1 d_t_below1), (A_t 0, eI cI 242 v78)]) Γ (fun sz => mX5_set (l := l) (D := D) (sz := sz) (cI := cI) (cJ := cJ) (cZ := cZ) (cW := cW) (cR := cR) (h_t := h_t) (A_t := A_t) (hf := e79)) eX5_set gX5_sheet_X5_set rfl rfl 0 rfl rfl rfl (Nat.le_of_ble_eq_true rfl) ⟨Nat.le_of_ble_eq_true rfl, Nat.le_of_ble_eq_true rfl⟩ dX5_sheet_152 [0, 1] [2] rfl rfl rfl rfl (by decide) rfl ?_
                  obtain ⟨v80, e81, hf⟩ := ya_lt_inv hf
                  refine g_iinc (lv' := [(8, .int v80), (10, .int v69), (9, .int y5), (0, .ref h_t), (1, .int y1), (2, .int y2), (3, .int y3), (4, .int y4), (5, .int y5), (6, .int y6), (7, .int y7)]) Γ 10 dX5_sheet_155 rfl (by rw [e81]; rfl) (by decide) rfl ?_
                  refine g_goto Γ 52 dX5_sheet_158 (by decide) ?_
                  refine g_lv [3, 4, 5, 6, 7, 8, 9, 10, 0] rfl ?_
                  refine g_ws (ws' := [(h_t, oR A_t d_t_many d_t_below d_t_above1 d_t_below1), (A_t 0, eI cI 242 v78), (A_t 1, eI cI 1452 d_t_before)]) [1, 2, 0] rfl rfl ?_
                  exact ih _ _ _ _ _ _ _ _ _ _ _ _ _ _ _ hf hk
                · have hf := ya_if1 c77 hf
                  refine g_ldc (v := (-1000000)) Γ dX5_sheet_142 (by decide +kernel) ?_
                  refine g_goto Γ 152 dX5_sheet_144 (by decide) ?_
                  obtain ⟨v82, e83, hf⟩ := ya_ob hf
                  refine g_vv (q := (RX5, TX5, 19)) (wr := [(A_t 1, eI cI 1452 d_t_before)]) (ws' := [(A_t 1, eI cI 1452 d_t_before), (h_t, oR A_t d_t_many d_t_below d_t_above1 d_t_below1), (A_t 0, eI cI 242 v82)]) Γ (fun sz => mX5_set (l := l) (D := D) (sz := sz) (cI := cI) (cJ := cJ) (cZ := cZ) (cW := cW) (cR := cR) (h_t := h_t) (A_t := A_t) (hf := e83)) eX5_set gX5_sheet_X5_set rfl rfl 0 rfl rfl rfl (Nat.le_of_ble_eq_true rfl) ⟨Nat.le_of_ble_eq_true rfl, Nat.le_of_ble_eq_true rfl⟩ dX5_sheet_152 [0, 1] [2] rfl rfl rfl rfl (by decide) rfl ?_
                  obtain ⟨v84, e85, hf⟩ := ya_lt_inv hf
                  refine g_iinc (lv' := [(8, .int v84), (10, .int v69), (9, .int y5), (0, .ref h_t), (1, .int y1), (2, .int y2), (3, .int y3), (4, .int y4), (5, .int y5), (6, .int y6), (7, .int y7)]) Γ 10 dX5_sheet_155 rfl (by rw [e85]; rfl) (by decide) rfl ?_
                  refine g_goto Γ 52 dX5_sheet_158 (by decide) ?_
                  refine g_lv [3, 4, 5, 6, 7, 8, 9, 10, 0] rfl ?_
                  refine g_ws (ws' := [(h_t, oR A_t d_t_many d_t_below d_t_above1 d_t_below1), (A_t 0, eI cI 242 v82), (A_t 1, eI cI 1452 d_t_before)]) [1, 2, 0] rfl rfl ?_
                  exact ih _ _ _ _ _ _ _ _ _ _ _ _ _ _ _ hf hk
            · have hf := ya_if2 c71 hf
              refine g_iconst (v := 0) Γ dX5_sheet_126 (by decide) ?_
              refine g_goto Γ 152 dX5_sheet_127 (by decide) ?_
              obtain ⟨v86, e87, hf⟩ := ya_ob hf
              refine g_vv (q := (RX5, TX5, 19)) (wr := [(A_t 1, eI cI 1452 d_t_before)]) (ws' := [(A_t 1, eI cI 1452 d_t_before), (h_t, oR A_t d_t_many d_t_below d_t_above1 d_t_below1), (A_t 0, eI cI 242 v86)]) Γ (fun sz => mX5_set (l := l) (D := D) (sz := sz) (cI := cI) (cJ := cJ) (cZ := cZ) (cW := cW) (cR := cR) (h_t := h_t) (A_t := A_t) (hf := e87)) eX5_set gX5_sheet_X5_set rfl rfl 0 rfl rfl rfl (Nat.le_of_ble_eq_true rfl) ⟨Nat.le_of_ble_eq_true rfl, Nat.le_of_ble_eq_true rfl⟩ dX5_sheet_152 [0, 1] [2] rfl rfl rfl rfl (by decide) rfl ?_
              obtain ⟨v88, e89, hf⟩ := ya_lt_inv hf
              refine g_iinc (lv' := [(8, .int v88), (10, .int v69), (9, .int y5), (0, .ref h_t), (1, .int y1), (2, .int y2), (3, .int y3), (4, .int y4), (5, .int y5), (6, .int y6), (7, .int y7)]) Γ 10 dX5_sheet_155 rfl (by rw [e89]; rfl) (by decide) rfl ?_
              refine g_goto Γ 52 dX5_sheet_158 (by decide) ?_
              refine g_lv [3, 4, 5, 6, 7, 8, 9, 10, 0] rfl ?_
              refine g_ws (ws' := [(h_t, oR A_t d_t_many d_t_below d_t_above1 d_t_below1), (A_t 0, eI cI 242 v86), (A_t 1, eI cI 1452 d_t_before)]) [1, 2, 0] rfl rfl ?_
              exact ih _ _ _ _ _ _ _ _ _ _ _ _ _ _ _ hf hk
        · have hf := ya_if2 c18 hf
          refine g_iload Γ 4 dX5_sheet_65 rfl ?_
          refine g_goto Γ 96 dX5_sheet_67 (by decide) ?_
          refine g_istore (lv' := [(9, .int y4), (0, .ref h_t), (1, .int y1), (2, .int y2), (3, .int y3), (4, .int y4), (5, .int y5), (6, .int y6), (7, .int y7), (8, .int y8)]) Γ dX5_sheet_96 (by decide) rfl ?_
          refine g_iload Γ 0 dX5_sheet_98 rfl ?_
          refine g_bipush (v := 8) Γ dX5_sheet_100 (by decide) ?_
          refine g_iload Γ 9 dX5_sheet_102 rfl ?_
          refine g_iconst (v := 4) Γ dX5_sheet_104 (by decide) ?_
          obtain ⟨v90, e91, hf⟩ := ya_ob hf
          refine g_irem Γ e91 dX5_sheet_105 ?_
          refine g_imul Γ dX5_sheet_106 ?_
          refine g_ishl Γ dX5_sheet_107 ?_
          refine g_bipush (v := 24) Γ dX5_sheet_108 (by decide) ?_
          refine g_ishr Γ dX5_sheet_110 ?_
          obtain ⟨v92, e93, hf⟩ := ya_lt_inv hf
          refine g_nmi e93 ?_
          refine g_istore (lv' := [(10, .int v92), (9, .int y4), (0, .ref h_t), (1, .int y1), (2, .int y2), (3, .int y3), (4, .int y4), (5, .int y5), (6, .int y6), (7, .int y7), (8, .int y8)]) Γ dX5_sheet_111 (by decide) rfl ?_
          refine g_aload_n Γ 2 dX5_sheet_113 rfl ?_
          refine g_iload_n Γ 3 dX5_sheet_114 rfl ?_
          refine g_bipush (v := 8) Γ dX5_sheet_115 (by decide) ?_
          refine g_iload Γ 10 dX5_sheet_117 rfl ?_
          refine g_iadd Γ dX5_sheet_119 ?_
          refine g_iload Γ 10 dX5_sheet_120 rfl ?_
          refine g_iload_n Γ 5 dX5_sheet_122 rfl ?_
          refine g_icmp_lt Γ 130 dX5_sheet_123 (by decide) (fun c94 => ?_) (fun c94 => ?_)
          · have hf := ya_if1 c94 hf
            refine g_iload_n Γ 4 dX5_sheet_130 rfl ?_
            refine g_iconst (v := 3) Γ dX5_sheet_131 (by decide) ?_
            refine g_icmp_ne Γ 147 dX5_sheet_132 (by decide) (fun c95 => ?_) (fun c95 => ?_)
            · have hf := ya_if2 c95 hf
              refine g_bipush (v := 10) Γ dX5_sheet_147 (by decide) ?_
              refine g_iload Γ 0 dX5_sheet_149 rfl ?_
              refine g_imul Γ dX5_sheet_151 ?_
              obtain ⟨v96, e97, hf⟩ := ya_ob hf
              refine g_vv (q := (RX5, TX5, 19)) (wr := [(A_t 1, eI cI 1452 d_t_before)]) (ws' := [(A_t 1, eI cI 1452 d_t_before), (h_t, oR A_t d_t_many d_t_below d_t_above1 d_t_below1), (A_t 0, eI cI 242 v96)]) Γ (fun sz => mX5_set (l := l) (D := D) (sz := sz) (cI := cI) (cJ := cJ) (cZ := cZ) (cW := cW) (cR := cR) (h_t := h_t) (A_t := A_t) (hf := e97)) eX5_set gX5_sheet_X5_set rfl rfl 0 rfl rfl rfl (Nat.le_of_ble_eq_true rfl) ⟨Nat.le_of_ble_eq_true rfl, Nat.le_of_ble_eq_true rfl⟩ dX5_sheet_152 [0, 1] [2] rfl rfl rfl rfl (by decide) rfl ?_
              obtain ⟨v98, e99, hf⟩ := ya_lt_inv hf
              refine g_iinc (lv' := [(8, .int v98), (10, .int v92), (9, .int y4), (0, .ref h_t), (1, .int y1), (2, .int y2), (3, .int y3), (4, .int y4), (5, .int y5), (6, .int y6), (7, .int y7)]) Γ 10 dX5_sheet_155 rfl (by rw [e99]; rfl) (by decide) rfl ?_
              refine g_goto Γ 52 dX5_sheet_158 (by decide) ?_
              refine g_lv [3, 4, 5, 6, 7, 8, 9, 10, 0] rfl ?_
              refine g_ws (ws' := [(h_t, oR A_t d_t_many d_t_below d_t_above1 d_t_below1), (A_t 0, eI cI 242 v96), (A_t 1, eI cI 1452 d_t_before)]) [1, 2, 0] rfl rfl ?_
              exact ih _ _ _ _ _ _ _ _ _ _ _ _ _ _ _ hf hk
            · have hf := ya_if1 c95 hf
              refine g_iload Γ 0 dX5_sheet_135 rfl ?_
              refine g_bipush (v := (-128)) Γ dX5_sheet_137 (by decide) ?_
              refine g_icmp_ne Γ 147 dX5_sheet_139 (by decide) (fun c100 => ?_) (fun c100 => ?_)
              · have hf := ya_if2 c100 hf
                refine g_bipush (v := 10) Γ dX5_sheet_147 (by decide) ?_
                refine g_iload Γ 0 dX5_sheet_149 rfl ?_
                refine g_imul Γ dX5_sheet_151 ?_
                obtain ⟨v101, e102, hf⟩ := ya_ob hf
                refine g_vv (q := (RX5, TX5, 19)) (wr := [(A_t 1, eI cI 1452 d_t_before)]) (ws' := [(A_t 1, eI cI 1452 d_t_before), (h_t, oR A_t d_t_many d_t_below d_t_above1 d_t_below1), (A_t 0, eI cI 242 v101)]) Γ (fun sz => mX5_set (l := l) (D := D) (sz := sz) (cI := cI) (cJ := cJ) (cZ := cZ) (cW := cW) (cR := cR) (h_t := h_t) (A_t := A_t) (hf := e102)) eX5_set gX5_sheet_X5_set rfl rfl 0 rfl rfl rfl (Nat.le_of_ble_eq_true rfl) ⟨Nat.le_of_ble_eq_true rfl, Nat.le_of_ble_eq_true rfl⟩ dX5_sheet_152 [0, 1] [2] rfl rfl rfl rfl (by decide) rfl ?_
                obtain ⟨v103, e104, hf⟩ := ya_lt_inv hf
                refine g_iinc (lv' := [(8, .int v103), (10, .int v92), (9, .int y4), (0, .ref h_t), (1, .int y1), (2, .int y2), (3, .int y3), (4, .int y4), (5, .int y5), (6, .int y6), (7, .int y7)]) Γ 10 dX5_sheet_155 rfl (by rw [e104]; rfl) (by decide) rfl ?_
                refine g_goto Γ 52 dX5_sheet_158 (by decide) ?_
                refine g_lv [3, 4, 5, 6, 7, 8, 9, 10, 0] rfl ?_
                refine g_ws (ws' := [(h_t, oR A_t d_t_many d_t_below d_t_above1 d_t_below1), (A_t 0, eI cI 242 v101), (A_t 1, eI cI 1452 d_t_before)]) [1, 2, 0] rfl rfl ?_
                exact ih _ _ _ _ _ _ _ _ _ _ _ _ _ _ _ hf hk
              · have hf := ya_if1 c100 hf
                refine g_ldc (v := (-1000000)) Γ dX5_sheet_142 (by decide +kernel) ?_
                refine g_goto Γ 152 dX5_sheet_144 (by decide) ?_
                obtain ⟨v105, e106, hf⟩ := ya_ob hf
                refine g_vv (q := (RX5, TX5, 19)) (wr := [(A_t 1, eI cI 1452 d_t_before)]) (ws' := [(A_t 1, eI cI 1452 d_t_before), (h_t, oR A_t d_t_many d_t_below d_t_above1 d_t_below1), (A_t 0, eI cI 242 v105)]) Γ (fun sz => mX5_set (l := l) (D := D) (sz := sz) (cI := cI) (cJ := cJ) (cZ := cZ) (cW := cW) (cR := cR) (h_t := h_t) (A_t := A_t) (hf := e106)) eX5_set gX5_sheet_X5_set rfl rfl 0 rfl rfl rfl (Nat.le_of_ble_eq_true rfl) ⟨Nat.le_of_ble_eq_true rfl, Nat.le_of_ble_eq_true rfl⟩ dX5_sheet_152 [0, 1] [2] rfl rfl rfl rfl (by decide) rfl ?_
                obtain ⟨v107, e108, hf⟩ := ya_lt_inv hf
                refine g_iinc (lv' := [(8, .int v107), (10, .int v92), (9, .int y4), (0, .ref h_t), (1, .int y1), (2, .int y2), (3, .int y3), (4, .int y4), (5, .int y5), (6, .int y6), (7, .int y7)]) Γ 10 dX5_sheet_155 rfl (by rw [e108]; rfl) (by decide) rfl ?_
                refine g_goto Γ 52 dX5_sheet_158 (by decide) ?_
                refine g_lv [3, 4, 5, 6, 7, 8, 9, 10, 0] rfl ?_
                refine g_ws (ws' := [(h_t, oR A_t d_t_many d_t_below d_t_above1 d_t_below1), (A_t 0, eI cI 242 v105), (A_t 1, eI cI 1452 d_t_before)]) [1, 2, 0] rfl rfl ?_
                exact ih _ _ _ _ _ _ _ _ _ _ _ _ _ _ _ hf hk
          · have hf := ya_if2 c94 hf
            refine g_iconst (v := 0) Γ dX5_sheet_126 (by decide) ?_
            refine g_goto Γ 152 dX5_sheet_127 (by decide) ?_
            obtain ⟨v109, e110, hf⟩ := ya_ob hf
            refine g_vv (q := (RX5, TX5, 19)) (wr := [(A_t 1, eI cI 1452 d_t_before)]) (ws' := [(A_t 1, eI cI 1452 d_t_before), (h_t, oR A_t d_t_many d_t_below d_t_above1 d_t_below1), (A_t 0, eI cI 242 v109)]) Γ (fun sz => mX5_set (l := l) (D := D) (sz := sz) (cI := cI) (cJ := cJ) (cZ := cZ) (cW := cW) (cR := cR) (h_t := h_t) (A_t := A_t) (hf := e110)) eX5_set gX5_sheet_X5_set rfl rfl 0 rfl rfl rfl (Nat.le_of_ble_eq_true rfl) ⟨Nat.le_of_ble_eq_true rfl, Nat.le_of_ble_eq_true rfl⟩ dX5_sheet_152 [0, 1] [2] rfl rfl rfl rfl (by decide) rfl ?_
            obtain ⟨v111, e112, hf⟩ := ya_lt_inv hf
            refine g_iinc (lv' := [(8, .int v111), (10, .int v92), (9, .int y4), (0, .ref h_t), (1, .int y1), (2, .int y2), (3, .int y3), (4, .int y4), (5, .int y5), (6, .int y6), (7, .int y7)]) Γ 10 dX5_sheet_155 rfl (by rw [e112]; rfl) (by decide) rfl ?_
            refine g_goto Γ 52 dX5_sheet_158 (by decide) ?_
            refine g_lv [3, 4, 5, 6, 7, 8, 9, 10, 0] rfl ?_
            refine g_ws (ws' := [(h_t, oR A_t d_t_many d_t_below d_t_above1 d_t_below1), (A_t 0, eI cI 242 v109), (A_t 1, eI cI 1452 d_t_before)]) [1, 2, 0] rfl rfl ?_
            exact ih _ _ _ _ _ _ _ _ _ _ _ _ _ _ _ hf hk
  show yG p l e (headSpec wsX5_sheet rmX5_sheet).room s m (List.toArray [.ref h_t, .int x1, .int x2, .int x3, .int x4, .int x5, .int x6, .int x7]) below meth c D (va_A [(h_t, oR A_t c_t_many c_t_below c_t_above1 c_t_below1), (A_t 0, eI cI 242 c_t_now), (A_t 1, eI cI 1452 c_t_before)] sz) 11 0 0 (MQ below (yQi D (yT cI cJ cZ cW cR) r [(h_t, oR A_t zc_t_many c_t_below c_t_above1 c_t_below1), (A_t 0, eI cI 242 zc_t_now), (A_t 1, eI cI 1452 zc_t_before)] (va_A [(h_t, oR A_t c_t_many c_t_below c_t_above1 c_t_below1), (A_t 0, eI cI 242 c_t_now), (A_t 1, eI cI 1452 c_t_before)] sz)) (List.toArray [.ref h_t, .int x1, .int x2, .int x3, .int x4, .int x5, .int x6, .int x7]) s 0 0 (va_A [(h_t, oR A_t c_t_many c_t_below c_t_above1 c_t_below1), (A_t 0, eI cI 242 c_t_now), (A_t 1, eI cI 1452 c_t_before)] sz)) 0 [(0, .ref h_t), (1, .int x1), (2, .int x2), (3, .int x3), (4, .int x4), (5, .int x5), (6, .int x6), (7, .int x7)] [] [(h_t, oR A_t c_t_many c_t_below c_t_above1 c_t_below1), (A_t 0, eI cI 242 c_t_now), (A_t 1, eI cI 1452 c_t_before)]
  unfold fX5_sheet at hf
  refine g_aload_n Γ 0 dX5_sheet_0 rfl ?_
  refine g_iload_n Γ 1 dX5_sheet_1 rfl ?_
  obtain ⟨v1, e2, hf⟩ := ya_ob hf
  refine g_vi (q := (RX5, TX5, 19)) (wr := [(A_t 1, eI cI 1452 c_t_before)]) (ws' := [(A_t 1, eI cI 1452 c_t_before), (h_t, oR A_t c_t_many c_t_below c_t_above1 c_t_below1), (A_t 0, eI cI 242 c_t_now)]) Γ (fun sz => mX5_isFlow (l := l) (D := D) (sz := sz) (cI := cI) (cJ := cJ) (cZ := cZ) (cW := cW) (cR := cR) (h_t := h_t) (A_t := A_t) (hf := e2)) eX5_isFlow gX5_sheet_X5_isFlow rfl rfl 0 rfl rfl rfl (Nat.le_of_ble_eq_true rfl) ⟨Nat.le_of_ble_eq_true rfl, Nat.le_of_ble_eq_true rfl⟩ dX5_sheet_2 [0, 1] [2] rfl rfl rfl rfl (by decide) rfl ?_
  refine g_if_eq Γ 27 dX5_sheet_5 (by decide) (fun c3 => ?_) (fun c3 => ?_)
  · have hf := ya_if1 c3 hf
    refine g_iconst (v := (-1)) Γ dX5_sheet_27 (by decide) ?_
    cases hf
    exact g_iret Γ hr dX5_sheet_28 [1, 2, 0] rfl rfl
  · have hf := ya_if2 c3 hf
    refine g_iload_n Γ 2 dX5_sheet_8 rfl ?_
    refine g_iconst (v := 0) Γ dX5_sheet_9 (by decide) ?_
    refine g_iconst (v := 3) Γ dX5_sheet_10 (by decide) ?_
    obtain ⟨v4, e5, hf⟩ := ya_ob hf
    refine g_si (wr := [(A_t 1, eI cI 1452 c_t_before), (h_t, oR A_t c_t_many c_t_below c_t_above1 c_t_below1), (A_t 0, eI cI 242 c_t_now)]) (ws' := [(A_t 1, eI cI 1452 c_t_before), (h_t, oR A_t c_t_many c_t_below c_t_above1 c_t_below1), (A_t 0, eI cI 242 c_t_now)]) Γ (fun sz => mX5_isIn (l := l) (D := D) (sz := sz) (cI := cI) (cJ := cJ) (cZ := cZ) (cW := cW) (cR := cR)  (hf := e5)) eX5_isIn ggX5_sheet_X5_isIn (by decide +kernel) (by decide +kernel) (by decide +kernel) rfl rfl (Nat.le_of_ble_eq_true rfl) ⟨Nat.le_of_ble_eq_true rfl, Nat.le_of_ble_eq_true rfl⟩ dX5_sheet_11 [] [0, 1, 2] rfl rfl rfl rfl (by decide) rfl ?_
    refine g_if_eq Γ 27 dX5_sheet_14 (by decide) (fun c6 => ?_) (fun c6 => ?_)
    · have hf := ya_if1 c6 hf
      refine g_iconst (v := (-1)) Γ dX5_sheet_27 (by decide) ?_
      cases hf
      exact g_iret Γ hr dX5_sheet_28 [1, 2, 0] rfl rfl
    · have hf := ya_if2 c6 hf
      refine g_iload_n Γ 3 dX5_sheet_17 rfl ?_
      refine g_iconst (v := 0) Γ dX5_sheet_18 (by decide) ?_
      refine g_bipush (v := 16) Γ dX5_sheet_19 (by decide) ?_
      obtain ⟨v7, e8, hf⟩ := ya_ob hf
      refine g_si (wr := [(A_t 1, eI cI 1452 c_t_before), (h_t, oR A_t c_t_many c_t_below c_t_above1 c_t_below1), (A_t 0, eI cI 242 c_t_now)]) (ws' := [(A_t 1, eI cI 1452 c_t_before), (h_t, oR A_t c_t_many c_t_below c_t_above1 c_t_below1), (A_t 0, eI cI 242 c_t_now)]) Γ (fun sz => mX5_isIn (l := l) (D := D) (sz := sz) (cI := cI) (cJ := cJ) (cZ := cZ) (cW := cW) (cR := cR)  (hf := e8)) eX5_isIn ggX5_sheet_X5_isIn (by decide +kernel) (by decide +kernel) (by decide +kernel) rfl rfl (Nat.le_of_ble_eq_true rfl) ⟨Nat.le_of_ble_eq_true rfl, Nat.le_of_ble_eq_true rfl⟩ dX5_sheet_21 [] [0, 1, 2] rfl rfl rfl rfl (by decide) rfl ?_
      refine g_if_ne Γ 29 dX5_sheet_24 (by decide) (fun c9 => ?_) (fun c9 => ?_)
      · have hf := ya_if2 c9 hf
        refine g_aload_n Γ 0 dX5_sheet_29 rfl ?_
        obtain ⟨⟨v10, v11⟩, e12, hf⟩ := ya_ob hf
        refine g_vv (q := (RX5, TX5, 19)) (wr := []) (ws' := [(h_t, oR A_t v10 c_t_below c_t_above1 c_t_below1), (A_t 0, eI cI 242 c_t_now), (A_t 1, eI cI 1452 v11)]) Γ (fun sz => mX5_keep (l := l) (D := D) (sz := sz) (cI := cI) (cJ := cJ) (cZ := cZ) (cW := cW) (cR := cR) (h_t := h_t) (A_t := A_t) (hf := e12)) eX5_keep gX5_sheet_X5_keep rfl rfl 0 rfl rfl rfl (Nat.le_of_ble_eq_true rfl) ⟨Nat.le_of_ble_eq_true rfl, Nat.le_of_ble_eq_true rfl⟩ dX5_sheet_30 [1, 2, 0] [] rfl rfl rfl rfl (by decide) rfl ?_
        refine g_aload_n Γ 0 dX5_sheet_33 rfl ?_
        refine g_iload_n Γ 1 dX5_sheet_34 rfl ?_
        refine g_bipush (v := 6) Γ dX5_sheet_35 (by decide) ?_
        refine g_iload_n Γ 2 dX5_sheet_37 rfl ?_
        obtain ⟨v13, e14, hf⟩ := ya_ob hf
        refine g_vv (q := (RX5, TX5, 19)) (wr := [(A_t 1, eI cI 1452 v11)]) (ws' := [(A_t 1, eI cI 1452 v11), (h_t, oR A_t v10 c_t_below c_t_above1 c_t_below1), (A_t 0, eI cI 242 v13)]) Γ (fun sz => mX5_set (l := l) (D := D) (sz := sz) (cI := cI) (cJ := cJ) (cZ := cZ) (cW := cW) (cR := cR) (h_t := h_t) (A_t := A_t) (hf := e14)) eX5_set gX5_sheet_X5_set rfl rfl 0 rfl rfl rfl (Nat.le_of_ble_eq_true rfl) ⟨Nat.le_of_ble_eq_true rfl, Nat.le_of_ble_eq_true rfl⟩ dX5_sheet_38 [0, 1] [2] rfl rfl rfl rfl (by decide) rfl ?_
        refine g_aload_n Γ 0 dX5_sheet_41 rfl ?_
        refine g_iload_n Γ 1 dX5_sheet_42 rfl ?_
        refine g_bipush (v := 7) Γ dX5_sheet_43 (by decide) ?_
        refine g_iload_n Γ 3 dX5_sheet_45 rfl ?_
        obtain ⟨v15, e16, hf⟩ := ya_ob hf
        refine g_vv (q := (RX5, TX5, 19)) (wr := [(A_t 1, eI cI 1452 v11)]) (ws' := [(A_t 1, eI cI 1452 v11), (h_t, oR A_t v10 c_t_below c_t_above1 c_t_below1), (A_t 0, eI cI 242 v15)]) Γ (fun sz => mX5_set (l := l) (D := D) (sz := sz) (cI := cI) (cJ := cJ) (cZ := cZ) (cW := cW) (cR := cR) (h_t := h_t) (A_t := A_t) (hf := e16)) eX5_set gX5_sheet_X5_set rfl rfl 0 rfl rfl rfl (Nat.le_of_ble_eq_true rfl) ⟨Nat.le_of_ble_eq_true rfl, Nat.le_of_ble_eq_true rfl⟩ dX5_sheet_46 [1, 2] [0] rfl rfl rfl rfl (by decide) rfl ?_
        refine g_iconst (v := 0) Γ dX5_sheet_49 (by decide) ?_
        refine g_istore (lv' := [(8, .int 0), (0, .ref h_t), (1, .int x1), (2, .int x2), (3, .int x3), (4, .int x4), (5, .int x5), (6, .int x6), (7, .int x7)]) Γ dX5_sheet_50 (by decide) rfl ?_
        obtain ⟨v113, e114, hf⟩ := ya_ob hf
        refine g_lv [1, 2, 3, 4, 5, 6, 7, 8, 0] rfl ?_
        refine g_ws (ws' := [(h_t, oR A_t v10 c_t_below c_t_above1 c_t_below1), (A_t 0, eI cI 242 v15), (A_t 1, eI cI 1452 v11)]) [1, 2, 0] rfl rfl ?_
        refine loop52 N _ _ _ _ _ _ _ _ _ _ _ _ _ _ _ e114  ?_
        refine g_iload_n Γ 0 dX5_sheet_161 rfl ?_
        cases hf
        exact g_iret Γ hr dX5_sheet_162 [0, 1, 2] rfl rfl
      · have hf := ya_if1 c9 hf
        refine g_iconst (v := (-1)) Γ dX5_sheet_27 (by decide) ?_
        cases hf
        exact g_iret Γ hr dX5_sheet_28 [1, 2, 0] rfl rfl

set_option maxRecDepth 20000 in
theorem ggX5_lose_X5_isFlow : GoodIn wsX5_lose wsX5_isFlow := goodIn_r _ [5, 6, 7, 8, 4, 9, 10, 11, 12, 13, 28, 29, 30, 31, 32, 33, 34, 35, 36, 37, 38, 39, 40, 41, 42, 43, 44, 45, 46] (by decide +kernel) (by decide +kernel)
set_option maxRecDepth 20000 in
theorem gX5_lose_X5_isFlow : GoodIn wsX5_lose (wsV RX5 83 RX5 yX5_isFlow wsX5_isFlow) := goodIn_app (goodIn_of _ (by decide +kernel)) ggX5_lose_X5_isFlow
set_option maxRecDepth 20000 in
theorem ggX5_lose_X5_get : GoodIn wsX5_lose wsX5_get := goodIn_r _ [17, 10, 28, 29, 30, 31, 32, 33, 34, 35, 36, 37, 38, 39, 40, 41, 42, 43, 44, 45, 46] (by decide +kernel) (by decide +kernel)
set_option maxRecDepth 20000 in
theorem gX5_lose_X5_get : GoodIn wsX5_lose (wsV RX5 86 RX5 yX5_get wsX5_get) := goodIn_app (goodIn_of _ (by decide +kernel)) ggX5_lose_X5_get
set_option maxRecDepth 20000 in
theorem ggX5_lose_X5_keep : GoodIn wsX5_lose wsX5_keep := goodIn_r _ [21, 22, 23, 10, 28, 29, 30, 31, 32, 33, 34, 35, 36, 37, 38, 39, 40, 41, 42, 43, 44, 45, 46] (by decide +kernel) (by decide +kernel)
set_option maxRecDepth 20000 in
theorem gX5_lose_X5_keep : GoodIn wsX5_lose (wsV RX5 72 RX5 yX5_keep wsX5_keep) := goodIn_app (goodIn_of _ (by decide +kernel)) ggX5_lose_X5_keep
set_option maxRecDepth 20000 in
theorem ggX5_lose_X5_set : GoodIn wsX5_lose wsX5_set := goodIn_r _ [27, 10, 28, 29, 30, 31, 32, 33, 34, 35, 36, 37, 38, 39, 40, 41, 42, 43, 44, 45, 46] (by decide +kernel) (by decide +kernel)
set_option maxRecDepth 20000 in
theorem gX5_lose_X5_set : GoodIn wsX5_lose (wsV RX5 79 RX5 yX5_set wsX5_set) := goodIn_app (goodIn_of _ (by decide +kernel)) ggX5_lose_X5_set
theorem dX5_lose_0 : decode cX5_lose 0 = .ok (.aload_n 0, 1) := by decide +kernel
theorem dX5_lose_1 : decode cX5_lose 1 = .ok (.iload_n 1, 1) := by decide +kernel
theorem dX5_lose_2 : decode cX5_lose 2 = .ok (.invokevirtual 83, 3) := by decide +kernel
theorem dX5_lose_5 : decode cX5_lose 5 = .ok (.ifCond .eq 14, 3) := by decide +kernel
theorem dX5_lose_8 : decode cX5_lose 8 = .ok (.aload_n 0, 1) := by decide +kernel
theorem dX5_lose_9 : decode cX5_lose 9 = .ok (.iload_n 1, 1) := by decide +kernel
theorem dX5_lose_10 : decode cX5_lose 10 = .ok (.bipush 6, 2) := by decide +kernel
theorem dX5_lose_12 : decode cX5_lose 12 = .ok (.invokevirtual 86, 3) := by decide +kernel
theorem dX5_lose_15 : decode cX5_lose 15 = .ok (.iconst (-1), 1) := by decide +kernel
theorem dX5_lose_16 : decode cX5_lose 16 = .ok (.if_icmp .ne 5, 3) := by decide +kernel
theorem dX5_lose_19 : decode cX5_lose 19 = .ok (.iconst 0, 1) := by decide +kernel
theorem dX5_lose_20 : decode cX5_lose 20 = .ok (.ireturn, 1) := by decide +kernel
theorem dX5_lose_21 : decode cX5_lose 21 = .ok (.aload_n 0, 1) := by decide +kernel
theorem dX5_lose_22 : decode cX5_lose 22 = .ok (.invokevirtual 72, 3) := by decide +kernel
theorem dX5_lose_25 : decode cX5_lose 25 = .ok (.aload_n 0, 1) := by decide +kernel
theorem dX5_lose_26 : decode cX5_lose 26 = .ok (.iload_n 1, 1) := by decide +kernel
theorem dX5_lose_27 : decode cX5_lose 27 = .ok (.bipush 6, 2) := by decide +kernel
theorem dX5_lose_29 : decode cX5_lose 29 = .ok (.iconst (-1), 1) := by decide +kernel
theorem dX5_lose_30 : decode cX5_lose 30 = .ok (.invokevirtual 79, 3) := by decide +kernel
theorem dX5_lose_33 : decode cX5_lose 33 = .ok (.aload_n 0, 1) := by decide +kernel
theorem dX5_lose_34 : decode cX5_lose 34 = .ok (.iload_n 1, 1) := by decide +kernel
theorem dX5_lose_35 : decode cX5_lose 35 = .ok (.bipush 7, 2) := by decide +kernel
theorem dX5_lose_37 : decode cX5_lose 37 = .ok (.iconst 0, 1) := by decide +kernel
theorem dX5_lose_38 : decode cX5_lose 38 = .ok (.invokevirtual 79, 3) := by decide +kernel
theorem dX5_lose_41 : decode cX5_lose 41 = .ok (.iconst 1, 1) := by decide +kernel
theorem dX5_lose_42 : decode cX5_lose 42 = .ok (.ireturn, 1) := by decide +kernel
/-! ===== FlowMetersModel.lose(I)Z ===== -/
def fX5_lose (N : Nat) (c_t_many : Int32) (c_t_now : Nat → Int32) (c_t_before : Nat → Int32) (x1 : Int32) : Option (Int32 × Int32 × (Nat → Int32) × (Nat → Int32)) :=
  (fX5_isFlow c_t_now x1).bind fun v1 =>
  (if v1 = 0 then
    some (0, c_t_many, c_t_now, c_t_before)
  else
    (fX5_get c_t_now x1 6).bind fun v4 =>
    (if v4 = (-1) then
      some (0, c_t_many, c_t_now, c_t_before)
    else
      (fX5_keep N c_t_many c_t_now c_t_before).bind fun (v7, v8) =>
      (fX5_set c_t_now x1 6 (-1)).bind fun v10 =>
      (fX5_set v10 x1 7 0).bind fun v12 =>
      some (1, v7, v12, v8)))
abbrev rmX5_lose : Room := { frames := 2, cells := 0, slots := 0, locals := 43 }
theorem eX5_lose : yY yX5_lose wsX5_lose cX5_lose 2 (some .boolean) rmX5_lose 1 := ⟨⟨_, rfl⟩, rfl, rfl, by decide, by decide, by decide +kernel⟩
set_option maxHeartbeats 4000000 in
set_option maxRecDepth 100000 in
theorem mX5_lose {l : Launch} {D : va_G} {sz : Nat} {cI cJ cZ cW cR : ClassId} {N : Nat} {h_t : Nat} {A_t : Nat → Nat} {c_t_many : Int32} {c_t_below : Int64} {c_t_above1 : Int64} {c_t_below1 : Int64} {c_t_now : Nat → Int32} {c_t_before : Nat → Int32} {x1 : Int32} {r : Int32} {zc_t_many : Int32} {zc_t_now : Nat → Int32} {zc_t_before : Nat → Int32} (hf : fX5_lose N c_t_many c_t_now c_t_before x1 = some (r, zc_t_many, zc_t_now, zc_t_before)) : Met l yX5_lose wsX5_lose rmX5_lose (yP D (yT cI cJ cZ cW cR) [(h_t, oR A_t c_t_many c_t_below c_t_above1 c_t_below1), (A_t 0, eI cI 242 c_t_now), (A_t 1, eI cI 1452 c_t_before)] sz [.ref h_t, .int x1]) (yQi D (yT cI cJ cZ cW cR) r [(h_t, oR A_t zc_t_many c_t_below c_t_above1 c_t_below1), (A_t 0, eI cI 242 zc_t_now), (A_t 1, eI cI 1452 zc_t_before)] (va_A [(h_t, oR A_t c_t_many c_t_below c_t_above1 c_t_below1), (A_t 0, eI cI 242 c_t_now), (A_t 1, eI cI 1452 c_t_before)] sz)) 0 0 (va_A [(h_t, oR A_t c_t_many c_t_below c_t_above1 c_t_below1), (A_t 0, eI cI 242 c_t_now), (A_t 1, eI cI 1452 c_t_before)] sz) := by
  refine yM (cc := cX5_lose) (maxL := 2) (ret := (some .boolean)) RX5 (by decide) rfl rfl (Nat.le_of_ble_eq_true rfl) ?_
  intro p e s m below meth c Γ hr
  show yG p l e (headSpec wsX5_lose rmX5_lose).room s m (List.toArray [.ref h_t, .int x1]) below meth c D (va_A [(h_t, oR A_t c_t_many c_t_below c_t_above1 c_t_below1), (A_t 0, eI cI 242 c_t_now), (A_t 1, eI cI 1452 c_t_before)] sz) 2 0 0 (MQ below (yQi D (yT cI cJ cZ cW cR) r [(h_t, oR A_t zc_t_many c_t_below c_t_above1 c_t_below1), (A_t 0, eI cI 242 zc_t_now), (A_t 1, eI cI 1452 zc_t_before)] (va_A [(h_t, oR A_t c_t_many c_t_below c_t_above1 c_t_below1), (A_t 0, eI cI 242 c_t_now), (A_t 1, eI cI 1452 c_t_before)] sz)) (List.toArray [.ref h_t, .int x1]) s 0 0 (va_A [(h_t, oR A_t c_t_many c_t_below c_t_above1 c_t_below1), (A_t 0, eI cI 242 c_t_now), (A_t 1, eI cI 1452 c_t_before)] sz)) 0 [(0, .ref h_t), (1, .int x1)] [] [(h_t, oR A_t c_t_many c_t_below c_t_above1 c_t_below1), (A_t 0, eI cI 242 c_t_now), (A_t 1, eI cI 1452 c_t_before)]
  unfold fX5_lose at hf
  refine g_aload_n Γ 0 dX5_lose_0 rfl ?_
  refine g_iload_n Γ 1 dX5_lose_1 rfl ?_
  obtain ⟨v1, e2, hf⟩ := ya_ob hf
  refine g_vi (q := (RX5, TX5, 19)) (wr := [(A_t 1, eI cI 1452 c_t_before)]) (ws' := [(A_t 1, eI cI 1452 c_t_before), (h_t, oR A_t c_t_many c_t_below c_t_above1 c_t_below1), (A_t 0, eI cI 242 c_t_now)]) Γ (fun sz => mX5_isFlow (l := l) (D := D) (sz := sz) (cI := cI) (cJ := cJ) (cZ := cZ) (cW := cW) (cR := cR) (h_t := h_t) (A_t := A_t) (hf := e2)) eX5_isFlow gX5_lose_X5_isFlow rfl rfl 0 rfl rfl rfl (Nat.le_of_ble_eq_true rfl) ⟨Nat.le_of_ble_eq_true rfl, Nat.le_of_ble_eq_true rfl⟩ dX5_lose_2 [0, 1] [2] rfl rfl rfl rfl (by decide) rfl ?_
  refine g_if_eq Γ 19 dX5_lose_5 (by decide) (fun c3 => ?_) (fun c3 => ?_)
  · have hf := ya_if1 c3 hf
    refine g_iconst (v := 0) Γ dX5_lose_19 (by decide) ?_
    cases hf
    exact g_zret Γ hr (show ya_bo 0 = some 0 from rfl) dX5_lose_20 [1, 2, 0] rfl rfl
  · have hf := ya_if2 c3 hf
    refine g_aload_n Γ 0 dX5_lose_8 rfl ?_
    refine g_iload_n Γ 1 dX5_lose_9 rfl ?_
    refine g_bipush (v := 6) Γ dX5_lose_10 (by decide) ?_
    obtain ⟨v4, e5, hf⟩ := ya_ob hf
    refine g_vi (q := (RX5, TX5, 19)) (wr := [(A_t 1, eI cI 1452 c_t_before)]) (ws' := [(A_t 1, eI cI 1452 c_t_before), (h_t, oR A_t c_t_many c_t_below c_t_above1 c_t_below1), (A_t 0, eI cI 242 c_t_now)]) Γ (fun sz => mX5_get (l := l) (D := D) (sz := sz) (cI := cI) (cJ := cJ) (cZ := cZ) (cW := cW) (cR := cR) (h_t := h_t) (A_t := A_t) (hf := e5)) eX5_get gX5_lose_X5_get rfl rfl 0 rfl rfl rfl (Nat.le_of_ble_eq_true rfl) ⟨Nat.le_of_ble_eq_true rfl, Nat.le_of_ble_eq_true rfl⟩ dX5_lose_12 [1, 2] [0] rfl rfl rfl rfl (by decide) rfl ?_
    refine g_iconst (v := (-1)) Γ dX5_lose_15 (by decide) ?_
    refine g_icmp_ne Γ 21 dX5_lose_16 (by decide) (fun c6 => ?_) (fun c6 => ?_)
    · have hf := ya_if2 c6 hf
      refine g_aload_n Γ 0 dX5_lose_21 rfl ?_
      obtain ⟨⟨v7, v8⟩, e9, hf⟩ := ya_ob hf
      refine g_vv (q := (RX5, TX5, 19)) (wr := []) (ws' := [(h_t, oR A_t v7 c_t_below c_t_above1 c_t_below1), (A_t 0, eI cI 242 c_t_now), (A_t 1, eI cI 1452 v8)]) Γ (fun sz => mX5_keep (l := l) (D := D) (sz := sz) (cI := cI) (cJ := cJ) (cZ := cZ) (cW := cW) (cR := cR) (h_t := h_t) (A_t := A_t) (hf := e9)) eX5_keep gX5_lose_X5_keep rfl rfl 0 rfl rfl rfl (Nat.le_of_ble_eq_true rfl) ⟨Nat.le_of_ble_eq_true rfl, Nat.le_of_ble_eq_true rfl⟩ dX5_lose_22 [1, 2, 0] [] rfl rfl rfl rfl (by decide) rfl ?_
      refine g_aload_n Γ 0 dX5_lose_25 rfl ?_
      refine g_iload_n Γ 1 dX5_lose_26 rfl ?_
      refine g_bipush (v := 6) Γ dX5_lose_27 (by decide) ?_
      refine g_iconst (v := (-1)) Γ dX5_lose_29 (by decide) ?_
      obtain ⟨v10, e11, hf⟩ := ya_ob hf
      refine g_vv (q := (RX5, TX5, 19)) (wr := [(A_t 1, eI cI 1452 v8)]) (ws' := [(A_t 1, eI cI 1452 v8), (h_t, oR A_t v7 c_t_below c_t_above1 c_t_below1), (A_t 0, eI cI 242 v10)]) Γ (fun sz => mX5_set (l := l) (D := D) (sz := sz) (cI := cI) (cJ := cJ) (cZ := cZ) (cW := cW) (cR := cR) (h_t := h_t) (A_t := A_t) (hf := e11)) eX5_set gX5_lose_X5_set rfl rfl 0 rfl rfl rfl (Nat.le_of_ble_eq_true rfl) ⟨Nat.le_of_ble_eq_true rfl, Nat.le_of_ble_eq_true rfl⟩ dX5_lose_30 [0, 1] [2] rfl rfl rfl rfl (by decide) rfl ?_
      refine g_aload_n Γ 0 dX5_lose_33 rfl ?_
      refine g_iload_n Γ 1 dX5_lose_34 rfl ?_
      refine g_bipush (v := 7) Γ dX5_lose_35 (by decide) ?_
      refine g_iconst (v := 0) Γ dX5_lose_37 (by decide) ?_
      obtain ⟨v12, e13, hf⟩ := ya_ob hf
      refine g_vv (q := (RX5, TX5, 19)) (wr := [(A_t 1, eI cI 1452 v8)]) (ws' := [(A_t 1, eI cI 1452 v8), (h_t, oR A_t v7 c_t_below c_t_above1 c_t_below1), (A_t 0, eI cI 242 v12)]) Γ (fun sz => mX5_set (l := l) (D := D) (sz := sz) (cI := cI) (cJ := cJ) (cZ := cZ) (cW := cW) (cR := cR) (h_t := h_t) (A_t := A_t) (hf := e13)) eX5_set gX5_lose_X5_set rfl rfl 0 rfl rfl rfl (Nat.le_of_ble_eq_true rfl) ⟨Nat.le_of_ble_eq_true rfl, Nat.le_of_ble_eq_true rfl⟩ dX5_lose_38 [1, 2] [0] rfl rfl rfl rfl (by decide) rfl ?_
      refine g_iconst (v := 1) Γ dX5_lose_41 (by decide) ?_
      cases hf
      exact g_zret Γ hr (show ya_bo 1 = some 1 from rfl) dX5_lose_42 [1, 2, 0] rfl rfl
    · have hf := ya_if1 c6 hf
      refine g_iconst (v := 0) Γ dX5_lose_19 (by decide) ?_
      cases hf
      exact g_zret Γ hr (show ya_bo 0 = some 0 from rfl) dX5_lose_20 [1, 2, 0] rfl rfl

set_option maxRecDepth 20000 in
theorem ggX5_hour_X5_isIn : GoodIn wsX5_hour wsX5_isIn := goodIn_r _ [5] (by decide +kernel) (by decide +kernel)
set_option maxRecDepth 20000 in
theorem gX5_hour_X5_isIn : GoodIn wsX5_hour (va_wsS RX5 61 yX5_isIn wsX5_isIn) := goodIn_app (goodIn_of _ (by decide +kernel)) ggX5_hour_X5_isIn
set_option maxRecDepth 20000 in
theorem ggX5_hour_X5_keep : GoodIn wsX5_hour wsX5_keep := goodIn_r _ [9, 10, 11, 12, 25, 26, 27, 28, 29, 30, 31, 32, 33, 34, 35, 36, 37, 38, 39, 40, 41, 42, 43] (by decide +kernel) (by decide +kernel)
set_option maxRecDepth 20000 in
theorem gX5_hour_X5_keep : GoodIn wsX5_hour (wsV RX5 72 RX5 yX5_keep wsX5_keep) := goodIn_app (goodIn_of _ (by decide +kernel)) ggX5_hour_X5_keep
set_option maxRecDepth 20000 in
theorem ggX5_hour_X5_flows : GoodIn wsX5_hour wsX5_flows := goodIn_r _ [16, 12, 25, 26, 27, 28, 29, 30, 31, 32, 33, 34, 35, 36, 37, 38, 39, 40, 41, 42, 43] (by decide +kernel) (by decide +kernel)
set_option maxRecDepth 20000 in
theorem gX5_hour_X5_flows : GoodIn wsX5_hour (wsV RX5 57 RX5 yX5_flows wsX5_flows) := goodIn_app (goodIn_of _ (by decide +kernel)) ggX5_hour_X5_flows
set_option maxRecDepth 20000 in
theorem ggX5_hour_X5_get : GoodIn wsX5_hour wsX5_get := goodIn_r _ [20, 12, 25, 26, 27, 28, 29, 30, 31, 32, 33, 34, 35, 36, 37, 38, 39, 40, 41, 42, 43] (by decide +kernel) (by decide +kernel)
set_option maxRecDepth 20000 in
theorem gX5_hour_X5_get : GoodIn wsX5_hour (wsV RX5 86 RX5 yX5_get wsX5_get) := goodIn_app (goodIn_of _ (by decide +kernel)) ggX5_hour_X5_get
set_option maxRecDepth 20000 in
theorem ggX5_hour_X5_set : GoodIn wsX5_hour wsX5_set := goodIn_r _ [24, 12, 25, 26, 27, 28, 29, 30, 31, 32, 33, 34, 35, 36, 37, 38, 39, 40, 41, 42, 43] (by decide +kernel) (by decide +kernel)
set_option maxRecDepth 20000 in
theorem gX5_hour_X5_set : GoodIn wsX5_hour (wsV RX5 79 RX5 yX5_set wsX5_set) := goodIn_app (goodIn_of _ (by decide +kernel)) ggX5_hour_X5_set
theorem dX5_hour_0 : decode cX5_hour 0 = .ok (.iload_n 1, 1) := by decide +kernel
theorem dX5_hour_1 : decode cX5_hour 1 = .ok (.iconst 0, 1) := by decide +kernel
theorem dX5_hour_2 : decode cX5_hour 2 = .ok (.bipush 15, 2) := by decide +kernel
theorem dX5_hour_4 : decode cX5_hour 4 = .ok (.invokestatic 61, 3) := by decide +kernel
theorem dX5_hour_7 : decode cX5_hour 7 = .ok (.ifCond .ne 5, 3) := by decide +kernel
theorem dX5_hour_10 : decode cX5_hour 10 = .ok (.iconst (-1), 1) := by decide +kernel
theorem dX5_hour_11 : decode cX5_hour 11 = .ok (.ireturn, 1) := by decide +kernel
theorem dX5_hour_12 : decode cX5_hour 12 = .ok (.aload_n 0, 1) := by decide +kernel
theorem dX5_hour_13 : decode cX5_hour 13 = .ok (.invokevirtual 72, 3) := by decide +kernel
theorem dX5_hour_16 : decode cX5_hour 16 = .ok (.iconst 0, 1) := by decide +kernel
theorem dX5_hour_17 : decode cX5_hour 17 = .ok (.istore_n 2, 1) := by decide +kernel
theorem dX5_hour_18 : decode cX5_hour 18 = .ok (.iconst 0, 1) := by decide +kernel
theorem dX5_hour_19 : decode cX5_hour 19 = .ok (.istore_n 3, 1) := by decide +kernel
theorem dX5_hour_20 : decode cX5_hour 20 = .ok (.iload_n 3, 1) := by decide +kernel
theorem dX5_hour_21 : decode cX5_hour 21 = .ok (.aload_n 0, 1) := by decide +kernel
theorem dX5_hour_22 : decode cX5_hour 22 = .ok (.invokevirtual 57, 3) := by decide +kernel
theorem dX5_hour_25 : decode cX5_hour 25 = .ok (.if_icmp .ge 105, 3) := by decide +kernel
theorem dX5_hour_28 : decode cX5_hour 28 = .ok (.aload_n 0, 1) := by decide +kernel
theorem dX5_hour_29 : decode cX5_hour 29 = .ok (.iload_n 3, 1) := by decide +kernel
theorem dX5_hour_30 : decode cX5_hour 30 = .ok (.bipush 6, 2) := by decide +kernel
theorem dX5_hour_32 : decode cX5_hour 32 = .ok (.invokevirtual 86, 3) := by decide +kernel
theorem dX5_hour_35 : decode cX5_hour 35 = .ok (.iconst (-1), 1) := by decide +kernel
theorem dX5_hour_36 : decode cX5_hour 36 = .ok (.if_icmp .eq 32, 3) := by decide +kernel
theorem dX5_hour_39 : decode cX5_hour 39 = .ok (.iload_n 1, 1) := by decide +kernel
theorem dX5_hour_40 : decode cX5_hour 40 = .ok (.aload_n 0, 1) := by decide +kernel
theorem dX5_hour_41 : decode cX5_hour 41 = .ok (.iload_n 3, 1) := by decide +kernel
theorem dX5_hour_42 : decode cX5_hour 42 = .ok (.bipush 7, 2) := by decide +kernel
theorem dX5_hour_44 : decode cX5_hour 44 = .ok (.invokevirtual 86, 3) := by decide +kernel
theorem dX5_hour_47 : decode cX5_hour 47 = .ok (.if_icmp .ge 21, 3) := by decide +kernel
theorem dX5_hour_50 : decode cX5_hour 50 = .ok (.aload_n 0, 1) := by decide +kernel
theorem dX5_hour_51 : decode cX5_hour 51 = .ok (.iload_n 3, 1) := by decide +kernel
theorem dX5_hour_52 : decode cX5_hour 52 = .ok (.bipush 8, 2) := by decide +kernel
theorem dX5_hour_54 : decode cX5_hour 54 = .ok (.iload_n 1, 1) := by decide +kernel
theorem dX5_hour_55 : decode cX5_hour 55 = .ok (.iadd, 1) := by decide +kernel
theorem dX5_hour_56 : decode cX5_hour 56 = .ok (.invokevirtual 86, 3) := by decide +kernel
theorem dX5_hour_59 : decode cX5_hour 59 = .ok (.ldc 90, 2) := by decide +kernel
theorem dX5_hour_61 : decode cX5_hour 61 = .ok (.if_icmp .eq 7, 3) := by decide +kernel
theorem dX5_hour_64 : decode cX5_hour 64 = .ok (.iconst 1, 1) := by decide +kernel
theorem dX5_hour_65 : decode cX5_hour 65 = .ok (.goto 4, 3) := by decide +kernel
theorem dX5_hour_68 : decode cX5_hour 68 = .ok (.iconst 0, 1) := by decide +kernel
theorem dX5_hour_69 : decode cX5_hour 69 = .ok (.istore 4, 2) := by decide +kernel
theorem dX5_hour_71 : decode cX5_hour 71 = .ok (.aload_n 0, 1) := by decide +kernel
theorem dX5_hour_72 : decode cX5_hour 72 = .ok (.iload_n 3, 1) := by decide +kernel
theorem dX5_hour_73 : decode cX5_hour 73 = .ok (.iconst 2, 1) := by decide +kernel
theorem dX5_hour_74 : decode cX5_hour 74 = .ok (.iload 4, 2) := by decide +kernel
theorem dX5_hour_76 : decode cX5_hour 76 = .ok (.ifCond .eq 7, 3) := by decide +kernel
theorem dX5_hour_79 : decode cX5_hour 79 = .ok (.iconst 1, 1) := by decide +kernel
theorem dX5_hour_80 : decode cX5_hour 80 = .ok (.goto 4, 3) := by decide +kernel
theorem dX5_hour_83 : decode cX5_hour 83 = .ok (.iconst 0, 1) := by decide +kernel
theorem dX5_hour_84 : decode cX5_hour 84 = .ok (.invokevirtual 79, 3) := by decide +kernel
theorem dX5_hour_87 : decode cX5_hour 87 = .ok (.aload_n 0, 1) := by decide +kernel
theorem dX5_hour_88 : decode cX5_hour 88 = .ok (.iload_n 3, 1) := by decide +kernel
theorem dX5_hour_89 : decode cX5_hour 89 = .ok (.iconst 3, 1) := by decide +kernel
theorem dX5_hour_90 : decode cX5_hour 90 = .ok (.iload 4, 2) := by decide +kernel
theorem dX5_hour_92 : decode cX5_hour 92 = .ok (.ifCond .eq 15, 3) := by decide +kernel
theorem dX5_hour_95 : decode cX5_hour 95 = .ok (.aload_n 0, 1) := by decide +kernel
theorem dX5_hour_96 : decode cX5_hour 96 = .ok (.iload_n 3, 1) := by decide +kernel
theorem dX5_hour_97 : decode cX5_hour 97 = .ok (.bipush 8, 2) := by decide +kernel
theorem dX5_hour_99 : decode cX5_hour 99 = .ok (.iload_n 1, 1) := by decide +kernel
theorem dX5_hour_100 : decode cX5_hour 100 = .ok (.iadd, 1) := by decide +kernel
theorem dX5_hour_101 : decode cX5_hour 101 = .ok (.invokevirtual 86, 3) := by decide +kernel
theorem dX5_hour_104 : decode cX5_hour 104 = .ok (.goto 4, 3) := by decide +kernel
theorem dX5_hour_107 : decode cX5_hour 107 = .ok (.iconst 0, 1) := by decide +kernel
theorem dX5_hour_108 : decode cX5_hour 108 = .ok (.invokevirtual 79, 3) := by decide +kernel
theorem dX5_hour_111 : decode cX5_hour 111 = .ok (.iload_n 2, 1) := by decide +kernel
theorem dX5_hour_112 : decode cX5_hour 112 = .ok (.iload 4, 2) := by decide +kernel
theorem dX5_hour_114 : decode cX5_hour 114 = .ok (.ifCond .eq 7, 3) := by decide +kernel
theorem dX5_hour_117 : decode cX5_hour 117 = .ok (.iconst 1, 1) := by decide +kernel
theorem dX5_hour_118 : decode cX5_hour 118 = .ok (.goto 4, 3) := by decide +kernel
theorem dX5_hour_121 : decode cX5_hour 121 = .ok (.iconst 0, 1) := by decide +kernel
theorem dX5_hour_122 : decode cX5_hour 122 = .ok (.iadd, 1) := by decide +kernel
theorem dX5_hour_123 : decode cX5_hour 123 = .ok (.istore_n 2, 1) := by decide +kernel
theorem dX5_hour_124 : decode cX5_hour 124 = .ok (.iinc 3 1, 3) := by decide +kernel
theorem dX5_hour_127 : decode cX5_hour 127 = .ok (.goto (-107), 3) := by decide +kernel
theorem dX5_hour_130 : decode cX5_hour 130 = .ok (.iload_n 2, 1) := by decide +kernel
theorem dX5_hour_131 : decode cX5_hour 131 = .ok (.ireturn, 1) := by decide +kernel
/-! ===== FlowMetersModel.hour(I)I ===== -/
def fX5_hour_L20 (N : Nat) (n : Nat) (y1 : Int32) (y2 : Int32) (y3 : Int32) (d_t_now : Nat → Int32) : Option (Int32 × (Nat → Int32)) := match n with
  | 0 => none
  | n + 1 =>
    (fX5_flows d_t_now).bind fun v7 =>
      (if v7 ≤ y3 then
        some (y2, d_t_now)
      else
        (fX5_get d_t_now y3 6).bind fun v10 =>
        (if v10 = (-1) then
          (fX5_set d_t_now y3 2 0).bind fun v14 =>
            (fX5_set v14 y3 3 0).bind fun v17 =>
              ya_lt (y2 + 0) fun v20 =>
                ya_lt (y3 + 1) fun v22 =>
                fX5_hour_L20 N n y1 v20 v22 v17
        else
          (fX5_get d_t_now y3 7).bind fun v24 =>
          (if v24 ≤ y1 then
            (fX5_set d_t_now y3 2 0).bind fun v28 =>
              (fX5_set v28 y3 3 0).bind fun v31 =>
                ya_lt (y2 + 0) fun v34 =>
                  ya_lt (y3 + 1) fun v36 =>
                  fX5_hour_L20 N n y1 v34 v36 v31
          else
            (fX5_get d_t_now y3 (8 + y1)).bind fun v38 =>
            (if v38 = (-1000000) then
              (fX5_set d_t_now y3 2 0).bind fun v42 =>
                (fX5_set v42 y3 3 0).bind fun v45 =>
                  ya_lt (y2 + 0) fun v48 =>
                    ya_lt (y3 + 1) fun v50 =>
                    fX5_hour_L20 N n y1 v48 v50 v45
            else
              (fX5_set d_t_now y3 2 1).bind fun v53 =>
                (fX5_get v53 y3 (8 + y1)).bind fun v56 =>
                  (fX5_set v53 y3 3 v56).bind fun v58 =>
                  ya_lt (y2 + 1) fun v61 =>
                    ya_lt (y3 + 1) fun v63 =>
                    fX5_hour_L20 N n y1 v61 v63 v58))))
def fX5_hour (N : Nat) (c_t_many : Int32) (c_t_now : Nat → Int32) (c_t_before : Nat → Int32) (x1 : Int32) : Option (Int32 × Int32 × (Nat → Int32) × (Nat → Int32)) :=
  (fX5_isIn x1 0 15).bind fun v1 =>
  (if v1 = 0 then
    some ((-1), c_t_many, c_t_now, c_t_before)
  else
    (fX5_keep N c_t_many c_t_now c_t_before).bind fun (v4, v5) =>
    (fX5_hour_L20 N N x1 0 0 c_t_now).bind fun (v65, v66) =>
    some (v65, v4, v66, v5))
abbrev rmX5_hour : Room := { frames := 1, cells := 0, slots := 0, locals := 23 }
theorem eX5_hour : yY yX5_hour wsX5_hour cX5_hour 5 (some .int) rmX5_hour 1 := ⟨⟨_, rfl⟩, rfl, rfl, by decide, by decide, by decide +kernel⟩
set_option maxHeartbeats 4000000 in
set_option maxRecDepth 100000 in
theorem mX5_hour {l : Launch} {D : va_G} {sz : Nat} {cI cJ cZ cW cR : ClassId} {N : Nat} {h_t : Nat} {A_t : Nat → Nat} {c_t_many : Int32} {c_t_below : Int64} {c_t_above1 : Int64} {c_t_below1 : Int64} {c_t_now : Nat → Int32} {c_t_before : Nat → Int32} {x1 : Int32} {r : Int32} {zc_t_many : Int32} {zc_t_now : Nat → Int32} {zc_t_before : Nat → Int32} (hf : fX5_hour N c_t_many c_t_now c_t_before x1 = some (r, zc_t_many, zc_t_now, zc_t_before)) : Met l yX5_hour wsX5_hour rmX5_hour (yP D (yT cI cJ cZ cW cR) [(h_t, oR A_t c_t_many c_t_below c_t_above1 c_t_below1), (A_t 0, eI cI 242 c_t_now), (A_t 1, eI cI 1452 c_t_before)] sz [.ref h_t, .int x1]) (yQi D (yT cI cJ cZ cW cR) r [(h_t, oR A_t zc_t_many c_t_below c_t_above1 c_t_below1), (A_t 0, eI cI 242 zc_t_now), (A_t 1, eI cI 1452 zc_t_before)] (va_A [(h_t, oR A_t c_t_many c_t_below c_t_above1 c_t_below1), (A_t 0, eI cI 242 c_t_now), (A_t 1, eI cI 1452 c_t_before)] sz)) 0 0 (va_A [(h_t, oR A_t c_t_many c_t_below c_t_above1 c_t_below1), (A_t 0, eI cI 242 c_t_now), (A_t 1, eI cI 1452 c_t_before)] sz) := by
  refine yM (cc := cX5_hour) (maxL := 5) (ret := (some .int)) RX5 (by decide) rfl rfl (Nat.le_of_ble_eq_true rfl) ?_
  intro p e s m below meth c Γ hr
  have loop20 : ∀ (n : Nat) (y1 : Int32) (y2 : Int32) (y3 : Int32) (d_t_many : Int32) (d_t_below : Int64) (d_t_above1 : Int64) (d_t_below1 : Int64) (d_t_now : Nat → Int32) (d_t_before : Nat → Int32) (w0 : Int32) (w1 : Nat → Int32), fX5_hour_L20 N n y1 y2 y3 d_t_now = some (w0, w1) → yG p l e (headSpec wsX5_hour rmX5_hour).room s m (List.toArray [.ref h_t, .int x1]) below meth c D (va_A [(h_t, oR A_t c_t_many c_t_below c_t_above1 c_t_below1), (A_t 0, eI cI 242 c_t_now), (A_t 1, eI cI 1452 c_t_before)] sz) 5 0 0 (MQ below (yQi D (yT cI cJ cZ cW cR) r [(h_t, oR A_t zc_t_many c_t_below c_t_above1 c_t_below1), (A_t 0, eI cI 242 zc_t_now), (A_t 1, eI cI 1452 zc_t_before)] (va_A [(h_t, oR A_t c_t_many c_t_below c_t_above1 c_t_below1), (A_t 0, eI cI 242 c_t_now), (A_t 1, eI cI 1452 c_t_before)] sz)) (List.toArray [.ref h_t, .int x1]) s 0 0 (va_A [(h_t, oR A_t c_t_many c_t_below c_t_above1 c_t_below1), (A_t 0, eI cI 242 c_t_now), (A_t 1, eI cI 1452 c_t_before)] sz)) 130 [(2, .int w0)] [] [(h_t, oR A_t d_t_many d_t_below d_t_above1 d_t_below1), (A_t 0, eI cI 242 w1), (A_t 1, eI cI 1452 d_t_before)] → yG p l e (headSpec wsX5_hour rmX5_hour).room s m (List.toArray [.ref h_t, .int x1]) below meth c D (va_A [(h_t, oR A_t c_t_many c_t_below c_t_above1 c_t_below1), (A_t 0, eI cI 242 c_t_now), (A_t 1, eI cI 1452 c_t_before)] sz) 5 0 0 (MQ below (yQi D (yT cI cJ cZ cW cR) r [(h_t, oR A_t zc_t_many c_t_below c_t_above1 c_t_below1), (A_t 0, eI cI 242 zc_t_now), (A_t 1, eI cI 1452 zc_t_before)] (va_A [(h_t, oR A_t c_t_many c_t_below c_t_above1 c_t_below1), (A_t 0, eI cI 242 c_t_now), (A_t 1, eI cI 1452 c_t_before)] sz)) (List.toArray [.ref h_t, .int x1]) s 0 0 (va_A [(h_t, oR A_t c_t_many c_t_below c_t_above1 c_t_below1), (A_t 0, eI cI 242 c_t_now), (A_t 1, eI cI 1452 c_t_before)] sz)) 20 [(0, .ref h_t), (1, .int y1), (2, .int y2), (3, .int y3)] [] [(h_t, oR A_t d_t_many d_t_below d_t_above1 d_t_below1), (A_t 0, eI cI 242 d_t_now), (A_t 1, eI cI 1452 d_t_before)] := by
    intro n
    induction n with
    | zero =>
      intro y1 y2 y3 d_t_many d_t_below d_t_above1 d_t_below1 d_t_now d_t_before w0 w1 hf
      cases hf
    | succ n ih =>
      intro y1 y2 y3 d_t_many d_t_below d_t_above1 d_t_below1 d_t_now d_t_before w0 w1 hf hk
      unfold fX5_hour_L20 at hf
      refine g_iload_n Γ 3 dX5_hour_20 rfl ?_
      refine g_aload_n Γ 0 dX5_hour_21 rfl ?_
      obtain ⟨v7, e8, hf⟩ := ya_ob hf
      refine g_vi (q := (RX5, TX5, 19)) (wr := [(A_t 1, eI cI 1452 d_t_before)]) (ws' := [(A_t 1, eI cI 1452 d_t_before), (h_t, oR A_t d_t_many d_t_below d_t_above1 d_t_below1), (A_t 0, eI cI 242 d_t_now)]) Γ (fun sz => mX5_flows (l := l) (D := D) (sz := sz) (cI := cI) (cJ := cJ) (cZ := cZ) (cW := cW) (cR := cR) (h_t := h_t) (A_t := A_t) (hf := e8)) eX5_flows gX5_hour_X5_flows rfl rfl 0 rfl rfl rfl (Nat.le_of_ble_eq_true rfl) ⟨Nat.le_of_ble_eq_true rfl, Nat.le_of_ble_eq_true rfl⟩ dX5_hour_22 [0, 1] [2] rfl rfl rfl rfl (by decide) rfl ?_
      refine g_icmp_ge Γ 130 dX5_hour_25 (by decide) (fun c9 => ?_) (fun c9 => ?_)
      · have hf := ya_if1 c9 hf
        cases hf
        refine g_lv [2] rfl ?_
        refine g_ws (ws' := [(h_t, oR A_t d_t_many d_t_below d_t_above1 d_t_below1), (A_t 0, eI cI 242 d_t_now), (A_t 1, eI cI 1452 d_t_before)]) [1, 2, 0] rfl rfl ?_
        exact hk
      · have hf := ya_if2 c9 hf
        refine g_aload_n Γ 0 dX5_hour_28 rfl ?_
        refine g_iload_n Γ 3 dX5_hour_29 rfl ?_
        refine g_bipush (v := 6) Γ dX5_hour_30 (by decide) ?_
        obtain ⟨v10, e11, hf⟩ := ya_ob hf
        refine g_vi (q := (RX5, TX5, 19)) (wr := [(A_t 1, eI cI 1452 d_t_before)]) (ws' := [(A_t 1, eI cI 1452 d_t_before), (h_t, oR A_t d_t_many d_t_below d_t_above1 d_t_below1), (A_t 0, eI cI 242 d_t_now)]) Γ (fun sz => mX5_get (l := l) (D := D) (sz := sz) (cI := cI) (cJ := cJ) (cZ := cZ) (cW := cW) (cR := cR) (h_t := h_t) (A_t := A_t) (hf := e11)) eX5_get gX5_hour_X5_get rfl rfl 0 rfl rfl rfl (Nat.le_of_ble_eq_true rfl) ⟨Nat.le_of_ble_eq_true rfl, Nat.le_of_ble_eq_true rfl⟩ dX5_hour_32 [1, 2] [0] rfl rfl rfl rfl (by decide) rfl ?_
        refine g_iconst (v := (-1)) Γ dX5_hour_35 (by decide) ?_
        refine g_icmp_eq Γ 68 dX5_hour_36 (by decide) (fun c12 => ?_) (fun c12 => ?_)
        · have hf := ya_if1 c12 hf
          refine g_iconst (v := 0) Γ dX5_hour_68 (by decide) ?_
          refine g_istore (lv' := [(4, .int 0), (0, .ref h_t), (1, .int y1), (2, .int y2), (3, .int y3)]) Γ dX5_hour_69 (by decide) rfl ?_
          refine g_aload_n Γ 1 dX5_hour_71 rfl ?_
          refine g_iload_n Γ 4 dX5_hour_72 rfl ?_
          refine g_iconst (v := 2) Γ dX5_hour_73 (by decide) ?_
          refine g_iload Γ 0 dX5_hour_74 rfl ?_
          refine g_if_eq Γ 83 dX5_hour_76 (by decide) (fun c13 => ?_) (fun c13 => ?_)
          · skip
            refine g_iconst (v := 0) Γ dX5_hour_83 (by decide) ?_
            obtain ⟨v14, e15, hf⟩ := ya_ob hf
            refine g_vv (q := (RX5, TX5, 19)) (wr := [(A_t 1, eI cI 1452 d_t_before)]) (ws' := [(A_t 1, eI cI 1452 d_t_before), (h_t, oR A_t d_t_many d_t_below d_t_above1 d_t_below1), (A_t 0, eI cI 242 v14)]) Γ (fun sz => mX5_set (l := l) (D := D) (sz := sz) (cI := cI) (cJ := cJ) (cZ := cZ) (cW := cW) (cR := cR) (h_t := h_t) (A_t := A_t) (hf := e15)) eX5_set gX5_hour_X5_set rfl rfl 0 rfl rfl rfl (Nat.le_of_ble_eq_true rfl) ⟨Nat.le_of_ble_eq_true rfl, Nat.le_of_ble_eq_true rfl⟩ dX5_hour_84 [1, 2] [0] rfl rfl rfl rfl (by decide) rfl ?_
            refine g_aload_n Γ 1 dX5_hour_87 rfl ?_
            refine g_iload_n Γ 4 dX5_hour_88 rfl ?_
            refine g_iconst (v := 3) Γ dX5_hour_89 (by decide) ?_
            refine g_iload Γ 0 dX5_hour_90 rfl ?_
            refine g_if_eq Γ 107 dX5_hour_92 (by decide) (fun c16 => ?_) (fun c16 => ?_)
            · skip
              refine g_iconst (v := 0) Γ dX5_hour_107 (by decide) ?_
              obtain ⟨v17, e18, hf⟩ := ya_ob hf
              refine g_vv (q := (RX5, TX5, 19)) (wr := [(A_t 1, eI cI 1452 d_t_before)]) (ws' := [(A_t 1, eI cI 1452 d_t_before), (h_t, oR A_t d_t_many d_t_below d_t_above1 d_t_below1), (A_t 0, eI cI 242 v17)]) Γ (fun sz => mX5_set (l := l) (D := D) (sz := sz) (cI := cI) (cJ := cJ) (cZ := cZ) (cW := cW) (cR := cR) (h_t := h_t) (A_t := A_t) (hf := e18)) eX5_set gX5_hour_X5_set rfl rfl 0 rfl rfl rfl (Nat.le_of_ble_eq_true rfl) ⟨Nat.le_of_ble_eq_true rfl, Nat.le_of_ble_eq_true rfl⟩ dX5_hour_108 [1, 2] [0] rfl rfl rfl rfl (by decide) rfl ?_
              refine g_iload_n Γ 3 dX5_hour_111 rfl ?_
              refine g_iload Γ 0 dX5_hour_112 rfl ?_
              refine g_if_eq Γ 121 dX5_hour_114 (by decide) (fun c19 => ?_) (fun c19 => ?_)
              · skip
                refine g_iconst (v := 0) Γ dX5_hour_121 (by decide) ?_
                refine g_iadd Γ dX5_hour_122 ?_
                obtain ⟨v20, e21, hf⟩ := ya_lt_inv hf
                refine g_nmi e21 ?_
                refine g_istore_n (lv' := [(2, .int v20), (4, .int 0), (0, .ref h_t), (1, .int y1), (3, .int y3)]) Γ dX5_hour_123 (by decide) rfl ?_
                obtain ⟨v22, e23, hf⟩ := ya_lt_inv hf
                refine g_iinc (lv' := [(3, .int v22), (2, .int v20), (4, .int 0), (0, .ref h_t), (1, .int y1)]) Γ 4 dX5_hour_124 rfl (by rw [e23]; rfl) (by decide) rfl ?_
                refine g_goto Γ 20 dX5_hour_127 (by decide) ?_
                refine g_lv [3, 4, 1, 0] rfl ?_
                refine g_ws (ws' := [(h_t, oR A_t d_t_many d_t_below d_t_above1 d_t_below1), (A_t 0, eI cI 242 v17), (A_t 1, eI cI 1452 d_t_before)]) [1, 2, 0] rfl rfl ?_
                exact ih _ _ _ _ _ _ _ _ _ _ _ hf hk
              · exact absurd c19 (by decide)
            · exact absurd c16 (by decide)
          · exact absurd c13 (by decide)
        · have hf := ya_if2 c12 hf
          refine g_iload_n Γ 1 dX5_hour_39 rfl ?_
          refine g_aload_n Γ 0 dX5_hour_40 rfl ?_
          refine g_iload_n Γ 3 dX5_hour_41 rfl ?_
          refine g_bipush (v := 7) Γ dX5_hour_42 (by decide) ?_
          obtain ⟨v24, e25, hf⟩ := ya_ob hf
          refine g_vi (q := (RX5, TX5, 19)) (wr := [(A_t 1, eI cI 1452 d_t_before)]) (ws' := [(A_t 1, eI cI 1452 d_t_before), (h_t, oR A_t d_t_many d_t_below d_t_above1 d_t_below1), (A_t 0, eI cI 242 d_t_now)]) Γ (fun sz => mX5_get (l := l) (D := D) (sz := sz) (cI := cI) (cJ := cJ) (cZ := cZ) (cW := cW) (cR := cR) (h_t := h_t) (A_t := A_t) (hf := e25)) eX5_get gX5_hour_X5_get rfl rfl 0 rfl rfl rfl (Nat.le_of_ble_eq_true rfl) ⟨Nat.le_of_ble_eq_true rfl, Nat.le_of_ble_eq_true rfl⟩ dX5_hour_44 [1, 2] [0] rfl rfl rfl rfl (by decide) rfl ?_
          refine g_icmp_ge Γ 68 dX5_hour_47 (by decide) (fun c26 => ?_) (fun c26 => ?_)
          · have hf := ya_if1 c26 hf
            refine g_iconst (v := 0) Γ dX5_hour_68 (by decide) ?_
            refine g_istore (lv' := [(4, .int 0), (0, .ref h_t), (1, .int y1), (2, .int y2), (3, .int y3)]) Γ dX5_hour_69 (by decide) rfl ?_
            refine g_aload_n Γ 1 dX5_hour_71 rfl ?_
            refine g_iload_n Γ 4 dX5_hour_72 rfl ?_
            refine g_iconst (v := 2) Γ dX5_hour_73 (by decide) ?_
            refine g_iload Γ 0 dX5_hour_74 rfl ?_
            refine g_if_eq Γ 83 dX5_hour_76 (by decide) (fun c27 => ?_) (fun c27 => ?_)
            · skip
              refine g_iconst (v := 0) Γ dX5_hour_83 (by decide) ?_
              obtain ⟨v28, e29, hf⟩ := ya_ob hf
              refine g_vv (q := (RX5, TX5, 19)) (wr := [(A_t 1, eI cI 1452 d_t_before)]) (ws' := [(A_t 1, eI cI 1452 d_t_before), (h_t, oR A_t d_t_many d_t_below d_t_above1 d_t_below1), (A_t 0, eI cI 242 v28)]) Γ (fun sz => mX5_set (l := l) (D := D) (sz := sz) (cI := cI) (cJ := cJ) (cZ := cZ) (cW := cW) (cR := cR) (h_t := h_t) (A_t := A_t) (hf := e29)) eX5_set gX5_hour_X5_set rfl rfl 0 rfl rfl rfl (Nat.le_of_ble_eq_true rfl) ⟨Nat.le_of_ble_eq_true rfl, Nat.le_of_ble_eq_true rfl⟩ dX5_hour_84 [1, 2] [0] rfl rfl rfl rfl (by decide) rfl ?_
              refine g_aload_n Γ 1 dX5_hour_87 rfl ?_
              refine g_iload_n Γ 4 dX5_hour_88 rfl ?_
              refine g_iconst (v := 3) Γ dX5_hour_89 (by decide) ?_
              refine g_iload Γ 0 dX5_hour_90 rfl ?_
              refine g_if_eq Γ 107 dX5_hour_92 (by decide) (fun c30 => ?_) (fun c30 => ?_)
              · skip
                refine g_iconst (v := 0) Γ dX5_hour_107 (by decide) ?_
                obtain ⟨v31, e32, hf⟩ := ya_ob hf
                refine g_vv (q := (RX5, TX5, 19)) (wr := [(A_t 1, eI cI 1452 d_t_before)]) (ws' := [(A_t 1, eI cI 1452 d_t_before), (h_t, oR A_t d_t_many d_t_below d_t_above1 d_t_below1), (A_t 0, eI cI 242 v31)]) Γ (fun sz => mX5_set (l := l) (D := D) (sz := sz) (cI := cI) (cJ := cJ) (cZ := cZ) (cW := cW) (cR := cR) (h_t := h_t) (A_t := A_t) (hf := e32)) eX5_set gX5_hour_X5_set rfl rfl 0 rfl rfl rfl (Nat.le_of_ble_eq_true rfl) ⟨Nat.le_of_ble_eq_true rfl, Nat.le_of_ble_eq_true rfl⟩ dX5_hour_108 [1, 2] [0] rfl rfl rfl rfl (by decide) rfl ?_
                refine g_iload_n Γ 3 dX5_hour_111 rfl ?_
                refine g_iload Γ 0 dX5_hour_112 rfl ?_
                refine g_if_eq Γ 121 dX5_hour_114 (by decide) (fun c33 => ?_) (fun c33 => ?_)
                · skip
                  refine g_iconst (v := 0) Γ dX5_hour_121 (by decide) ?_
                  refine g_iadd Γ dX5_hour_122 ?_
                  obtain ⟨v34, e35, hf⟩ := ya_lt_inv hf
                  refine g_nmi e35 ?_
                  refine g_istore_n (lv' := [(2, .int v34), (4, .int 0), (0, .ref h_t), (1, .int y1), (3, .int y3)]) Γ dX5_hour_123 (by decide) rfl ?_
                  obtain ⟨v36, e37, hf⟩ := ya_lt_inv hf
                  refine g_iinc (lv' := [(3, .int v36), (2, .int v34), (4, .int 0), (0, .ref h_t), (1, .int y1)]) Γ 4 dX5_hour_124 rfl (by rw [e37]; rfl) (by decide) rfl ?_
                  refine g_goto Γ 20 dX5_hour_127 (by decide) ?_
                  refine g_lv [3, 4, 1, 0] rfl ?_
                  refine g_ws (ws' := [(h_t, oR A_t d_t_many d_t_below d_t_above1 d_t_below1), (A_t 0, eI cI 242 v31), (A_t 1, eI cI 1452 d_t_before)]) [1, 2, 0] rfl rfl ?_
                  exact ih _ _ _ _ _ _ _ _ _ _ _ hf hk
                · exact absurd c33 (by decide)
              · exact absurd c30 (by decide)
            · exact absurd c27 (by decide)
          · have hf := ya_if2 c26 hf
            refine g_aload_n Γ 0 dX5_hour_50 rfl ?_
            refine g_iload_n Γ 3 dX5_hour_51 rfl ?_
            refine g_bipush (v := 8) Γ dX5_hour_52 (by decide) ?_
            refine g_iload_n Γ 1 dX5_hour_54 rfl ?_
            refine g_iadd Γ dX5_hour_55 ?_
            obtain ⟨v38, e39, hf⟩ := ya_ob hf
            refine g_vi (q := (RX5, TX5, 19)) (wr := [(A_t 1, eI cI 1452 d_t_before)]) (ws' := [(A_t 1, eI cI 1452 d_t_before), (h_t, oR A_t d_t_many d_t_below d_t_above1 d_t_below1), (A_t 0, eI cI 242 d_t_now)]) Γ (fun sz => mX5_get (l := l) (D := D) (sz := sz) (cI := cI) (cJ := cJ) (cZ := cZ) (cW := cW) (cR := cR) (h_t := h_t) (A_t := A_t) (hf := e39)) eX5_get gX5_hour_X5_get rfl rfl 0 rfl rfl rfl (Nat.le_of_ble_eq_true rfl) ⟨Nat.le_of_ble_eq_true rfl, Nat.le_of_ble_eq_true rfl⟩ dX5_hour_56 [1, 2] [0] rfl rfl rfl rfl (by decide) rfl ?_
            refine g_ldc (v := (-1000000)) Γ dX5_hour_59 (by decide +kernel) ?_
            refine g_icmp_eq Γ 68 dX5_hour_61 (by decide) (fun c40 => ?_) (fun c40 => ?_)
            · have hf := ya_if1 c40 hf
              refine g_iconst (v := 0) Γ dX5_hour_68 (by decide) ?_
              refine g_istore (lv' := [(4, .int 0), (0, .ref h_t), (1, .int y1), (2, .int y2), (3, .int y3)]) Γ dX5_hour_69 (by decide) rfl ?_
              refine g_aload_n Γ 1 dX5_hour_71 rfl ?_
              refine g_iload_n Γ 4 dX5_hour_72 rfl ?_
              refine g_iconst (v := 2) Γ dX5_hour_73 (by decide) ?_
              refine g_iload Γ 0 dX5_hour_74 rfl ?_
              refine g_if_eq Γ 83 dX5_hour_76 (by decide) (fun c41 => ?_) (fun c41 => ?_)
              · skip
                refine g_iconst (v := 0) Γ dX5_hour_83 (by decide) ?_
                obtain ⟨v42, e43, hf⟩ := ya_ob hf
                refine g_vv (q := (RX5, TX5, 19)) (wr := [(A_t 1, eI cI 1452 d_t_before)]) (ws' := [(A_t 1, eI cI 1452 d_t_before), (h_t, oR A_t d_t_many d_t_below d_t_above1 d_t_below1), (A_t 0, eI cI 242 v42)]) Γ (fun sz => mX5_set (l := l) (D := D) (sz := sz) (cI := cI) (cJ := cJ) (cZ := cZ) (cW := cW) (cR := cR) (h_t := h_t) (A_t := A_t) (hf := e43)) eX5_set gX5_hour_X5_set rfl rfl 0 rfl rfl rfl (Nat.le_of_ble_eq_true rfl) ⟨Nat.le_of_ble_eq_true rfl, Nat.le_of_ble_eq_true rfl⟩ dX5_hour_84 [1, 2] [0] rfl rfl rfl rfl (by decide) rfl ?_
                refine g_aload_n Γ 1 dX5_hour_87 rfl ?_
                refine g_iload_n Γ 4 dX5_hour_88 rfl ?_
                refine g_iconst (v := 3) Γ dX5_hour_89 (by decide) ?_
                refine g_iload Γ 0 dX5_hour_90 rfl ?_
                refine g_if_eq Γ 107 dX5_hour_92 (by decide) (fun c44 => ?_) (fun c44 => ?_)
                · skip
                  refine g_iconst (v := 0) Γ dX5_hour_107 (by decide) ?_
                  obtain ⟨v45, e46, hf⟩ := ya_ob hf
                  refine g_vv (q := (RX5, TX5, 19)) (wr := [(A_t 1, eI cI 1452 d_t_before)]) (ws' := [(A_t 1, eI cI 1452 d_t_before), (h_t, oR A_t d_t_many d_t_below d_t_above1 d_t_below1), (A_t 0, eI cI 242 v45)]) Γ (fun sz => mX5_set (l := l) (D := D) (sz := sz) (cI := cI) (cJ := cJ) (cZ := cZ) (cW := cW) (cR := cR) (h_t := h_t) (A_t := A_t) (hf := e46)) eX5_set gX5_hour_X5_set rfl rfl 0 rfl rfl rfl (Nat.le_of_ble_eq_true rfl) ⟨Nat.le_of_ble_eq_true rfl, Nat.le_of_ble_eq_true rfl⟩ dX5_hour_108 [1, 2] [0] rfl rfl rfl rfl (by decide) rfl ?_
                  refine g_iload_n Γ 3 dX5_hour_111 rfl ?_
                  refine g_iload Γ 0 dX5_hour_112 rfl ?_
                  refine g_if_eq Γ 121 dX5_hour_114 (by decide) (fun c47 => ?_) (fun c47 => ?_)
                  · skip
                    refine g_iconst (v := 0) Γ dX5_hour_121 (by decide) ?_
                    refine g_iadd Γ dX5_hour_122 ?_
                    obtain ⟨v48, e49, hf⟩ := ya_lt_inv hf
                    refine g_nmi e49 ?_
                    refine g_istore_n (lv' := [(2, .int v48), (4, .int 0), (0, .ref h_t), (1, .int y1), (3, .int y3)]) Γ dX5_hour_123 (by decide) rfl ?_
                    obtain ⟨v50, e51, hf⟩ := ya_lt_inv hf
                    refine g_iinc (lv' := [(3, .int v50), (2, .int v48), (4, .int 0), (0, .ref h_t), (1, .int y1)]) Γ 4 dX5_hour_124 rfl (by rw [e51]; rfl) (by decide) rfl ?_
                    refine g_goto Γ 20 dX5_hour_127 (by decide) ?_
                    refine g_lv [3, 4, 1, 0] rfl ?_
                    refine g_ws (ws' := [(h_t, oR A_t d_t_many d_t_below d_t_above1 d_t_below1), (A_t 0, eI cI 242 v45), (A_t 1, eI cI 1452 d_t_before)]) [1, 2, 0] rfl rfl ?_
                    exact ih _ _ _ _ _ _ _ _ _ _ _ hf hk
                  · exact absurd c47 (by decide)
                · exact absurd c44 (by decide)
              · exact absurd c41 (by decide)
            · have hf := ya_if2 c40 hf
              refine g_iconst (v := 1) Γ dX5_hour_64 (by decide) ?_
              refine g_goto Γ 69 dX5_hour_65 (by decide) ?_
              refine g_istore (lv' := [(4, .int 1), (0, .ref h_t), (1, .int y1), (2, .int y2), (3, .int y3)]) Γ dX5_hour_69 (by decide) rfl ?_
              refine g_aload_n Γ 1 dX5_hour_71 rfl ?_
              refine g_iload_n Γ 4 dX5_hour_72 rfl ?_
              refine g_iconst (v := 2) Γ dX5_hour_73 (by decide) ?_
              refine g_iload Γ 0 dX5_hour_74 rfl ?_
              refine g_if_eq Γ 83 dX5_hour_76 (by decide) (fun c52 => ?_) (fun c52 => ?_)
              · exact absurd c52 (by decide)
              · skip
                refine g_iconst (v := 1) Γ dX5_hour_79 (by decide) ?_
                refine g_goto Γ 84 dX5_hour_80 (by decide) ?_
                obtain ⟨v53, e54, hf⟩ := ya_ob hf
                refine g_vv (q := (RX5, TX5, 19)) (wr := [(A_t 1, eI cI 1452 d_t_before)]) (ws' := [(A_t 1, eI cI 1452 d_t_before), (h_t, oR A_t d_t_many d_t_below d_t_above1 d_t_below1), (A_t 0, eI cI 242 v53)]) Γ (fun sz => mX5_set (l := l) (D := D) (sz := sz) (cI := cI) (cJ := cJ) (cZ := cZ) (cW := cW) (cR := cR) (h_t := h_t) (A_t := A_t) (hf := e54)) eX5_set gX5_hour_X5_set rfl rfl 0 rfl rfl rfl (Nat.le_of_ble_eq_true rfl) ⟨Nat.le_of_ble_eq_true rfl, Nat.le_of_ble_eq_true rfl⟩ dX5_hour_84 [1, 2] [0] rfl rfl rfl rfl (by decide) rfl ?_
                refine g_aload_n Γ 1 dX5_hour_87 rfl ?_
                refine g_iload_n Γ 4 dX5_hour_88 rfl ?_
                refine g_iconst (v := 3) Γ dX5_hour_89 (by decide) ?_
                refine g_iload Γ 0 dX5_hour_90 rfl ?_
                refine g_if_eq Γ 107 dX5_hour_92 (by decide) (fun c55 => ?_) (fun c55 => ?_)
                · exact absurd c55 (by decide)
                · skip
                  refine g_aload_n Γ 1 dX5_hour_95 rfl ?_
                  refine g_iload_n Γ 4 dX5_hour_96 rfl ?_
                  refine g_bipush (v := 8) Γ dX5_hour_97 (by decide) ?_
                  refine g_iload_n Γ 2 dX5_hour_99 rfl ?_
                  refine g_iadd Γ dX5_hour_100 ?_
                  obtain ⟨v56, e57, hf⟩ := ya_ob hf
                  refine g_vi (q := (RX5, TX5, 19)) (wr := [(A_t 1, eI cI 1452 d_t_before)]) (ws' := [(A_t 1, eI cI 1452 d_t_before), (h_t, oR A_t d_t_many d_t_below d_t_above1 d_t_below1), (A_t 0, eI cI 242 v53)]) Γ (fun sz => mX5_get (l := l) (D := D) (sz := sz) (cI := cI) (cJ := cJ) (cZ := cZ) (cW := cW) (cR := cR) (h_t := h_t) (A_t := A_t) (hf := e57)) eX5_get gX5_hour_X5_get rfl rfl 0 rfl rfl rfl (Nat.le_of_ble_eq_true rfl) ⟨Nat.le_of_ble_eq_true rfl, Nat.le_of_ble_eq_true rfl⟩ dX5_hour_101 [1, 2] [0] rfl rfl rfl rfl (by decide) rfl ?_
                  refine g_goto Γ 108 dX5_hour_104 (by decide) ?_
                  obtain ⟨v58, e59, hf⟩ := ya_ob hf
                  refine g_vv (q := (RX5, TX5, 19)) (wr := [(A_t 1, eI cI 1452 d_t_before)]) (ws' := [(A_t 1, eI cI 1452 d_t_before), (h_t, oR A_t d_t_many d_t_below d_t_above1 d_t_below1), (A_t 0, eI cI 242 v58)]) Γ (fun sz => mX5_set (l := l) (D := D) (sz := sz) (cI := cI) (cJ := cJ) (cZ := cZ) (cW := cW) (cR := cR) (h_t := h_t) (A_t := A_t) (hf := e59)) eX5_set gX5_hour_X5_set rfl rfl 0 rfl rfl rfl (Nat.le_of_ble_eq_true rfl) ⟨Nat.le_of_ble_eq_true rfl, Nat.le_of_ble_eq_true rfl⟩ dX5_hour_108 [1, 2] [0] rfl rfl rfl rfl (by decide) rfl ?_
                  refine g_iload_n Γ 3 dX5_hour_111 rfl ?_
                  refine g_iload Γ 0 dX5_hour_112 rfl ?_
                  refine g_if_eq Γ 121 dX5_hour_114 (by decide) (fun c60 => ?_) (fun c60 => ?_)
                  · exact absurd c60 (by decide)
                  · skip
                    refine g_iconst (v := 1) Γ dX5_hour_117 (by decide) ?_
                    refine g_goto Γ 122 dX5_hour_118 (by decide) ?_
                    refine g_iadd Γ dX5_hour_122 ?_
                    obtain ⟨v61, e62, hf⟩ := ya_lt_inv hf
                    refine g_nmi e62 ?_
                    refine g_istore_n (lv' := [(2, .int v61), (4, .int 1), (0, .ref h_t), (1, .int y1), (3, .int y3)]) Γ dX5_hour_123 (by decide) rfl ?_
                    obtain ⟨v63, e64, hf⟩ := ya_lt_inv hf
                    refine g_iinc (lv' := [(3, .int v63), (2, .int v61), (4, .int 1), (0, .ref h_t), (1, .int y1)]) Γ 4 dX5_hour_124 rfl (by rw [e64]; rfl) (by decide) rfl ?_
                    refine g_goto Γ 20 dX5_hour_127 (by decide) ?_
                    refine g_lv [3, 4, 1, 0] rfl ?_
                    refine g_ws (ws' := [(h_t, oR A_t d_t_many d_t_below d_t_above1 d_t_below1), (A_t 0, eI cI 242 v58), (A_t 1, eI cI 1452 d_t_before)]) [1, 2, 0] rfl rfl ?_
                    exact ih _ _ _ _ _ _ _ _ _ _ _ hf hk
  show yG p l e (headSpec wsX5_hour rmX5_hour).room s m (List.toArray [.ref h_t, .int x1]) below meth c D (va_A [(h_t, oR A_t c_t_many c_t_below c_t_above1 c_t_below1), (A_t 0, eI cI 242 c_t_now), (A_t 1, eI cI 1452 c_t_before)] sz) 5 0 0 (MQ below (yQi D (yT cI cJ cZ cW cR) r [(h_t, oR A_t zc_t_many c_t_below c_t_above1 c_t_below1), (A_t 0, eI cI 242 zc_t_now), (A_t 1, eI cI 1452 zc_t_before)] (va_A [(h_t, oR A_t c_t_many c_t_below c_t_above1 c_t_below1), (A_t 0, eI cI 242 c_t_now), (A_t 1, eI cI 1452 c_t_before)] sz)) (List.toArray [.ref h_t, .int x1]) s 0 0 (va_A [(h_t, oR A_t c_t_many c_t_below c_t_above1 c_t_below1), (A_t 0, eI cI 242 c_t_now), (A_t 1, eI cI 1452 c_t_before)] sz)) 0 [(0, .ref h_t), (1, .int x1)] [] [(h_t, oR A_t c_t_many c_t_below c_t_above1 c_t_below1), (A_t 0, eI cI 242 c_t_now), (A_t 1, eI cI 1452 c_t_before)]
  unfold fX5_hour at hf
  refine g_iload_n Γ 1 dX5_hour_0 rfl ?_
  refine g_iconst (v := 0) Γ dX5_hour_1 (by decide) ?_
  refine g_bipush (v := 15) Γ dX5_hour_2 (by decide) ?_
  obtain ⟨v1, e2, hf⟩ := ya_ob hf
  refine g_si (wr := [(h_t, oR A_t c_t_many c_t_below c_t_above1 c_t_below1), (A_t 0, eI cI 242 c_t_now), (A_t 1, eI cI 1452 c_t_before)]) (ws' := [(h_t, oR A_t c_t_many c_t_below c_t_above1 c_t_below1), (A_t 0, eI cI 242 c_t_now), (A_t 1, eI cI 1452 c_t_before)]) Γ (fun sz => mX5_isIn (l := l) (D := D) (sz := sz) (cI := cI) (cJ := cJ) (cZ := cZ) (cW := cW) (cR := cR)  (hf := e2)) eX5_isIn ggX5_hour_X5_isIn (by decide +kernel) (by decide +kernel) (by decide +kernel) rfl rfl (Nat.le_of_ble_eq_true rfl) ⟨Nat.le_of_ble_eq_true rfl, Nat.le_of_ble_eq_true rfl⟩ dX5_hour_4 [] [0, 1, 2] rfl rfl rfl rfl (by decide) rfl ?_
  refine g_if_ne Γ 12 dX5_hour_7 (by decide) (fun c3 => ?_) (fun c3 => ?_)
  · have hf := ya_if2 c3 hf
    refine g_aload_n Γ 0 dX5_hour_12 rfl ?_
    obtain ⟨⟨v4, v5⟩, e6, hf⟩ := ya_ob hf
    refine g_vv (q := (RX5, TX5, 19)) (wr := []) (ws' := [(h_t, oR A_t v4 c_t_below c_t_above1 c_t_below1), (A_t 0, eI cI 242 c_t_now), (A_t 1, eI cI 1452 v5)]) Γ (fun sz => mX5_keep (l := l) (D := D) (sz := sz) (cI := cI) (cJ := cJ) (cZ := cZ) (cW := cW) (cR := cR) (h_t := h_t) (A_t := A_t) (hf := e6)) eX5_keep gX5_hour_X5_keep rfl rfl 0 rfl rfl rfl (Nat.le_of_ble_eq_true rfl) ⟨Nat.le_of_ble_eq_true rfl, Nat.le_of_ble_eq_true rfl⟩ dX5_hour_13 [0, 1, 2] [] rfl rfl rfl rfl (by decide) rfl ?_
    refine g_iconst (v := 0) Γ dX5_hour_16 (by decide) ?_
    refine g_istore_n (lv' := [(2, .int 0), (0, .ref h_t), (1, .int x1)]) Γ dX5_hour_17 (by decide) rfl ?_
    refine g_iconst (v := 0) Γ dX5_hour_18 (by decide) ?_
    refine g_istore_n (lv' := [(3, .int 0), (2, .int 0), (0, .ref h_t), (1, .int x1)]) Γ dX5_hour_19 (by decide) rfl ?_
    obtain ⟨⟨v65, v66⟩, e67, hf⟩ := ya_ob hf
    refine g_lv [2, 3, 1, 0] rfl ?_
    refine loop20 N _ _ _ _ _ _ _ _ _ _ _ e67  ?_
    refine g_iload_n Γ 0 dX5_hour_130 rfl ?_
    cases hf
    exact g_iret Γ hr dX5_hour_131 [0, 1, 2] rfl rfl
  · have hf := ya_if1 c3 hf
    refine g_iconst (v := (-1)) Γ dX5_hour_10 (by decide) ?_
    cases hf
    exact g_iret Γ hr dX5_hour_11 [0, 1, 2] rfl rfl

set_option maxRecDepth 20000 in
theorem ggX5_isRead_X5_get : GoodIn wsX5_isRead wsX5_get := goodIn_r _ [5, 6, 7, 8, 9, 10, 11, 12, 13, 14, 15, 16, 17, 18, 19, 20, 21, 22, 23, 24, 25] (by decide +kernel) (by decide +kernel)
set_option maxRecDepth 20000 in
theorem gX5_isRead_X5_get : GoodIn wsX5_isRead (wsV RX5 86 RX5 yX5_get wsX5_get) := goodIn_app (goodIn_of _ (by decide +kernel)) ggX5_isRead_X5_get
theorem dX5_isRead_0 : decode cX5_isRead 0 = .ok (.aload_n 0, 1) := by decide +kernel
theorem dX5_isRead_1 : decode cX5_isRead 1 = .ok (.iload_n 1, 1) := by decide +kernel
theorem dX5_isRead_2 : decode cX5_isRead 2 = .ok (.iconst 2, 1) := by decide +kernel
theorem dX5_isRead_3 : decode cX5_isRead 3 = .ok (.invokevirtual 86, 3) := by decide +kernel
theorem dX5_isRead_6 : decode cX5_isRead 6 = .ok (.iconst 1, 1) := by decide +kernel
theorem dX5_isRead_7 : decode cX5_isRead 7 = .ok (.if_icmp .ne 7, 3) := by decide +kernel
theorem dX5_isRead_10 : decode cX5_isRead 10 = .ok (.iconst 1, 1) := by decide +kernel
theorem dX5_isRead_11 : decode cX5_isRead 11 = .ok (.goto 4, 3) := by decide +kernel
theorem dX5_isRead_14 : decode cX5_isRead 14 = .ok (.iconst 0, 1) := by decide +kernel
theorem dX5_isRead_15 : decode cX5_isRead 15 = .ok (.ireturn, 1) := by decide +kernel
/-! ===== FlowMetersModel.isRead(I)Z ===== -/
def fX5_isRead (c_t_now : Nat → Int32) (x1 : Int32) : Option (Int32) :=
  (fX5_get c_t_now x1 2).bind fun v1 =>
  (if v1 = 1 then
    some 1
  else
    some 0)
abbrev rmX5_isRead : Room := { frames := 1, cells := 0, slots := 0, locals := 22 }
theorem eX5_isRead : yY yX5_isRead wsX5_isRead cX5_isRead 2 (some .boolean) rmX5_isRead 1 := ⟨⟨_, rfl⟩, rfl, rfl, by decide, by decide, by decide +kernel⟩
set_option maxHeartbeats 4000000 in
set_option maxRecDepth 100000 in
theorem mX5_isRead {l : Launch} {D : va_G} {sz : Nat} {cI cJ cZ cW cR : ClassId} {h_t : Nat} {A_t : Nat → Nat} {c_t_many : Int32} {c_t_below : Int64} {c_t_above1 : Int64} {c_t_below1 : Int64} {c_t_now : Nat → Int32} {x1 : Int32} {r : Int32} (hf : fX5_isRead c_t_now x1 = some r) : Met l yX5_isRead wsX5_isRead rmX5_isRead (yP D (yT cI cJ cZ cW cR) [(h_t, oR A_t c_t_many c_t_below c_t_above1 c_t_below1), (A_t 0, eI cI 242 c_t_now)] sz [.ref h_t, .int x1]) (yQi D (yT cI cJ cZ cW cR) r [(h_t, oR A_t c_t_many c_t_below c_t_above1 c_t_below1), (A_t 0, eI cI 242 c_t_now)] (va_A [(h_t, oR A_t c_t_many c_t_below c_t_above1 c_t_below1), (A_t 0, eI cI 242 c_t_now)] sz)) 0 0 (va_A [(h_t, oR A_t c_t_many c_t_below c_t_above1 c_t_below1), (A_t 0, eI cI 242 c_t_now)] sz) := by
  refine yM (cc := cX5_isRead) (maxL := 2) (ret := (some .boolean)) RX5 (by decide) rfl rfl (Nat.le_of_ble_eq_true rfl) ?_
  intro p e s m below meth c Γ hr
  show yG p l e (headSpec wsX5_isRead rmX5_isRead).room s m (List.toArray [.ref h_t, .int x1]) below meth c D (va_A [(h_t, oR A_t c_t_many c_t_below c_t_above1 c_t_below1), (A_t 0, eI cI 242 c_t_now)] sz) 2 0 0 (MQ below (yQi D (yT cI cJ cZ cW cR) r [(h_t, oR A_t c_t_many c_t_below c_t_above1 c_t_below1), (A_t 0, eI cI 242 c_t_now)] (va_A [(h_t, oR A_t c_t_many c_t_below c_t_above1 c_t_below1), (A_t 0, eI cI 242 c_t_now)] sz)) (List.toArray [.ref h_t, .int x1]) s 0 0 (va_A [(h_t, oR A_t c_t_many c_t_below c_t_above1 c_t_below1), (A_t 0, eI cI 242 c_t_now)] sz)) 0 [(0, .ref h_t), (1, .int x1)] [] [(h_t, oR A_t c_t_many c_t_below c_t_above1 c_t_below1), (A_t 0, eI cI 242 c_t_now)]
  unfold fX5_isRead at hf
  refine g_aload_n Γ 0 dX5_isRead_0 rfl ?_
  refine g_iload_n Γ 1 dX5_isRead_1 rfl ?_
  refine g_iconst (v := 2) Γ dX5_isRead_2 (by decide) ?_
  obtain ⟨v1, e2, hf⟩ := ya_ob hf
  refine g_vi (q := (RX5, TX5, 19)) (wr := []) (ws' := [(h_t, oR A_t c_t_many c_t_below c_t_above1 c_t_below1), (A_t 0, eI cI 242 c_t_now)]) Γ (fun sz => mX5_get (l := l) (D := D) (sz := sz) (cI := cI) (cJ := cJ) (cZ := cZ) (cW := cW) (cR := cR) (h_t := h_t) (A_t := A_t) (hf := e2)) eX5_get gX5_isRead_X5_get rfl rfl 0 rfl rfl rfl (Nat.le_of_ble_eq_true rfl) ⟨Nat.le_of_ble_eq_true rfl, Nat.le_of_ble_eq_true rfl⟩ dX5_isRead_3 [0, 1] [] rfl rfl rfl rfl (by decide) rfl ?_
  refine g_iconst (v := 1) Γ dX5_isRead_6 (by decide) ?_
  refine g_icmp_ne Γ 14 dX5_isRead_7 (by decide) (fun c3 => ?_) (fun c3 => ?_)
  · have hf := ya_if2 c3 hf
    refine g_iconst (v := 0) Γ dX5_isRead_14 (by decide) ?_
    cases hf
    exact g_zret Γ hr (show ya_bo 0 = some 0 from rfl) dX5_isRead_15 [0, 1] rfl rfl
  · have hf := ya_if1 c3 hf
    refine g_iconst (v := 1) Γ dX5_isRead_10 (by decide) ?_
    refine g_goto Γ 15 dX5_isRead_11 (by decide) ?_
    cases hf
    exact g_zret Γ hr (show ya_bo 1 = some 1 from rfl) dX5_isRead_15 [0, 1] rfl rfl

set_option maxRecDepth 20000 in
theorem ggX5_of_X5_isFlow : GoodIn wsX5_of wsX5_isFlow := goodIn_r _ [5, 6, 7, 8, 4, 9, 10, 11, 12, 13, 18, 19, 20, 21, 22, 23, 24, 25, 26, 27, 28, 29, 30, 31, 32, 33, 34, 35, 36] (by decide +kernel) (by decide +kernel)
set_option maxRecDepth 20000 in
theorem gX5_of_X5_isFlow : GoodIn wsX5_of (wsV RX5 83 RX5 yX5_isFlow wsX5_isFlow) := goodIn_app (goodIn_of _ (by decide +kernel)) ggX5_of_X5_isFlow
set_option maxRecDepth 20000 in
theorem ggX5_of_X5_isIn : GoodIn wsX5_of wsX5_isIn := goodIn_r _ [13] (by decide +kernel) (by decide +kernel)
set_option maxRecDepth 20000 in
theorem gX5_of_X5_isIn : GoodIn wsX5_of (va_wsS RX5 61 yX5_isIn wsX5_isIn) := goodIn_app (goodIn_of _ (by decide +kernel)) ggX5_of_X5_isIn
set_option maxRecDepth 20000 in
theorem ggX5_of_X5_get : GoodIn wsX5_of wsX5_get := goodIn_r _ [17, 10, 18, 19, 20, 21, 22, 23, 24, 25, 26, 27, 28, 29, 30, 31, 32, 33, 34, 35, 36] (by decide +kernel) (by decide +kernel)
set_option maxRecDepth 20000 in
theorem gX5_of_X5_get : GoodIn wsX5_of (wsV RX5 86 RX5 yX5_get wsX5_get) := goodIn_app (goodIn_of _ (by decide +kernel)) ggX5_of_X5_get
theorem dX5_of_0 : decode cX5_of 0 = .ok (.aload_n 0, 1) := by decide +kernel
theorem dX5_of_1 : decode cX5_of 1 = .ok (.iload_n 1, 1) := by decide +kernel
theorem dX5_of_2 : decode cX5_of 2 = .ok (.invokevirtual 83, 3) := by decide +kernel
theorem dX5_of_5 : decode cX5_of 5 = .ok (.ifCond .eq 22, 3) := by decide +kernel
theorem dX5_of_8 : decode cX5_of 8 = .ok (.iload_n 2, 1) := by decide +kernel
theorem dX5_of_9 : decode cX5_of 9 = .ok (.iconst 0, 1) := by decide +kernel
theorem dX5_of_10 : decode cX5_of 10 = .ok (.bipush 7, 2) := by decide +kernel
theorem dX5_of_12 : decode cX5_of 12 = .ok (.invokestatic 61, 3) := by decide +kernel
theorem dX5_of_15 : decode cX5_of 15 = .ok (.ifCond .eq 12, 3) := by decide +kernel
theorem dX5_of_18 : decode cX5_of 18 = .ok (.aload_n 0, 1) := by decide +kernel
theorem dX5_of_19 : decode cX5_of 19 = .ok (.iload_n 1, 1) := by decide +kernel
theorem dX5_of_20 : decode cX5_of 20 = .ok (.iload_n 2, 1) := by decide +kernel
theorem dX5_of_21 : decode cX5_of 21 = .ok (.invokevirtual 86, 3) := by decide +kernel
theorem dX5_of_24 : decode cX5_of 24 = .ok (.goto 4, 3) := by decide +kernel
theorem dX5_of_27 : decode cX5_of 27 = .ok (.iconst (-1), 1) := by decide +kernel
theorem dX5_of_28 : decode cX5_of 28 = .ok (.ireturn, 1) := by decide +kernel
/-! ===== FlowMetersModel.of(II)I ===== -/
def fX5_of (c_t_now : Nat → Int32) (x1 : Int32) (x2 : Int32) : Option (Int32) :=
  (fX5_isFlow c_t_now x1).bind fun v1 =>
  (if v1 = 0 then
    some (-1)
  else
    (fX5_isIn x2 0 7).bind fun v4 =>
    (if v4 = 0 then
      some (-1)
    else
      (fX5_get c_t_now x1 x2).bind fun v7 =>
      some v7))
abbrev rmX5_of : Room := { frames := 2, cells := 0, slots := 0, locals := 43 }
theorem eX5_of : yY yX5_of wsX5_of cX5_of 3 (some .int) rmX5_of 2 := ⟨⟨_, rfl⟩, rfl, rfl, by decide, by decide, by decide +kernel⟩
set_option maxHeartbeats 4000000 in
set_option maxRecDepth 100000 in
theorem mX5_of {l : Launch} {D : va_G} {sz : Nat} {cI cJ cZ cW cR : ClassId} {h_t : Nat} {A_t : Nat → Nat} {c_t_many : Int32} {c_t_below : Int64} {c_t_above1 : Int64} {c_t_below1 : Int64} {c_t_now : Nat → Int32} {x1 : Int32} {x2 : Int32} {r : Int32} (hf : fX5_of c_t_now x1 x2 = some r) : Met l yX5_of wsX5_of rmX5_of (yP D (yT cI cJ cZ cW cR) [(h_t, oR A_t c_t_many c_t_below c_t_above1 c_t_below1), (A_t 0, eI cI 242 c_t_now)] sz [.ref h_t, .int x1, .int x2]) (yQi D (yT cI cJ cZ cW cR) r [(h_t, oR A_t c_t_many c_t_below c_t_above1 c_t_below1), (A_t 0, eI cI 242 c_t_now)] (va_A [(h_t, oR A_t c_t_many c_t_below c_t_above1 c_t_below1), (A_t 0, eI cI 242 c_t_now)] sz)) 0 0 (va_A [(h_t, oR A_t c_t_many c_t_below c_t_above1 c_t_below1), (A_t 0, eI cI 242 c_t_now)] sz) := by
  refine yM (cc := cX5_of) (maxL := 3) (ret := (some .int)) RX5 (by decide) rfl rfl (Nat.le_of_ble_eq_true rfl) ?_
  intro p e s m below meth c Γ hr
  show yG p l e (headSpec wsX5_of rmX5_of).room s m (List.toArray [.ref h_t, .int x1, .int x2]) below meth c D (va_A [(h_t, oR A_t c_t_many c_t_below c_t_above1 c_t_below1), (A_t 0, eI cI 242 c_t_now)] sz) 3 0 0 (MQ below (yQi D (yT cI cJ cZ cW cR) r [(h_t, oR A_t c_t_many c_t_below c_t_above1 c_t_below1), (A_t 0, eI cI 242 c_t_now)] (va_A [(h_t, oR A_t c_t_many c_t_below c_t_above1 c_t_below1), (A_t 0, eI cI 242 c_t_now)] sz)) (List.toArray [.ref h_t, .int x1, .int x2]) s 0 0 (va_A [(h_t, oR A_t c_t_many c_t_below c_t_above1 c_t_below1), (A_t 0, eI cI 242 c_t_now)] sz)) 0 [(0, .ref h_t), (1, .int x1), (2, .int x2)] [] [(h_t, oR A_t c_t_many c_t_below c_t_above1 c_t_below1), (A_t 0, eI cI 242 c_t_now)]
  unfold fX5_of at hf
  refine g_aload_n Γ 0 dX5_of_0 rfl ?_
  refine g_iload_n Γ 1 dX5_of_1 rfl ?_
  obtain ⟨v1, e2, hf⟩ := ya_ob hf
  refine g_vi (q := (RX5, TX5, 19)) (wr := []) (ws' := [(h_t, oR A_t c_t_many c_t_below c_t_above1 c_t_below1), (A_t 0, eI cI 242 c_t_now)]) Γ (fun sz => mX5_isFlow (l := l) (D := D) (sz := sz) (cI := cI) (cJ := cJ) (cZ := cZ) (cW := cW) (cR := cR) (h_t := h_t) (A_t := A_t) (hf := e2)) eX5_isFlow gX5_of_X5_isFlow rfl rfl 0 rfl rfl rfl (Nat.le_of_ble_eq_true rfl) ⟨Nat.le_of_ble_eq_true rfl, Nat.le_of_ble_eq_true rfl⟩ dX5_of_2 [0, 1] [] rfl rfl rfl rfl (by decide) rfl ?_
  refine g_if_eq Γ 27 dX5_of_5 (by decide) (fun c3 => ?_) (fun c3 => ?_)
  · have hf := ya_if1 c3 hf
    refine g_iconst (v := (-1)) Γ dX5_of_27 (by decide) ?_
    cases hf
    exact g_iret Γ hr dX5_of_28 [0, 1] rfl rfl
  · have hf := ya_if2 c3 hf
    refine g_iload_n Γ 2 dX5_of_8 rfl ?_
    refine g_iconst (v := 0) Γ dX5_of_9 (by decide) ?_
    refine g_bipush (v := 7) Γ dX5_of_10 (by decide) ?_
    obtain ⟨v4, e5, hf⟩ := ya_ob hf
    refine g_si (wr := [(h_t, oR A_t c_t_many c_t_below c_t_above1 c_t_below1), (A_t 0, eI cI 242 c_t_now)]) (ws' := [(h_t, oR A_t c_t_many c_t_below c_t_above1 c_t_below1), (A_t 0, eI cI 242 c_t_now)]) Γ (fun sz => mX5_isIn (l := l) (D := D) (sz := sz) (cI := cI) (cJ := cJ) (cZ := cZ) (cW := cW) (cR := cR)  (hf := e5)) eX5_isIn ggX5_of_X5_isIn (by decide +kernel) (by decide +kernel) (by decide +kernel) rfl rfl (Nat.le_of_ble_eq_true rfl) ⟨Nat.le_of_ble_eq_true rfl, Nat.le_of_ble_eq_true rfl⟩ dX5_of_12 [] [0, 1] rfl rfl rfl rfl (by decide) rfl ?_
    refine g_if_eq Γ 27 dX5_of_15 (by decide) (fun c6 => ?_) (fun c6 => ?_)
    · have hf := ya_if1 c6 hf
      refine g_iconst (v := (-1)) Γ dX5_of_27 (by decide) ?_
      cases hf
      exact g_iret Γ hr dX5_of_28 [0, 1] rfl rfl
    · have hf := ya_if2 c6 hf
      refine g_aload_n Γ 0 dX5_of_18 rfl ?_
      refine g_iload_n Γ 1 dX5_of_19 rfl ?_
      refine g_iload_n Γ 2 dX5_of_20 rfl ?_
      obtain ⟨v7, e8, hf⟩ := ya_ob hf
      refine g_vi (q := (RX5, TX5, 19)) (wr := []) (ws' := [(h_t, oR A_t c_t_many c_t_below c_t_above1 c_t_below1), (A_t 0, eI cI 242 c_t_now)]) Γ (fun sz => mX5_get (l := l) (D := D) (sz := sz) (cI := cI) (cJ := cJ) (cZ := cZ) (cW := cW) (cR := cR) (h_t := h_t) (A_t := A_t) (hf := e8)) eX5_get gX5_of_X5_get rfl rfl 0 rfl rfl rfl (Nat.le_of_ble_eq_true rfl) ⟨Nat.le_of_ble_eq_true rfl, Nat.le_of_ble_eq_true rfl⟩ dX5_of_21 [0, 1] [] rfl rfl rfl rfl (by decide) rfl ?_
      refine g_goto Γ 28 dX5_of_24 (by decide) ?_
      cases hf
      exact g_iret Γ hr dX5_of_28 [0, 1] rfl rfl

