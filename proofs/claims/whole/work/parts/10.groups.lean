theorem dX4_holds_0 : decode cX4_holds 0 = .ok (.iload_n 0, 1) := by decide +kernel
theorem dX4_holds_1 : decode cX4_holds 1 = .ok (.iload_n 1, 1) := by decide +kernel
theorem dX4_holds_2 : decode cX4_holds 2 = .ok (.ishr, 1) := by decide +kernel
theorem dX4_holds_3 : decode cX4_holds 3 = .ok (.iconst 1, 1) := by decide +kernel
theorem dX4_holds_4 : decode cX4_holds 4 = .ok (.iand, 1) := by decide +kernel
theorem dX4_holds_5 : decode cX4_holds 5 = .ok (.ifCond .eq 7, 3) := by decide +kernel
theorem dX4_holds_8 : decode cX4_holds 8 = .ok (.iconst 1, 1) := by decide +kernel
theorem dX4_holds_9 : decode cX4_holds 9 = .ok (.goto 4, 3) := by decide +kernel
theorem dX4_holds_12 : decode cX4_holds 12 = .ok (.iconst 0, 1) := by decide +kernel
theorem dX4_holds_13 : decode cX4_holds 13 = .ok (.ireturn, 1) := by decide +kernel
/-! ===== FlowMeters.holds(II)Z ===== -/
def fX4_holds  (x0 : Int32) (x1 : Int32) : Option (Int32) :=
  (if ((x0 >>> (x1 &&& 31)) &&& 1) = 0 then
    some 0
  else
    some 1)
abbrev rmX4_holds : Room := { frames := 0, cells := 0, slots := 0, locals := 0 }
theorem eX4_holds : yY yX4_holds wsX4_holds cX4_holds 2 (some .boolean) rmX4_holds 2 := ⟨⟨_, rfl⟩, rfl, rfl, by decide, by decide, by decide +kernel⟩
set_option maxHeartbeats 4000000 in
set_option maxRecDepth 100000 in
theorem mX4_holds {l : Launch} {D : va_G} {sz : Nat} {cI cJ cZ cW cR : ClassId} {x0 : Int32} {x1 : Int32} {r : Int32} (hf : fX4_holds x0 x1 = some r) : Met l yX4_holds wsX4_holds rmX4_holds (yP D (yT cI cJ cZ cW cR) [] sz [.int x0, .int x1]) (yQi D (yT cI cJ cZ cW cR) r [] (va_A [] sz)) 0 0 (va_A [] sz) := by
  refine yM (cc := cX4_holds) (maxL := 2) (ret := (some .boolean)) RX4 (by decide) rfl rfl (Nat.le_of_ble_eq_true rfl) ?_
  intro p e s m below meth c Γ hr
  show yG p l e (headSpec wsX4_holds rmX4_holds).room s m (List.toArray [.int x0, .int x1]) below meth c D (va_A [] sz) 2 0 0 (MQ below (yQi D (yT cI cJ cZ cW cR) r [] (va_A [] sz)) (List.toArray [.int x0, .int x1]) s 0 0 (va_A [] sz)) 0 [(0, .int x0), (1, .int x1)] [] []
  unfold fX4_holds at hf
  refine g_iload_n Γ 0 dX4_holds_0 rfl ?_
  refine g_iload_n Γ 1 dX4_holds_1 rfl ?_
  refine g_ishr Γ dX4_holds_2 ?_
  refine g_iconst (v := 1) Γ dX4_holds_3 (by decide) ?_
  refine g_iand Γ dX4_holds_4 ?_
  refine g_if_eq Γ 12 dX4_holds_5 (by decide) (fun c1 => ?_) (fun c1 => ?_)
  · have hf := ya_if1 c1 hf
    refine g_iconst (v := 0) Γ dX4_holds_12 (by decide) ?_
    cases hf
    exact g_zret Γ hr (show ya_bo 0 = some 0 from rfl) dX4_holds_13 [] rfl rfl
  · have hf := ya_if2 c1 hf
    refine g_iconst (v := 1) Γ dX4_holds_8 (by decide) ?_
    refine g_goto Γ 13 dX4_holds_9 (by decide) ?_
    cases hf
    exact g_zret Γ hr (show ya_bo 1 = some 1 from rfl) dX4_holds_13 [] rfl rfl

theorem dX1_parts_0 : decode cX1_parts 0 = .ok (.aload_n 0, 1) := by decide +kernel
theorem dX1_parts_1 : decode cX1_parts 1 = .ok (.getfield 9, 3) := by decide +kernel
theorem dX1_parts_4 : decode cX1_parts 4 = .ok (.aload_n 1, 1) := by decide +kernel
theorem dX1_parts_5 : decode cX1_parts 5 = .ok (.getfield 29, 3) := by decide +kernel
theorem dX1_parts_8 : decode cX1_parts 8 = .ok (.iload_n 2, 1) := by decide +kernel
theorem dX1_parts_9 : decode cX1_parts 9 = .ok (.iaload, 1) := by decide +kernel
theorem dX1_parts_10 : decode cX1_parts 10 = .ok (.iaload, 1) := by decide +kernel
theorem dX1_parts_11 : decode cX1_parts 11 = .ok (.aload_n 0, 1) := by decide +kernel
theorem dX1_parts_12 : decode cX1_parts 12 = .ok (.getfield 9, 3) := by decide +kernel
theorem dX1_parts_15 : decode cX1_parts 15 = .ok (.aload_n 1, 1) := by decide +kernel
theorem dX1_parts_16 : decode cX1_parts 16 = .ok (.getfield 32, 3) := by decide +kernel
theorem dX1_parts_19 : decode cX1_parts 19 = .ok (.iload_n 2, 1) := by decide +kernel
theorem dX1_parts_20 : decode cX1_parts 20 = .ok (.iaload, 1) := by decide +kernel
theorem dX1_parts_21 : decode cX1_parts 21 = .ok (.iaload, 1) := by decide +kernel
theorem dX1_parts_22 : decode cX1_parts 22 = .ok (.if_icmp .eq 7, 3) := by decide +kernel
theorem dX1_parts_25 : decode cX1_parts 25 = .ok (.iconst 1, 1) := by decide +kernel
theorem dX1_parts_26 : decode cX1_parts 26 = .ok (.goto 4, 3) := by decide +kernel
theorem dX1_parts_29 : decode cX1_parts 29 = .ok (.iconst 0, 1) := by decide +kernel
theorem dX1_parts_30 : decode cX1_parts 30 = .ok (.ireturn, 1) := by decide +kernel
/-! ===== FlowMeters$Groups.parts(LFlowMeters$Works;I)Z ===== -/
def fX1_parts (c_t_least : Nat → Int32) (c_w_from : Nat → Int32) (c_w_to : Nat → Int32) (x2 : Int32) : Option (Int32) :=
  (ya_rd c_w_from 10 x2).bind fun v1 =>
  (ya_rd c_t_least 6 v1).bind fun v3 =>
  (ya_rd c_w_to 10 x2).bind fun v5 =>
  (ya_rd c_t_least 6 v5).bind fun v7 =>
  (if v3 = v7 then
    some 0
  else
    some 1)
theorem fX1_parts_9 : yF wsX1_parts RX1 9 1 0 RX1 TX1 1 := ⟨rfl, by decide, by decide +kernel, by decide +kernel⟩
theorem fX1_parts_29 : yF wsX1_parts RX1 29 3 3 RX3 TX3 11 := ⟨rfl, by decide, by decide +kernel, by decide +kernel⟩
theorem fX1_parts_32 : yF wsX1_parts RX1 32 3 4 RX3 TX3 11 := ⟨rfl, by decide, by decide +kernel, by decide +kernel⟩
abbrev rmX1_parts : Room := { frames := 0, cells := 0, slots := 0, locals := 0 }
theorem eX1_parts : yY yX1_parts wsX1_parts cX1_parts 3 (some .boolean) rmX1_parts 2 := ⟨⟨_, rfl⟩, rfl, rfl, by decide, by decide, by decide +kernel⟩
set_option maxHeartbeats 4000000 in
set_option maxRecDepth 100000 in
theorem mX1_parts {l : Launch} {D : va_G} {sz : Nat} {cI cJ cZ cW cR : ClassId} {h_t : Nat} {h_w : Nat} {A_t : Nat → Nat} {A_w : Nat → Nat} {c_t_least : Nat → Int32} {c_w_knots : Int32} {c_w_flows : Int32} {c_w_readSet : Int32} {c_w_from : Nat → Int32} {c_w_to : Nat → Int32} {x2 : Int32} {r : Int32} (hf : fX1_parts c_t_least c_w_from c_w_to x2 = some r) : Met l yX1_parts wsX1_parts rmX1_parts (yP D (yT cI cJ cZ cW cR) [(h_t, oG A_t), (A_t 0, eI cI 6 c_t_least), (h_w, oW A_w c_w_knots c_w_flows c_w_readSet), (A_w 0, eI cI 10 c_w_from), (A_w 1, eI cI 10 c_w_to)] sz [.ref h_t, .ref h_w, .int x2]) (yQi D (yT cI cJ cZ cW cR) r [(h_t, oG A_t), (A_t 0, eI cI 6 c_t_least), (h_w, oW A_w c_w_knots c_w_flows c_w_readSet), (A_w 0, eI cI 10 c_w_from), (A_w 1, eI cI 10 c_w_to)] (va_A [(h_t, oG A_t), (A_t 0, eI cI 6 c_t_least), (h_w, oW A_w c_w_knots c_w_flows c_w_readSet), (A_w 0, eI cI 10 c_w_from), (A_w 1, eI cI 10 c_w_to)] sz)) 0 0 (va_A [(h_t, oG A_t), (A_t 0, eI cI 6 c_t_least), (h_w, oW A_w c_w_knots c_w_flows c_w_readSet), (A_w 0, eI cI 10 c_w_from), (A_w 1, eI cI 10 c_w_to)] sz) := by
  refine yM (cc := cX1_parts) (maxL := 3) (ret := (some .boolean)) RX1 (by decide) rfl rfl (Nat.le_of_ble_eq_true rfl) ?_
  intro p e s m below meth c Γ hr
  show yG p l e (headSpec wsX1_parts rmX1_parts).room s m (List.toArray [.ref h_t, .ref h_w, .int x2]) below meth c D (va_A [(h_t, oG A_t), (A_t 0, eI cI 6 c_t_least), (h_w, oW A_w c_w_knots c_w_flows c_w_readSet), (A_w 0, eI cI 10 c_w_from), (A_w 1, eI cI 10 c_w_to)] sz) 3 0 0 (MQ below (yQi D (yT cI cJ cZ cW cR) r [(h_t, oG A_t), (A_t 0, eI cI 6 c_t_least), (h_w, oW A_w c_w_knots c_w_flows c_w_readSet), (A_w 0, eI cI 10 c_w_from), (A_w 1, eI cI 10 c_w_to)] (va_A [(h_t, oG A_t), (A_t 0, eI cI 6 c_t_least), (h_w, oW A_w c_w_knots c_w_flows c_w_readSet), (A_w 0, eI cI 10 c_w_from), (A_w 1, eI cI 10 c_w_to)] sz)) (List.toArray [.ref h_t, .ref h_w, .int x2]) s 0 0 (va_A [(h_t, oG A_t), (A_t 0, eI cI 6 c_t_least), (h_w, oW A_w c_w_knots c_w_flows c_w_readSet), (A_w 0, eI cI 10 c_w_from), (A_w 1, eI cI 10 c_w_to)] sz)) 0 [(0, .ref h_t), (1, .ref h_w), (2, .int x2)] [] [(h_t, oG A_t), (A_t 0, eI cI 6 c_t_least), (h_w, oW A_w c_w_knots c_w_flows c_w_readSet), (A_w 0, eI cI 10 c_w_from), (A_w 1, eI cI 10 c_w_to)]
  unfold fX1_parts at hf
  refine g_aload_n Γ 0 dX1_parts_0 rfl ?_
  refine g_get Γ fX1_parts_9 0 rfl rfl dX1_parts_1 ?_
  refine g_aload_n Γ 1 dX1_parts_4 rfl ?_
  refine g_get Γ fX1_parts_29 2 rfl rfl dX1_parts_5 ?_
  refine g_iload_n Γ 2 dX1_parts_8 rfl ?_
  obtain ⟨v1, e2, hf⟩ := ya_ob hf
  refine g_iald Γ e2 3 0 rfl rfl dX1_parts_9 ?_
  obtain ⟨v3, e4, hf⟩ := ya_ob hf
  refine g_iald Γ e4 1 0 rfl rfl dX1_parts_10 ?_
  refine g_aload_n Γ 0 dX1_parts_11 rfl ?_
  refine g_get Γ fX1_parts_9 0 rfl rfl dX1_parts_12 ?_
  refine g_aload_n Γ 1 dX1_parts_15 rfl ?_
  refine g_get Γ fX1_parts_32 2 rfl rfl dX1_parts_16 ?_
  refine g_iload_n Γ 2 dX1_parts_19 rfl ?_
  obtain ⟨v5, e6, hf⟩ := ya_ob hf
  refine g_iald Γ e6 4 0 rfl rfl dX1_parts_20 ?_
  obtain ⟨v7, e8, hf⟩ := ya_ob hf
  refine g_iald Γ e8 1 0 rfl rfl dX1_parts_21 ?_
  refine g_icmp_eq Γ 29 dX1_parts_22 (by decide) (fun c9 => ?_) (fun c9 => ?_)
  · have hf := ya_if1 c9 hf
    refine g_iconst (v := 0) Γ dX1_parts_29 (by decide) ?_
    cases hf
    exact g_zret Γ hr (show ya_bo 0 = some 0 from rfl) dX1_parts_30 [0, 1, 2, 3, 4] rfl rfl
  · have hf := ya_if2 c9 hf
    refine g_iconst (v := 1) Γ dX1_parts_25 (by decide) ?_
    refine g_goto Γ 30 dX1_parts_26 (by decide) ?_
    cases hf
    exact g_zret Γ hr (show ya_bo 1 = some 1 from rfl) dX1_parts_30 [0, 1, 2, 3, 4] rfl rfl

theorem dX1_join_0 : decode cX1_join 0 = .ok (.iload_n 1, 1) := by decide +kernel
theorem dX1_join_1 : decode cX1_join 1 = .ok (.iload_n 2, 1) := by decide +kernel
theorem dX1_join_2 : decode cX1_join 2 = .ok (.invokestatic 39, 3) := by decide +kernel
theorem dX1_join_5 : decode cX1_join 5 = .ok (.istore_n 3, 1) := by decide +kernel
theorem dX1_join_6 : decode cX1_join 6 = .ok (.iload_n 1, 1) := by decide +kernel
theorem dX1_join_7 : decode cX1_join 7 = .ok (.iload_n 2, 1) := by decide +kernel
theorem dX1_join_8 : decode cX1_join 8 = .ok (.invokestatic 45, 3) := by decide +kernel
theorem dX1_join_11 : decode cX1_join 11 = .ok (.istore 4, 2) := by decide +kernel
theorem dX1_join_13 : decode cX1_join 13 = .ok (.iconst 0, 1) := by decide +kernel
theorem dX1_join_14 : decode cX1_join 14 = .ok (.istore 5, 2) := by decide +kernel
theorem dX1_join_16 : decode cX1_join 16 = .ok (.iload 5, 2) := by decide +kernel
theorem dX1_join_18 : decode cX1_join 18 = .ok (.bipush 6, 2) := by decide +kernel
theorem dX1_join_20 : decode cX1_join 20 = .ok (.if_icmp .ge 29, 3) := by decide +kernel
theorem dX1_join_23 : decode cX1_join 23 = .ok (.aload_n 0, 1) := by decide +kernel
theorem dX1_join_24 : decode cX1_join 24 = .ok (.getfield 9, 3) := by decide +kernel
theorem dX1_join_27 : decode cX1_join 27 = .ok (.iload 5, 2) := by decide +kernel
theorem dX1_join_29 : decode cX1_join 29 = .ok (.iaload, 1) := by decide +kernel
theorem dX1_join_30 : decode cX1_join 30 = .ok (.iload 4, 2) := by decide +kernel
theorem dX1_join_32 : decode cX1_join 32 = .ok (.if_icmp .ne 11, 3) := by decide +kernel
theorem dX1_join_35 : decode cX1_join 35 = .ok (.aload_n 0, 1) := by decide +kernel
theorem dX1_join_36 : decode cX1_join 36 = .ok (.getfield 9, 3) := by decide +kernel
theorem dX1_join_39 : decode cX1_join 39 = .ok (.iload 5, 2) := by decide +kernel
theorem dX1_join_41 : decode cX1_join 41 = .ok (.iload_n 3, 1) := by decide +kernel
theorem dX1_join_42 : decode cX1_join 42 = .ok (.iastore, 1) := by decide +kernel
theorem dX1_join_43 : decode cX1_join 43 = .ok (.iinc 5 1, 3) := by decide +kernel
theorem dX1_join_46 : decode cX1_join 46 = .ok (.goto (-30), 3) := by decide +kernel
theorem dX1_join_49 : decode cX1_join 49 = .ok (.return_, 1) := by decide +kernel
/-! ===== FlowMeters$Groups.join(II)V ===== -/
def fX1_join_L16 (N : Nat) (n : Nat) (y3 : Int32) (y4 : Int32) (y5 : Int32) (d_t_least : Nat → Int32) : Option (Nat → Int32) := match n with
  | 0 => none
  | n + 1 =>
    (if 6 ≤ y5 then
        some d_t_least
      else
        (ya_rd d_t_least 6 y5).bind fun v6 =>
        (if v6 = y4 then
          (ya_wr d_t_least 6 y5 y3).bind fun v11 =>
          ya_lt (y5 + 1) fun v13 =>
          fX1_join_L16 N n y3 y4 v13 v11
        else
          ya_lt (y5 + 1) fun v9 =>
          fX1_join_L16 N n y3 y4 v9 d_t_least))
def fX1_join (N : Nat) (c_t_least : Nat → Int32) (x1 : Int32) (x2 : Int32) : Option (Nat → Int32) :=
  ya_lt (if x2 < x1 then x2 else x1) fun v1 =>
  ya_lt (if x1 < x2 then x2 else x1) fun v3 =>
  (fX1_join_L16 N N v1 v3 0 c_t_least).bind fun v15 =>
  some v15
theorem fX1_join_9 : yF wsX1_join RX1 9 1 0 RX1 TX1 1 := ⟨rfl, by decide, by decide +kernel, by decide +kernel⟩
abbrev rmX1_join : Room := { frames := 1, cells := 0, slots := 0, locals := 48 }
theorem eX1_join : yY yX1_join wsX1_join cX1_join 6 none rmX1_join 2 := ⟨⟨_, rfl⟩, rfl, rfl, by decide, by decide, by decide +kernel⟩
set_option maxHeartbeats 4000000 in
set_option maxRecDepth 100000 in
theorem mX1_join {l : Launch} {D : va_G} {sz : Nat} {cI cJ cZ cW cR : ClassId} {N : Nat} {h_t : Nat} {A_t : Nat → Nat} {c_t_least : Nat → Int32} {x1 : Int32} {x2 : Int32} {zc_t_least : Nat → Int32} (hf : fX1_join N c_t_least x1 x2 = some zc_t_least) : Met l yX1_join wsX1_join rmX1_join (yP D (yT cI cJ cZ cW cR) [(h_t, oG A_t), (A_t 0, eI cI 6 c_t_least)] sz [.ref h_t, .int x1, .int x2]) (yQv D (yT cI cJ cZ cW cR) [(h_t, oG A_t), (A_t 0, eI cI 6 zc_t_least)] (va_A [(h_t, oG A_t), (A_t 0, eI cI 6 c_t_least)] sz)) 0 0 (va_A [(h_t, oG A_t), (A_t 0, eI cI 6 c_t_least)] sz) := by
  refine yM (cc := cX1_join) (maxL := 6) (ret := none) RX1 (by decide) rfl rfl (Nat.le_of_ble_eq_true rfl) ?_
  intro p e s m below meth c Γ hr
  have loop16 : ∀ (n : Nat) (y3 : Int32) (y4 : Int32) (y5 : Int32) (d_t_least : Nat → Int32) (w0 : Nat → Int32), fX1_join_L16 N n y3 y4 y5 d_t_least = some w0 → yG p l e (headSpec wsX1_join rmX1_join).room s m (List.toArray [.ref h_t, .int x1, .int x2]) below meth c D (va_A [(h_t, oG A_t), (A_t 0, eI cI 6 c_t_least)] sz) 6 0 0 (MQ below (yQv D (yT cI cJ cZ cW cR) [(h_t, oG A_t), (A_t 0, eI cI 6 zc_t_least)] (va_A [(h_t, oG A_t), (A_t 0, eI cI 6 c_t_least)] sz)) (List.toArray [.ref h_t, .int x1, .int x2]) s 0 0 (va_A [(h_t, oG A_t), (A_t 0, eI cI 6 c_t_least)] sz)) 49 [] [] [(h_t, oG A_t), (A_t 0, eI cI 6 w0)] → yG p l e (headSpec wsX1_join rmX1_join).room s m (List.toArray [.ref h_t, .int x1, .int x2]) below meth c D (va_A [(h_t, oG A_t), (A_t 0, eI cI 6 c_t_least)] sz) 6 0 0 (MQ below (yQv D (yT cI cJ cZ cW cR) [(h_t, oG A_t), (A_t 0, eI cI 6 zc_t_least)] (va_A [(h_t, oG A_t), (A_t 0, eI cI 6 c_t_least)] sz)) (List.toArray [.ref h_t, .int x1, .int x2]) s 0 0 (va_A [(h_t, oG A_t), (A_t 0, eI cI 6 c_t_least)] sz)) 16 [(0, .ref h_t), (3, .int y3), (4, .int y4), (5, .int y5)] [] [(h_t, oG A_t), (A_t 0, eI cI 6 d_t_least)] := by
    intro n
    induction n with
    | zero =>
      intro y3 y4 y5 d_t_least w0 hf
      cases hf
    | succ n ih =>
      intro y3 y4 y5 d_t_least w0 hf hk
      unfold fX1_join_L16 at hf
      refine g_iload Γ 3 dX1_join_16 rfl ?_
      refine g_bipush (v := 6) Γ dX1_join_18 (by decide) ?_
      refine g_icmp_ge Γ 49 dX1_join_20 (by decide) (fun c5 => ?_) (fun c5 => ?_)
      · have hf := ya_if1 c5 hf
        cases hf
        refine g_lv [] rfl ?_
        exact hk
      · have hf := ya_if2 c5 hf
        refine g_aload_n Γ 0 dX1_join_23 rfl ?_
        refine g_get Γ fX1_join_9 0 rfl rfl dX1_join_24 ?_
        refine g_iload Γ 3 dX1_join_27 rfl ?_
        obtain ⟨v6, e7, hf⟩ := ya_ob hf
        refine g_iald Γ e7 1 0 rfl rfl dX1_join_29 ?_
        refine g_iload Γ 2 dX1_join_30 rfl ?_
        refine g_icmp_ne Γ 43 dX1_join_32 (by decide) (fun c8 => ?_) (fun c8 => ?_)
        · have hf := ya_if2 c8 hf
          obtain ⟨v9, e10, hf⟩ := ya_lt_inv hf
          refine g_iinc (lv' := [(5, .int v9), (0, .ref h_t), (3, .int y3), (4, .int y4)]) Γ 3 dX1_join_43 rfl (by rw [e10]; rfl) (by decide) rfl ?_
          refine g_goto Γ 16 dX1_join_46 (by decide) ?_
          refine g_lv [1, 2, 3, 0] rfl ?_
          exact ih _ _ _ _ _ hf hk
        · have hf := ya_if1 c8 hf
          refine g_aload_n Γ 0 dX1_join_35 rfl ?_
          refine g_get Γ fX1_join_9 0 rfl rfl dX1_join_36 ?_
          refine g_iload Γ 3 dX1_join_39 rfl ?_
          refine g_iload_n Γ 1 dX1_join_41 rfl ?_
          obtain ⟨v11, e12, hf⟩ := ya_ob hf
          refine g_iast (ws' := [(h_t, oG A_t), (A_t 0, eI cI 6 v11)]) Γ e12 1 0 rfl rfl dX1_join_42 rfl ?_
          obtain ⟨v13, e14, hf⟩ := ya_lt_inv hf
          refine g_iinc (lv' := [(5, .int v13), (0, .ref h_t), (3, .int y3), (4, .int y4)]) Γ 3 dX1_join_43 rfl (by rw [e14]; rfl) (by decide) rfl ?_
          refine g_goto Γ 16 dX1_join_46 (by decide) ?_
          refine g_lv [1, 2, 3, 0] rfl ?_
          exact ih _ _ _ _ _ hf hk
  show yG p l e (headSpec wsX1_join rmX1_join).room s m (List.toArray [.ref h_t, .int x1, .int x2]) below meth c D (va_A [(h_t, oG A_t), (A_t 0, eI cI 6 c_t_least)] sz) 6 0 0 (MQ below (yQv D (yT cI cJ cZ cW cR) [(h_t, oG A_t), (A_t 0, eI cI 6 zc_t_least)] (va_A [(h_t, oG A_t), (A_t 0, eI cI 6 c_t_least)] sz)) (List.toArray [.ref h_t, .int x1, .int x2]) s 0 0 (va_A [(h_t, oG A_t), (A_t 0, eI cI 6 c_t_least)] sz)) 0 [(0, .ref h_t), (1, .int x1), (2, .int x2)] [] [(h_t, oG A_t), (A_t 0, eI cI 6 c_t_least)]
  unfold fX1_join at hf
  refine g_iload_n Γ 1 dX1_join_0 rfl ?_
  refine g_iload_n Γ 2 dX1_join_1 rfl ?_
  refine g_mmin Γ (by decide +kernel) (by decide +kernel) (by decide +kernel) (by decide +kernel) (Nat.le_of_ble_eq_true rfl) (Nat.le_of_ble_eq_true rfl) dX1_join_2 ?_
  obtain ⟨v1, e2, hf⟩ := ya_lt_inv hf
  refine g_nmi e2 ?_
  refine g_istore_n (lv' := [(3, .int v1), (0, .ref h_t), (1, .int x1), (2, .int x2)]) Γ dX1_join_5 (by decide) rfl ?_
  refine g_iload_n Γ 2 dX1_join_6 rfl ?_
  refine g_iload_n Γ 3 dX1_join_7 rfl ?_
  refine g_mmax Γ (by decide +kernel) (by decide +kernel) (by decide +kernel) (by decide +kernel) (Nat.le_of_ble_eq_true rfl) (Nat.le_of_ble_eq_true rfl) dX1_join_8 ?_
  obtain ⟨v3, e4, hf⟩ := ya_lt_inv hf
  refine g_nmi e4 ?_
  refine g_istore (lv' := [(4, .int v3), (3, .int v1), (0, .ref h_t), (1, .int x1), (2, .int x2)]) Γ dX1_join_11 (by decide) rfl ?_
  refine g_iconst (v := 0) Γ dX1_join_13 (by decide) ?_
  refine g_istore (lv' := [(5, .int 0), (4, .int v3), (3, .int v1), (0, .ref h_t), (1, .int x1), (2, .int x2)]) Γ dX1_join_14 (by decide) rfl ?_
  obtain ⟨v15, e16, hf⟩ := ya_ob hf
  refine g_lv [3, 2, 1, 0] rfl ?_
  refine loop16 N _ _ _ _ _ e16  ?_
  cases hf
  exact g_vret Γ hr dX1_join_49 [0, 1] rfl rfl

set_option maxRecDepth 20000 in
theorem ggX1_gather_X4_holds : GoodIn wsX1_gather wsX4_holds := goodIn_r _ [7] (by decide +kernel) (by decide +kernel)
set_option maxRecDepth 20000 in
theorem gX1_gather_X4_holds_n21 : GoodIn wsX1_gather (wsX4_holds) := ggX1_gather_X4_holds
set_option maxRecDepth 20000 in
theorem ggX1_gather_X1_parts : GoodIn wsX1_gather wsX1_parts := goodIn_r _ [12, 1, 3, 4, 24, 25, 26, 27, 28, 29, 30, 31, 32, 33, 34, 35] (by decide +kernel) (by decide +kernel)
set_option maxRecDepth 20000 in
theorem gX1_gather_X1_parts : GoodIn wsX1_gather (wsV RX1 25 RX1 yX1_parts wsX1_parts) := goodIn_app (goodIn_of _ (by decide +kernel)) ggX1_gather_X1_parts
set_option maxRecDepth 20000 in
theorem ggX1_gather_X1_join : GoodIn wsX1_gather wsX1_join := goodIn_r _ [16, 17, 18, 19, 20, 21, 22, 23, 1, 24] (by decide +kernel) (by decide +kernel)
set_option maxRecDepth 20000 in
theorem gX1_gather_X1_join : GoodIn wsX1_gather (wsV RX1 35 RX1 yX1_join wsX1_join) := goodIn_app (goodIn_of _ (by decide +kernel)) ggX1_gather_X1_join
theorem dX1_gather_0 : decode cX1_gather 0 = .ok (.iconst 0, 1) := by decide +kernel
theorem dX1_gather_1 : decode cX1_gather 1 = .ok (.istore_n 3, 1) := by decide +kernel
theorem dX1_gather_2 : decode cX1_gather 2 = .ok (.iload_n 3, 1) := by decide +kernel
theorem dX1_gather_3 : decode cX1_gather 3 = .ok (.bipush 6, 2) := by decide +kernel
theorem dX1_gather_5 : decode cX1_gather 5 = .ok (.if_icmp .ge 16, 3) := by decide +kernel
theorem dX1_gather_8 : decode cX1_gather 8 = .ok (.aload_n 0, 1) := by decide +kernel
theorem dX1_gather_9 : decode cX1_gather 9 = .ok (.getfield 9, 3) := by decide +kernel
theorem dX1_gather_12 : decode cX1_gather 12 = .ok (.iload_n 3, 1) := by decide +kernel
theorem dX1_gather_13 : decode cX1_gather 13 = .ok (.iload_n 3, 1) := by decide +kernel
theorem dX1_gather_14 : decode cX1_gather 14 = .ok (.iastore, 1) := by decide +kernel
theorem dX1_gather_15 : decode cX1_gather 15 = .ok (.iinc 3 1, 3) := by decide +kernel
theorem dX1_gather_18 : decode cX1_gather 18 = .ok (.goto (-16), 3) := by decide +kernel
theorem dX1_gather_21 : decode cX1_gather 21 = .ok (.iconst 1, 1) := by decide +kernel
theorem dX1_gather_22 : decode cX1_gather 22 = .ok (.istore_n 3, 1) := by decide +kernel
theorem dX1_gather_23 : decode cX1_gather 23 = .ok (.iconst 0, 1) := by decide +kernel
theorem dX1_gather_24 : decode cX1_gather 24 = .ok (.istore 4, 2) := by decide +kernel
theorem dX1_gather_26 : decode cX1_gather 26 = .ok (.iload 4, 2) := by decide +kernel
theorem dX1_gather_28 : decode cX1_gather 28 = .ok (.aload_n 1, 1) := by decide +kernel
theorem dX1_gather_29 : decode cX1_gather 29 = .ok (.getfield 15, 3) := by decide +kernel
theorem dX1_gather_32 : decode cX1_gather 32 = .ok (.if_icmp .ge 64, 3) := by decide +kernel
theorem dX1_gather_35 : decode cX1_gather 35 = .ok (.iload_n 2, 1) := by decide +kernel
theorem dX1_gather_36 : decode cX1_gather 36 = .ok (.iload 4, 2) := by decide +kernel
theorem dX1_gather_38 : decode cX1_gather 38 = .ok (.invokestatic 21, 3) := by decide +kernel
theorem dX1_gather_41 : decode cX1_gather 41 = .ok (.ifCond .ne 6, 3) := by decide +kernel
theorem dX1_gather_44 : decode cX1_gather 44 = .ok (.goto 46, 3) := by decide +kernel
theorem dX1_gather_47 : decode cX1_gather 47 = .ok (.aload_n 0, 1) := by decide +kernel
theorem dX1_gather_48 : decode cX1_gather 48 = .ok (.aload_n 1, 1) := by decide +kernel
theorem dX1_gather_49 : decode cX1_gather 49 = .ok (.iload 4, 2) := by decide +kernel
theorem dX1_gather_51 : decode cX1_gather 51 = .ok (.invokevirtual 25, 3) := by decide +kernel
theorem dX1_gather_54 : decode cX1_gather 54 = .ok (.ifCond .eq 34, 3) := by decide +kernel
theorem dX1_gather_57 : decode cX1_gather 57 = .ok (.aload_n 0, 1) := by decide +kernel
theorem dX1_gather_58 : decode cX1_gather 58 = .ok (.aload_n 0, 1) := by decide +kernel
theorem dX1_gather_59 : decode cX1_gather 59 = .ok (.getfield 9, 3) := by decide +kernel
theorem dX1_gather_62 : decode cX1_gather 62 = .ok (.aload_n 1, 1) := by decide +kernel
theorem dX1_gather_63 : decode cX1_gather 63 = .ok (.getfield 29, 3) := by decide +kernel
theorem dX1_gather_66 : decode cX1_gather 66 = .ok (.iload 4, 2) := by decide +kernel
theorem dX1_gather_68 : decode cX1_gather 68 = .ok (.iaload, 1) := by decide +kernel
theorem dX1_gather_69 : decode cX1_gather 69 = .ok (.iaload, 1) := by decide +kernel
theorem dX1_gather_70 : decode cX1_gather 70 = .ok (.aload_n 0, 1) := by decide +kernel
theorem dX1_gather_71 : decode cX1_gather 71 = .ok (.getfield 9, 3) := by decide +kernel
theorem dX1_gather_74 : decode cX1_gather 74 = .ok (.aload_n 1, 1) := by decide +kernel
theorem dX1_gather_75 : decode cX1_gather 75 = .ok (.getfield 32, 3) := by decide +kernel
theorem dX1_gather_78 : decode cX1_gather 78 = .ok (.iload 4, 2) := by decide +kernel
theorem dX1_gather_80 : decode cX1_gather 80 = .ok (.iaload, 1) := by decide +kernel
theorem dX1_gather_81 : decode cX1_gather 81 = .ok (.iaload, 1) := by decide +kernel
theorem dX1_gather_82 : decode cX1_gather 82 = .ok (.invokevirtual 35, 3) := by decide +kernel
theorem dX1_gather_85 : decode cX1_gather 85 = .ok (.goto 5, 3) := by decide +kernel
theorem dX1_gather_88 : decode cX1_gather 88 = .ok (.iconst 0, 1) := by decide +kernel
theorem dX1_gather_89 : decode cX1_gather 89 = .ok (.istore_n 3, 1) := by decide +kernel
theorem dX1_gather_90 : decode cX1_gather 90 = .ok (.iinc 4 1, 3) := by decide +kernel
theorem dX1_gather_93 : decode cX1_gather 93 = .ok (.goto (-67), 3) := by decide +kernel
theorem dX1_gather_96 : decode cX1_gather 96 = .ok (.iload_n 3, 1) := by decide +kernel
theorem dX1_gather_97 : decode cX1_gather 97 = .ok (.ireturn, 1) := by decide +kernel
/-! ===== FlowMeters$Groups.gather(LFlowMeters$Works;I)Z ===== -/
def fX1_gather_L2 (N : Nat) (n : Nat) (y2 : Int32) (y3 : Int32) (d_t_least : Nat → Int32) : Option (Nat → Int32) := match n with
  | 0 => none
  | n + 1 =>
    (if 6 ≤ y3 then
        some d_t_least
      else
        (ya_wr d_t_least 6 y3 y3).bind fun v2 =>
        ya_lt (y3 + 1) fun v4 =>
        fX1_gather_L2 N n y2 v4 v2)
def fX1_gather_L26 (N : Nat) (n : Nat) (y2 : Int32) (y3 : Int32) (y4 : Int32) (d_t_least : Nat → Int32) (d_w_flows : Int32) (d_w_from : Nat → Int32) (d_w_to : Nat → Int32) : Option (Int32 × (Nat → Int32)) := match n with
  | 0 => none
  | n + 1 =>
    (if d_w_flows ≤ y4 then
        some (y3, d_t_least)
      else
        (fX4_holds y2 y4).bind fun v9 =>
        (if v9 = 0 then
          ya_lt (y4 + 1) fun v29 =>
          fX1_gather_L26 N n y2 y3 v29 d_t_least d_w_flows d_w_from d_w_to
        else
          (fX1_parts d_t_least d_w_from d_w_to y4).bind fun v12 =>
          (if v12 = 0 then
            ya_lt (y4 + 1) fun v15 =>
            fX1_gather_L26 N n y2 0 v15 d_t_least d_w_flows d_w_from d_w_to
          else
            (ya_rd d_w_from 10 y4).bind fun v17 =>
            (ya_rd d_t_least 6 v17).bind fun v19 =>
            (ya_rd d_w_to 10 y4).bind fun v21 =>
            (ya_rd d_t_least 6 v21).bind fun v23 =>
            (fX1_join N d_t_least v19 v23).bind fun v25 =>
            ya_lt (y4 + 1) fun v27 =>
            fX1_gather_L26 N n y2 y3 v27 v25 d_w_flows d_w_from d_w_to)))
def fX1_gather (N : Nat) (c_t_least : Nat → Int32) (c_w_flows : Int32) (c_w_from : Nat → Int32) (c_w_to : Nat → Int32) (x2 : Int32) : Option (Int32 × (Nat → Int32)) :=
  (fX1_gather_L2 N N x2 0 c_t_least).bind fun v6 =>
  (fX1_gather_L26 N N x2 1 0 v6 c_w_flows c_w_from c_w_to).bind fun (v31, v32) =>
  (ya_bo v31).bind fun v34 => some (v34, v32)
theorem fX1_gather_9 : yF wsX1_gather RX1 9 1 0 RX1 TX1 1 := ⟨rfl, by decide, by decide +kernel, by decide +kernel⟩
theorem fX1_gather_15 : yF wsX1_gather RX1 15 3 1 RX3 TX3 11 := ⟨rfl, by decide, by decide +kernel, by decide +kernel⟩
theorem fX1_gather_29 : yF wsX1_gather RX1 29 3 3 RX3 TX3 11 := ⟨rfl, by decide, by decide +kernel, by decide +kernel⟩
theorem fX1_gather_32 : yF wsX1_gather RX1 32 3 4 RX3 TX3 11 := ⟨rfl, by decide, by decide +kernel, by decide +kernel⟩
abbrev rmX1_gather : Room := { frames := 2, cells := 0, slots := 0, locals := 73 }
theorem eX1_gather : yY yX1_gather wsX1_gather cX1_gather 5 (some .boolean) rmX1_gather 2 := ⟨⟨_, rfl⟩, rfl, rfl, by decide, by decide, by decide +kernel⟩
set_option maxHeartbeats 4000000 in
set_option maxRecDepth 100000 in
theorem mX1_gather {l : Launch} {D : va_G} {sz : Nat} {cI cJ cZ cW cR : ClassId} {N : Nat} {h_t : Nat} {h_w : Nat} {A_t : Nat → Nat} {A_w : Nat → Nat} {c_t_least : Nat → Int32} {c_w_knots : Int32} {c_w_flows : Int32} {c_w_readSet : Int32} {c_w_from : Nat → Int32} {c_w_to : Nat → Int32} {x2 : Int32} {r : Int32} {zc_t_least : Nat → Int32} (hf : fX1_gather N c_t_least c_w_flows c_w_from c_w_to x2 = some (r, zc_t_least)) : Met l yX1_gather wsX1_gather rmX1_gather (yP D (yT cI cJ cZ cW cR) [(h_t, oG A_t), (A_t 0, eI cI 6 c_t_least), (h_w, oW A_w c_w_knots c_w_flows c_w_readSet), (A_w 0, eI cI 10 c_w_from), (A_w 1, eI cI 10 c_w_to)] sz [.ref h_t, .ref h_w, .int x2]) (yQi D (yT cI cJ cZ cW cR) r [(h_t, oG A_t), (A_t 0, eI cI 6 zc_t_least), (h_w, oW A_w c_w_knots c_w_flows c_w_readSet), (A_w 0, eI cI 10 c_w_from), (A_w 1, eI cI 10 c_w_to)] (va_A [(h_t, oG A_t), (A_t 0, eI cI 6 c_t_least), (h_w, oW A_w c_w_knots c_w_flows c_w_readSet), (A_w 0, eI cI 10 c_w_from), (A_w 1, eI cI 10 c_w_to)] sz)) 0 0 (va_A [(h_t, oG A_t), (A_t 0, eI cI 6 c_t_least), (h_w, oW A_w c_w_knots c_w_flows c_w_readSet), (A_w 0, eI cI 10 c_w_from), (A_w 1, eI cI 10 c_w_to)] sz) := by
  refine yM (cc := cX1_gather) (maxL := 5) (ret := (some .boolean)) RX1 (by decide) rfl rfl (Nat.le_of_ble_eq_true rfl) ?_
  intro p e s m below meth c Γ hr
  have loop2 : ∀ (n : Nat) (y2 : Int32) (y3 : Int32) (d_t_least : Nat → Int32) (d_w_knots : Int32) (d_w_flows : Int32) (d_w_readSet : Int32) (d_w_from : Nat → Int32) (d_w_to : Nat → Int32) (w0 : Nat → Int32), fX1_gather_L2 N n y2 y3 d_t_least = some w0 → yG p l e (headSpec wsX1_gather rmX1_gather).room s m (List.toArray [.ref h_t, .ref h_w, .int x2]) below meth c D (va_A [(h_t, oG A_t), (A_t 0, eI cI 6 c_t_least), (h_w, oW A_w c_w_knots c_w_flows c_w_readSet), (A_w 0, eI cI 10 c_w_from), (A_w 1, eI cI 10 c_w_to)] sz) 5 0 0 (MQ below (yQi D (yT cI cJ cZ cW cR) r [(h_t, oG A_t), (A_t 0, eI cI 6 zc_t_least), (h_w, oW A_w c_w_knots c_w_flows c_w_readSet), (A_w 0, eI cI 10 c_w_from), (A_w 1, eI cI 10 c_w_to)] (va_A [(h_t, oG A_t), (A_t 0, eI cI 6 c_t_least), (h_w, oW A_w c_w_knots c_w_flows c_w_readSet), (A_w 0, eI cI 10 c_w_from), (A_w 1, eI cI 10 c_w_to)] sz)) (List.toArray [.ref h_t, .ref h_w, .int x2]) s 0 0 (va_A [(h_t, oG A_t), (A_t 0, eI cI 6 c_t_least), (h_w, oW A_w c_w_knots c_w_flows c_w_readSet), (A_w 0, eI cI 10 c_w_from), (A_w 1, eI cI 10 c_w_to)] sz)) 21 [(0, .ref h_t), (1, .ref h_w), (2, .int y2)] [] [(h_t, oG A_t), (A_t 0, eI cI 6 w0), (h_w, oW A_w d_w_knots d_w_flows d_w_readSet), (A_w 0, eI cI 10 d_w_from), (A_w 1, eI cI 10 d_w_to)] → yG p l e (headSpec wsX1_gather rmX1_gather).room s m (List.toArray [.ref h_t, .ref h_w, .int x2]) below meth c D (va_A [(h_t, oG A_t), (A_t 0, eI cI 6 c_t_least), (h_w, oW A_w c_w_knots c_w_flows c_w_readSet), (A_w 0, eI cI 10 c_w_from), (A_w 1, eI cI 10 c_w_to)] sz) 5 0 0 (MQ below (yQi D (yT cI cJ cZ cW cR) r [(h_t, oG A_t), (A_t 0, eI cI 6 zc_t_least), (h_w, oW A_w c_w_knots c_w_flows c_w_readSet), (A_w 0, eI cI 10 c_w_from), (A_w 1, eI cI 10 c_w_to)] (va_A [(h_t, oG A_t), (A_t 0, eI cI 6 c_t_least), (h_w, oW A_w c_w_knots c_w_flows c_w_readSet), (A_w 0, eI cI 10 c_w_from), (A_w 1, eI cI 10 c_w_to)] sz)) (List.toArray [.ref h_t, .ref h_w, .int x2]) s 0 0 (va_A [(h_t, oG A_t), (A_t 0, eI cI 6 c_t_least), (h_w, oW A_w c_w_knots c_w_flows c_w_readSet), (A_w 0, eI cI 10 c_w_from), (A_w 1, eI cI 10 c_w_to)] sz)) 2 [(0, .ref h_t), (1, .ref h_w), (2, .int y2), (3, .int y3)] [] [(h_t, oG A_t), (A_t 0, eI cI 6 d_t_least), (h_w, oW A_w d_w_knots d_w_flows d_w_readSet), (A_w 0, eI cI 10 d_w_from), (A_w 1, eI cI 10 d_w_to)] := by
    intro n
    induction n with
    | zero =>
      intro y2 y3 d_t_least d_w_knots d_w_flows d_w_readSet d_w_from d_w_to w0 hf
      cases hf
    | succ n ih =>
      intro y2 y3 d_t_least d_w_knots d_w_flows d_w_readSet d_w_from d_w_to w0 hf hk
      unfold fX1_gather_L2 at hf
      refine g_iload_n Γ 3 dX1_gather_2 rfl ?_
      refine g_bipush (v := 6) Γ dX1_gather_3 (by decide) ?_
      refine g_icmp_ge Γ 21 dX1_gather_5 (by decide) (fun c1 => ?_) (fun c1 => ?_)
      · have hf := ya_if1 c1 hf
        cases hf
        refine g_lv [0, 1, 2] rfl ?_
        exact hk
      · have hf := ya_if2 c1 hf
        refine g_aload_n Γ 0 dX1_gather_8 rfl ?_
        refine g_get Γ fX1_gather_9 0 rfl rfl dX1_gather_9 ?_
        refine g_iload_n Γ 3 dX1_gather_12 rfl ?_
        refine g_iload_n Γ 3 dX1_gather_13 rfl ?_
        obtain ⟨v2, e3, hf⟩ := ya_ob hf
        refine g_iast (ws' := [(h_t, oG A_t), (A_t 0, eI cI 6 v2), (h_w, oW A_w d_w_knots d_w_flows d_w_readSet), (A_w 0, eI cI 10 d_w_from), (A_w 1, eI cI 10 d_w_to)]) Γ e3 1 0 rfl rfl dX1_gather_14 rfl ?_
        obtain ⟨v4, e5, hf⟩ := ya_lt_inv hf
        refine g_iinc (lv' := [(3, .int v4), (0, .ref h_t), (1, .ref h_w), (2, .int y2)]) Γ 3 dX1_gather_15 rfl (by rw [e5]; rfl) (by decide) rfl ?_
        refine g_goto Γ 2 dX1_gather_18 (by decide) ?_
        refine g_lv [1, 2, 3, 0] rfl ?_
        exact ih _ _ _ _ _ _ _ _ _ hf hk
  have loop26 : ∀ (n : Nat) (y2 : Int32) (y3 : Int32) (y4 : Int32) (d_t_least : Nat → Int32) (d_w_knots : Int32) (d_w_flows : Int32) (d_w_readSet : Int32) (d_w_from : Nat → Int32) (d_w_to : Nat → Int32) (w0 : Int32) (w1 : Nat → Int32), fX1_gather_L26 N n y2 y3 y4 d_t_least d_w_flows d_w_from d_w_to = some (w0, w1) → yG p l e (headSpec wsX1_gather rmX1_gather).room s m (List.toArray [.ref h_t, .ref h_w, .int x2]) below meth c D (va_A [(h_t, oG A_t), (A_t 0, eI cI 6 c_t_least), (h_w, oW A_w c_w_knots c_w_flows c_w_readSet), (A_w 0, eI cI 10 c_w_from), (A_w 1, eI cI 10 c_w_to)] sz) 5 0 0 (MQ below (yQi D (yT cI cJ cZ cW cR) r [(h_t, oG A_t), (A_t 0, eI cI 6 zc_t_least), (h_w, oW A_w c_w_knots c_w_flows c_w_readSet), (A_w 0, eI cI 10 c_w_from), (A_w 1, eI cI 10 c_w_to)] (va_A [(h_t, oG A_t), (A_t 0, eI cI 6 c_t_least), (h_w, oW A_w c_w_knots c_w_flows c_w_readSet), (A_w 0, eI cI 10 c_w_from), (A_w 1, eI cI 10 c_w_to)] sz)) (List.toArray [.ref h_t, .ref h_w, .int x2]) s 0 0 (va_A [(h_t, oG A_t), (A_t 0, eI cI 6 c_t_least), (h_w, oW A_w c_w_knots c_w_flows c_w_readSet), (A_w 0, eI cI 10 c_w_from), (A_w 1, eI cI 10 c_w_to)] sz)) 96 [(3, .int w0)] [] [(h_t, oG A_t), (A_t 0, eI cI 6 w1), (h_w, oW A_w d_w_knots d_w_flows d_w_readSet), (A_w 0, eI cI 10 d_w_from), (A_w 1, eI cI 10 d_w_to)] → yG p l e (headSpec wsX1_gather rmX1_gather).room s m (List.toArray [.ref h_t, .ref h_w, .int x2]) below meth c D (va_A [(h_t, oG A_t), (A_t 0, eI cI 6 c_t_least), (h_w, oW A_w c_w_knots c_w_flows c_w_readSet), (A_w 0, eI cI 10 c_w_from), (A_w 1, eI cI 10 c_w_to)] sz) 5 0 0 (MQ below (yQi D (yT cI cJ cZ cW cR) r [(h_t, oG A_t), (A_t 0, eI cI 6 zc_t_least), (h_w, oW A_w c_w_knots c_w_flows c_w_readSet), (A_w 0, eI cI 10 c_w_from), (A_w 1, eI cI 10 c_w_to)] (va_A [(h_t, oG A_t), (A_t 0, eI cI 6 c_t_least), (h_w, oW A_w c_w_knots c_w_flows c_w_readSet), (A_w 0, eI cI 10 c_w_from), (A_w 1, eI cI 10 c_w_to)] sz)) (List.toArray [.ref h_t, .ref h_w, .int x2]) s 0 0 (va_A [(h_t, oG A_t), (A_t 0, eI cI 6 c_t_least), (h_w, oW A_w c_w_knots c_w_flows c_w_readSet), (A_w 0, eI cI 10 c_w_from), (A_w 1, eI cI 10 c_w_to)] sz)) 26 [(0, .ref h_t), (1, .ref h_w), (2, .int y2), (3, .int y3), (4, .int y4)] [] [(h_t, oG A_t), (A_t 0, eI cI 6 d_t_least), (h_w, oW A_w d_w_knots d_w_flows d_w_readSet), (A_w 0, eI cI 10 d_w_from), (A_w 1, eI cI 10 d_w_to)] := by
    intro n
    induction n with
    | zero =>
      intro y2 y3 y4 d_t_least d_w_knots d_w_flows d_w_readSet d_w_from d_w_to w0 w1 hf
      cases hf
    | succ n ih =>
      intro y2 y3 y4 d_t_least d_w_knots d_w_flows d_w_readSet d_w_from d_w_to w0 w1 hf hk
      unfold fX1_gather_L26 at hf
      refine g_iload Γ 4 dX1_gather_26 rfl ?_
      refine g_aload_n Γ 1 dX1_gather_28 rfl ?_
      refine g_get Γ fX1_gather_15 2 rfl rfl dX1_gather_29 ?_
      refine g_icmp_ge Γ 96 dX1_gather_32 (by decide) (fun c8 => ?_) (fun c8 => ?_)
      · have hf := ya_if1 c8 hf
        cases hf
        refine g_lv [3] rfl ?_
        exact hk
      · have hf := ya_if2 c8 hf
        refine g_iload_n Γ 2 dX1_gather_35 rfl ?_
        refine g_iload Γ 4 dX1_gather_36 rfl ?_
        obtain ⟨v9, e10, hf⟩ := ya_ob hf
        refine g_ni (wr := [(h_t, oG A_t), (A_t 0, eI cI 6 d_t_least), (h_w, oW A_w d_w_knots d_w_flows d_w_readSet), (A_w 0, eI cI 10 d_w_from), (A_w 1, eI cI 10 d_w_to)]) (ws' := [(h_t, oG A_t), (A_t 0, eI cI 6 d_t_least), (h_w, oW A_w d_w_knots d_w_flows d_w_readSet), (A_w 0, eI cI 10 d_w_from), (A_w 1, eI cI 10 d_w_to)]) Γ (fun sz => mX4_holds (l := l) (D := D) (sz := sz) (cI := cI) (cJ := cJ) (cZ := cZ) (cW := cW) (cR := cR)  (hf := e10)) eX4_holds ggX1_gather_X4_holds (by decide +kernel) (by decide +kernel) (by decide +kernel) rfl rfl (Nat.le_of_ble_eq_true rfl) ⟨Nat.le_of_ble_eq_true rfl, Nat.le_of_ble_eq_true rfl⟩ dX1_gather_38 [] [0, 1, 2, 3, 4] rfl rfl rfl rfl (by decide) rfl ?_
        refine g_if_ne Γ 47 dX1_gather_41 (by decide) (fun c11 => ?_) (fun c11 => ?_)
        · have hf := ya_if2 c11 hf
          refine g_aload_n Γ 0 dX1_gather_47 rfl ?_
          refine g_aload_n Γ 1 dX1_gather_48 rfl ?_
          refine g_iload Γ 4 dX1_gather_49 rfl ?_
          obtain ⟨v12, e13, hf⟩ := ya_ob hf
          refine g_vi (q := (RX1, TX1, 1)) (wr := []) (ws' := [(h_t, oG A_t), (A_t 0, eI cI 6 d_t_least), (h_w, oW A_w d_w_knots d_w_flows d_w_readSet), (A_w 0, eI cI 10 d_w_from), (A_w 1, eI cI 10 d_w_to)]) Γ (fun sz => mX1_parts (l := l) (D := D) (sz := sz) (cI := cI) (cJ := cJ) (cZ := cZ) (cW := cW) (cR := cR) (h_t := h_t) (h_w := h_w) (A_t := A_t) (A_w := A_w) (hf := e13)) eX1_parts gX1_gather_X1_parts rfl rfl 0 rfl rfl rfl (Nat.le_of_ble_eq_true rfl) ⟨Nat.le_of_ble_eq_true rfl, Nat.le_of_ble_eq_true rfl⟩ dX1_gather_51 [0, 1, 2, 3, 4] [] rfl rfl rfl rfl (by decide) rfl ?_
          refine g_if_eq Γ 88 dX1_gather_54 (by decide) (fun c14 => ?_) (fun c14 => ?_)
          · have hf := ya_if1 c14 hf
            refine g_iconst (v := 0) Γ dX1_gather_88 (by decide) ?_
            refine g_istore_n (lv' := [(3, .int 0), (0, .ref h_t), (1, .ref h_w), (2, .int y2), (4, .int y4)]) Γ dX1_gather_89 (by decide) rfl ?_
            obtain ⟨v15, e16, hf⟩ := ya_lt_inv hf
            refine g_iinc (lv' := [(4, .int v15), (3, .int 0), (0, .ref h_t), (1, .ref h_w), (2, .int y2)]) Γ 4 dX1_gather_90 rfl (by rw [e16]; rfl) (by decide) rfl ?_
            refine g_goto Γ 26 dX1_gather_93 (by decide) ?_
            refine g_lv [2, 3, 4, 1, 0] rfl ?_
            exact ih _ _ _ _ _ _ _ _ _ _ _ hf hk
          · have hf := ya_if2 c14 hf
            refine g_aload_n Γ 0 dX1_gather_57 rfl ?_
            refine g_aload_n Γ 0 dX1_gather_58 rfl ?_
            refine g_get Γ fX1_gather_9 0 rfl rfl dX1_gather_59 ?_
            refine g_aload_n Γ 1 dX1_gather_62 rfl ?_
            refine g_get Γ fX1_gather_29 2 rfl rfl dX1_gather_63 ?_
            refine g_iload Γ 4 dX1_gather_66 rfl ?_
            obtain ⟨v17, e18, hf⟩ := ya_ob hf
            refine g_iald Γ e18 3 0 rfl rfl dX1_gather_68 ?_
            obtain ⟨v19, e20, hf⟩ := ya_ob hf
            refine g_iald Γ e20 1 0 rfl rfl dX1_gather_69 ?_
            refine g_aload_n Γ 0 dX1_gather_70 rfl ?_
            refine g_get Γ fX1_gather_9 0 rfl rfl dX1_gather_71 ?_
            refine g_aload_n Γ 1 dX1_gather_74 rfl ?_
            refine g_get Γ fX1_gather_32 2 rfl rfl dX1_gather_75 ?_
            refine g_iload Γ 4 dX1_gather_78 rfl ?_
            obtain ⟨v21, e22, hf⟩ := ya_ob hf
            refine g_iald Γ e22 4 0 rfl rfl dX1_gather_80 ?_
            obtain ⟨v23, e24, hf⟩ := ya_ob hf
            refine g_iald Γ e24 1 0 rfl rfl dX1_gather_81 ?_
            obtain ⟨v25, e26, hf⟩ := ya_ob hf
            refine g_vv (q := (RX1, TX1, 1)) (wr := [(h_w, oW A_w d_w_knots d_w_flows d_w_readSet), (A_w 0, eI cI 10 d_w_from), (A_w 1, eI cI 10 d_w_to)]) (ws' := [(h_w, oW A_w d_w_knots d_w_flows d_w_readSet), (A_w 0, eI cI 10 d_w_from), (A_w 1, eI cI 10 d_w_to), (h_t, oG A_t), (A_t 0, eI cI 6 v25)]) Γ (fun sz => mX1_join (l := l) (D := D) (sz := sz) (cI := cI) (cJ := cJ) (cZ := cZ) (cW := cW) (cR := cR) (h_t := h_t) (A_t := A_t) (hf := e26)) eX1_join gX1_gather_X1_join rfl rfl 0 rfl rfl rfl (Nat.le_of_ble_eq_true rfl) ⟨Nat.le_of_ble_eq_true rfl, Nat.le_of_ble_eq_true rfl⟩ dX1_gather_82 [0, 1] [2, 3, 4] rfl rfl rfl rfl (by decide) rfl ?_
            refine g_goto Γ 90 dX1_gather_85 (by decide) ?_
            obtain ⟨v27, e28, hf⟩ := ya_lt_inv hf
            refine g_iinc (lv' := [(4, .int v27), (0, .ref h_t), (1, .ref h_w), (2, .int y2), (3, .int y3)]) Γ 4 dX1_gather_90 rfl (by rw [e28]; rfl) (by decide) rfl ?_
            refine g_goto Γ 26 dX1_gather_93 (by decide) ?_
            refine g_lv [1, 2, 3, 4, 0] rfl ?_
            refine g_ws (ws' := [(h_t, oG A_t), (A_t 0, eI cI 6 v25), (h_w, oW A_w d_w_knots d_w_flows d_w_readSet), (A_w 0, eI cI 10 d_w_from), (A_w 1, eI cI 10 d_w_to)]) [3, 4, 0, 1, 2] rfl rfl ?_
            exact ih _ _ _ _ _ _ _ _ _ _ _ hf hk
        · have hf := ya_if1 c11 hf
          refine g_goto Γ 90 dX1_gather_44 (by decide) ?_
          obtain ⟨v29, e30, hf⟩ := ya_lt_inv hf
          refine g_iinc (lv' := [(4, .int v29), (0, .ref h_t), (1, .ref h_w), (2, .int y2), (3, .int y3)]) Γ 4 dX1_gather_90 rfl (by rw [e30]; rfl) (by decide) rfl ?_
          refine g_goto Γ 26 dX1_gather_93 (by decide) ?_
          refine g_lv [1, 2, 3, 4, 0] rfl ?_
          exact ih _ _ _ _ _ _ _ _ _ _ _ hf hk
  show yG p l e (headSpec wsX1_gather rmX1_gather).room s m (List.toArray [.ref h_t, .ref h_w, .int x2]) below meth c D (va_A [(h_t, oG A_t), (A_t 0, eI cI 6 c_t_least), (h_w, oW A_w c_w_knots c_w_flows c_w_readSet), (A_w 0, eI cI 10 c_w_from), (A_w 1, eI cI 10 c_w_to)] sz) 5 0 0 (MQ below (yQi D (yT cI cJ cZ cW cR) r [(h_t, oG A_t), (A_t 0, eI cI 6 zc_t_least), (h_w, oW A_w c_w_knots c_w_flows c_w_readSet), (A_w 0, eI cI 10 c_w_from), (A_w 1, eI cI 10 c_w_to)] (va_A [(h_t, oG A_t), (A_t 0, eI cI 6 c_t_least), (h_w, oW A_w c_w_knots c_w_flows c_w_readSet), (A_w 0, eI cI 10 c_w_from), (A_w 1, eI cI 10 c_w_to)] sz)) (List.toArray [.ref h_t, .ref h_w, .int x2]) s 0 0 (va_A [(h_t, oG A_t), (A_t 0, eI cI 6 c_t_least), (h_w, oW A_w c_w_knots c_w_flows c_w_readSet), (A_w 0, eI cI 10 c_w_from), (A_w 1, eI cI 10 c_w_to)] sz)) 0 [(0, .ref h_t), (1, .ref h_w), (2, .int x2)] [] [(h_t, oG A_t), (A_t 0, eI cI 6 c_t_least), (h_w, oW A_w c_w_knots c_w_flows c_w_readSet), (A_w 0, eI cI 10 c_w_from), (A_w 1, eI cI 10 c_w_to)]
  unfold fX1_gather at hf
  refine g_iconst (v := 0) Γ dX1_gather_0 (by decide) ?_
  refine g_istore_n (lv' := [(3, .int 0), (0, .ref h_t), (1, .ref h_w), (2, .int x2)]) Γ dX1_gather_1 (by decide) rfl ?_
  obtain ⟨v6, e7, hf⟩ := ya_ob hf
  refine g_lv [1, 2, 3, 0] rfl ?_
  refine loop2 N _ _ _ _ _ _ _ _ _ e7  ?_
  refine g_iconst (v := 1) Γ dX1_gather_21 (by decide) ?_
  refine g_istore_n (lv' := [(3, .int 1), (0, .ref h_t), (1, .ref h_w), (2, .int x2)]) Γ dX1_gather_22 (by decide) rfl ?_
  refine g_iconst (v := 0) Γ dX1_gather_23 (by decide) ?_
  refine g_istore (lv' := [(4, .int 0), (3, .int 1), (0, .ref h_t), (1, .ref h_w), (2, .int x2)]) Γ dX1_gather_24 (by decide) rfl ?_
  obtain ⟨⟨v31, v32⟩, e33, hf⟩ := ya_ob hf
  refine g_lv [2, 3, 4, 1, 0] rfl ?_
  refine loop26 N _ _ _ _ _ _ _ _ _ _ _ e33  ?_
  refine g_iload_n Γ 0 dX1_gather_96 rfl ?_
  obtain ⟨v34, e35, hf⟩ := ya_ob hf
  cases hf
  exact g_zret Γ hr e35 dX1_gather_97 [0, 1, 2, 3, 4] rfl rfl

theorem dX4_bit_0 : decode cX4_bit 0 = .ok (.iconst 1, 1) := by decide +kernel
theorem dX4_bit_1 : decode cX4_bit 1 = .ok (.iload_n 0, 1) := by decide +kernel
theorem dX4_bit_2 : decode cX4_bit 2 = .ok (.ishl, 1) := by decide +kernel
theorem dX4_bit_3 : decode cX4_bit 3 = .ok (.ireturn, 1) := by decide +kernel
/-! ===== FlowMeters.bit(I)I ===== -/
def fX4_bit  (x0 : Int32) : Option (Int32) :=
  some (1 <<< (x0 &&& 31))
abbrev rmX4_bit : Room := { frames := 0, cells := 0, slots := 0, locals := 0 }
theorem eX4_bit : yY yX4_bit wsX4_bit cX4_bit 1 (some .int) rmX4_bit 1 := ⟨⟨_, rfl⟩, rfl, rfl, by decide, by decide, by decide +kernel⟩
set_option maxHeartbeats 4000000 in
set_option maxRecDepth 100000 in
theorem mX4_bit {l : Launch} {D : va_G} {sz : Nat} {cI cJ cZ cW cR : ClassId} {x0 : Int32} {r : Int32} (hf : fX4_bit x0 = some r) : Met l yX4_bit wsX4_bit rmX4_bit (yP D (yT cI cJ cZ cW cR) [] sz [.int x0]) (yQi D (yT cI cJ cZ cW cR) r [] (va_A [] sz)) 0 0 (va_A [] sz) := by
  refine yM (cc := cX4_bit) (maxL := 1) (ret := (some .int)) RX4 (by decide) rfl rfl (Nat.le_of_ble_eq_true rfl) ?_
  intro p e s m below meth c Γ hr
  show yG p l e (headSpec wsX4_bit rmX4_bit).room s m (List.toArray [.int x0]) below meth c D (va_A [] sz) 1 0 0 (MQ below (yQi D (yT cI cJ cZ cW cR) r [] (va_A [] sz)) (List.toArray [.int x0]) s 0 0 (va_A [] sz)) 0 [(0, .int x0)] [] []
  unfold fX4_bit at hf
  refine g_iconst (v := 1) Γ dX4_bit_0 (by decide) ?_
  refine g_iload_n Γ 0 dX4_bit_1 rfl ?_
  refine g_ishl Γ dX4_bit_2 ?_
  cases hf
  exact g_iret Γ hr dX4_bit_3 [] rfl rfl

theorem dX1_howMany_0 : decode cX1_howMany 0 = .ok (.iconst 0, 1) := by decide +kernel
theorem dX1_howMany_1 : decode cX1_howMany 1 = .ok (.istore_n 2, 1) := by decide +kernel
theorem dX1_howMany_2 : decode cX1_howMany 2 = .ok (.iconst 0, 1) := by decide +kernel
theorem dX1_howMany_3 : decode cX1_howMany 3 = .ok (.istore_n 3, 1) := by decide +kernel
theorem dX1_howMany_4 : decode cX1_howMany 4 = .ok (.iload_n 3, 1) := by decide +kernel
theorem dX1_howMany_5 : decode cX1_howMany 5 = .ok (.iload_n 1, 1) := by decide +kernel
theorem dX1_howMany_6 : decode cX1_howMany 6 = .ok (.if_icmp .ge 22, 3) := by decide +kernel
theorem dX1_howMany_9 : decode cX1_howMany 9 = .ok (.aload_n 0, 1) := by decide +kernel
theorem dX1_howMany_10 : decode cX1_howMany 10 = .ok (.getfield 9, 3) := by decide +kernel
theorem dX1_howMany_13 : decode cX1_howMany 13 = .ok (.iload_n 3, 1) := by decide +kernel
theorem dX1_howMany_14 : decode cX1_howMany 14 = .ok (.iaload, 1) := by decide +kernel
theorem dX1_howMany_15 : decode cX1_howMany 15 = .ok (.iload_n 3, 1) := by decide +kernel
theorem dX1_howMany_16 : decode cX1_howMany 16 = .ok (.if_icmp .ne 6, 3) := by decide +kernel
theorem dX1_howMany_19 : decode cX1_howMany 19 = .ok (.iinc 2 1, 3) := by decide +kernel
theorem dX1_howMany_22 : decode cX1_howMany 22 = .ok (.iinc 3 1, 3) := by decide +kernel
theorem dX1_howMany_25 : decode cX1_howMany 25 = .ok (.goto (-21), 3) := by decide +kernel
theorem dX1_howMany_28 : decode cX1_howMany 28 = .ok (.iload_n 2, 1) := by decide +kernel
theorem dX1_howMany_29 : decode cX1_howMany 29 = .ok (.ireturn, 1) := by decide +kernel
/-! ===== FlowMeters$Groups.howMany(I)I ===== -/
def fX1_howMany_L4 (N : Nat) (n : Nat) (y1 : Int32) (y2 : Int32) (y3 : Int32) (d_t_least : Nat → Int32) : Option (Int32) := match n with
  | 0 => none
  | n + 1 =>
    (if y1 ≤ y3 then
        some y2
      else
        (ya_rd d_t_least 6 y3).bind fun v2 =>
        (if v2 = y3 then
          ya_lt (y2 + 1) fun v7 =>
          ya_lt (y3 + 1) fun v9 =>
          fX1_howMany_L4 N n y1 v7 v9 d_t_least
        else
          ya_lt (y3 + 1) fun v5 =>
          fX1_howMany_L4 N n y1 y2 v5 d_t_least))
def fX1_howMany (N : Nat) (c_t_least : Nat → Int32) (x1 : Int32) : Option (Int32) :=
  (fX1_howMany_L4 N N x1 0 0 c_t_least).bind fun v11 =>
  some v11
theorem fX1_howMany_9 : yF wsX1_howMany RX1 9 1 0 RX1 TX1 1 := ⟨rfl, by decide, by decide +kernel, by decide +kernel⟩
abbrev rmX1_howMany : Room := { frames := 0, cells := 0, slots := 0, locals := 0 }
theorem eX1_howMany : yY yX1_howMany wsX1_howMany cX1_howMany 4 (some .int) rmX1_howMany 1 := ⟨⟨_, rfl⟩, rfl, rfl, by decide, by decide, by decide +kernel⟩
set_option maxHeartbeats 4000000 in
set_option maxRecDepth 100000 in
theorem mX1_howMany {l : Launch} {D : va_G} {sz : Nat} {cI cJ cZ cW cR : ClassId} {N : Nat} {h_t : Nat} {A_t : Nat → Nat} {c_t_least : Nat → Int32} {x1 : Int32} {r : Int32} (hf : fX1_howMany N c_t_least x1 = some r) : Met l yX1_howMany wsX1_howMany rmX1_howMany (yP D (yT cI cJ cZ cW cR) [(h_t, oG A_t), (A_t 0, eI cI 6 c_t_least)] sz [.ref h_t, .int x1]) (yQi D (yT cI cJ cZ cW cR) r [(h_t, oG A_t), (A_t 0, eI cI 6 c_t_least)] (va_A [(h_t, oG A_t), (A_t 0, eI cI 6 c_t_least)] sz)) 0 0 (va_A [(h_t, oG A_t), (A_t 0, eI cI 6 c_t_least)] sz) := by
  refine yM (cc := cX1_howMany) (maxL := 4) (ret := (some .int)) RX1 (by decide) rfl rfl (Nat.le_of_ble_eq_true rfl) ?_
  intro p e s m below meth c Γ hr
  have loop4 : ∀ (n : Nat) (y1 : Int32) (y2 : Int32) (y3 : Int32) (d_t_least : Nat → Int32) (w0 : Int32), fX1_howMany_L4 N n y1 y2 y3 d_t_least = some w0 → yG p l e (headSpec wsX1_howMany rmX1_howMany).room s m (List.toArray [.ref h_t, .int x1]) below meth c D (va_A [(h_t, oG A_t), (A_t 0, eI cI 6 c_t_least)] sz) 4 0 0 (MQ below (yQi D (yT cI cJ cZ cW cR) r [(h_t, oG A_t), (A_t 0, eI cI 6 c_t_least)] (va_A [(h_t, oG A_t), (A_t 0, eI cI 6 c_t_least)] sz)) (List.toArray [.ref h_t, .int x1]) s 0 0 (va_A [(h_t, oG A_t), (A_t 0, eI cI 6 c_t_least)] sz)) 28 [(2, .int w0)] [] [(h_t, oG A_t), (A_t 0, eI cI 6 d_t_least)] → yG p l e (headSpec wsX1_howMany rmX1_howMany).room s m (List.toArray [.ref h_t, .int x1]) below meth c D (va_A [(h_t, oG A_t), (A_t 0, eI cI 6 c_t_least)] sz) 4 0 0 (MQ below (yQi D (yT cI cJ cZ cW cR) r [(h_t, oG A_t), (A_t 0, eI cI 6 c_t_least)] (va_A [(h_t, oG A_t), (A_t 0, eI cI 6 c_t_least)] sz)) (List.toArray [.ref h_t, .int x1]) s 0 0 (va_A [(h_t, oG A_t), (A_t 0, eI cI 6 c_t_least)] sz)) 4 [(0, .ref h_t), (1, .int y1), (2, .int y2), (3, .int y3)] [] [(h_t, oG A_t), (A_t 0, eI cI 6 d_t_least)] := by
    intro n
    induction n with
    | zero =>
      intro y1 y2 y3 d_t_least w0 hf
      cases hf
    | succ n ih =>
      intro y1 y2 y3 d_t_least w0 hf hk
      unfold fX1_howMany_L4 at hf
      refine g_iload_n Γ 3 dX1_howMany_4 rfl ?_
      refine g_iload_n Γ 1 dX1_howMany_5 rfl ?_
      refine g_icmp_ge Γ 28 dX1_howMany_6 (by decide) (fun c1 => ?_) (fun c1 => ?_)
      · have hf := ya_if1 c1 hf
        cases hf
        refine g_lv [2] rfl ?_
        exact hk
      · have hf := ya_if2 c1 hf
        refine g_aload_n Γ 0 dX1_howMany_9 rfl ?_
        refine g_get Γ fX1_howMany_9 0 rfl rfl dX1_howMany_10 ?_
        refine g_iload_n Γ 3 dX1_howMany_13 rfl ?_
        obtain ⟨v2, e3, hf⟩ := ya_ob hf
        refine g_iald Γ e3 1 0 rfl rfl dX1_howMany_14 ?_
        refine g_iload_n Γ 3 dX1_howMany_15 rfl ?_
        refine g_icmp_ne Γ 22 dX1_howMany_16 (by decide) (fun c4 => ?_) (fun c4 => ?_)
        · have hf := ya_if2 c4 hf
          obtain ⟨v5, e6, hf⟩ := ya_lt_inv hf
          refine g_iinc (lv' := [(3, .int v5), (0, .ref h_t), (1, .int y1), (2, .int y2)]) Γ 3 dX1_howMany_22 rfl (by rw [e6]; rfl) (by decide) rfl ?_
          refine g_goto Γ 4 dX1_howMany_25 (by decide) ?_
          refine g_lv [1, 2, 3, 0] rfl ?_
          exact ih _ _ _ _ _ hf hk
        · have hf := ya_if1 c4 hf
          obtain ⟨v7, e8, hf⟩ := ya_lt_inv hf
          refine g_iinc (lv' := [(2, .int v7), (0, .ref h_t), (1, .int y1), (3, .int y3)]) Γ 2 dX1_howMany_19 rfl (by rw [e8]; rfl) (by decide) rfl ?_
          obtain ⟨v9, e10, hf⟩ := ya_lt_inv hf
          refine g_iinc (lv' := [(3, .int v9), (2, .int v7), (0, .ref h_t), (1, .int y1)]) Γ 3 dX1_howMany_22 rfl (by rw [e10]; rfl) (by decide) rfl ?_
          refine g_goto Γ 4 dX1_howMany_25 (by decide) ?_
          refine g_lv [2, 3, 1, 0] rfl ?_
          exact ih _ _ _ _ _ hf hk
  show yG p l e (headSpec wsX1_howMany rmX1_howMany).room s m (List.toArray [.ref h_t, .int x1]) below meth c D (va_A [(h_t, oG A_t), (A_t 0, eI cI 6 c_t_least)] sz) 4 0 0 (MQ below (yQi D (yT cI cJ cZ cW cR) r [(h_t, oG A_t), (A_t 0, eI cI 6 c_t_least)] (va_A [(h_t, oG A_t), (A_t 0, eI cI 6 c_t_least)] sz)) (List.toArray [.ref h_t, .int x1]) s 0 0 (va_A [(h_t, oG A_t), (A_t 0, eI cI 6 c_t_least)] sz)) 0 [(0, .ref h_t), (1, .int x1)] [] [(h_t, oG A_t), (A_t 0, eI cI 6 c_t_least)]
  unfold fX1_howMany at hf
  refine g_iconst (v := 0) Γ dX1_howMany_0 (by decide) ?_
  refine g_istore_n (lv' := [(2, .int 0), (0, .ref h_t), (1, .int x1)]) Γ dX1_howMany_1 (by decide) rfl ?_
  refine g_iconst (v := 0) Γ dX1_howMany_2 (by decide) ?_
  refine g_istore_n (lv' := [(3, .int 0), (2, .int 0), (0, .ref h_t), (1, .int x1)]) Γ dX1_howMany_3 (by decide) rfl ?_
  obtain ⟨v11, e12, hf⟩ := ya_ob hf
  refine g_lv [2, 3, 1, 0] rfl ?_
  refine loop4 N _ _ _ _ _ e12  ?_
  refine g_iload_n Γ 0 dX1_howMany_28 rfl ?_
  cases hf
  exact g_iret Γ hr dX1_howMany_29 [0, 1] rfl rfl

theorem dJ6_bitCount_0f7a4_0 : decode cJ6_bitCount_0f7a4 0 = .ok (.iload_n 0, 1) := by decide +kernel
theorem dJ6_bitCount_0f7a4_1 : decode cJ6_bitCount_0f7a4 1 = .ok (.iload_n 0, 1) := by decide +kernel
theorem dJ6_bitCount_0f7a4_2 : decode cJ6_bitCount_0f7a4 2 = .ok (.iconst 1, 1) := by decide +kernel
theorem dJ6_bitCount_0f7a4_3 : decode cJ6_bitCount_0f7a4 3 = .ok (.iushr, 1) := by decide +kernel
theorem dJ6_bitCount_0f7a4_4 : decode cJ6_bitCount_0f7a4 4 = .ok (.ldc_w 265, 3) := by decide +kernel
theorem dJ6_bitCount_0f7a4_7 : decode cJ6_bitCount_0f7a4 7 = .ok (.iand, 1) := by decide +kernel
theorem dJ6_bitCount_0f7a4_8 : decode cJ6_bitCount_0f7a4 8 = .ok (.isub, 1) := by decide +kernel
theorem dJ6_bitCount_0f7a4_9 : decode cJ6_bitCount_0f7a4 9 = .ok (.istore_n 0, 1) := by decide +kernel
theorem dJ6_bitCount_0f7a4_10 : decode cJ6_bitCount_0f7a4 10 = .ok (.iload_n 0, 1) := by decide +kernel
theorem dJ6_bitCount_0f7a4_11 : decode cJ6_bitCount_0f7a4 11 = .ok (.ldc_w 266, 3) := by decide +kernel
theorem dJ6_bitCount_0f7a4_14 : decode cJ6_bitCount_0f7a4 14 = .ok (.iand, 1) := by decide +kernel
theorem dJ6_bitCount_0f7a4_15 : decode cJ6_bitCount_0f7a4 15 = .ok (.iload_n 0, 1) := by decide +kernel
theorem dJ6_bitCount_0f7a4_16 : decode cJ6_bitCount_0f7a4 16 = .ok (.iconst 2, 1) := by decide +kernel
theorem dJ6_bitCount_0f7a4_17 : decode cJ6_bitCount_0f7a4 17 = .ok (.iushr, 1) := by decide +kernel
theorem dJ6_bitCount_0f7a4_18 : decode cJ6_bitCount_0f7a4 18 = .ok (.ldc_w 266, 3) := by decide +kernel
theorem dJ6_bitCount_0f7a4_21 : decode cJ6_bitCount_0f7a4 21 = .ok (.iand, 1) := by decide +kernel
theorem dJ6_bitCount_0f7a4_22 : decode cJ6_bitCount_0f7a4 22 = .ok (.iadd, 1) := by decide +kernel
theorem dJ6_bitCount_0f7a4_23 : decode cJ6_bitCount_0f7a4 23 = .ok (.istore_n 0, 1) := by decide +kernel
theorem dJ6_bitCount_0f7a4_24 : decode cJ6_bitCount_0f7a4 24 = .ok (.iload_n 0, 1) := by decide +kernel
theorem dJ6_bitCount_0f7a4_25 : decode cJ6_bitCount_0f7a4 25 = .ok (.iload_n 0, 1) := by decide +kernel
theorem dJ6_bitCount_0f7a4_26 : decode cJ6_bitCount_0f7a4 26 = .ok (.iconst 4, 1) := by decide +kernel
theorem dJ6_bitCount_0f7a4_27 : decode cJ6_bitCount_0f7a4 27 = .ok (.iushr, 1) := by decide +kernel
theorem dJ6_bitCount_0f7a4_28 : decode cJ6_bitCount_0f7a4 28 = .ok (.iadd, 1) := by decide +kernel
theorem dJ6_bitCount_0f7a4_29 : decode cJ6_bitCount_0f7a4 29 = .ok (.ldc_w 267, 3) := by decide +kernel
theorem dJ6_bitCount_0f7a4_32 : decode cJ6_bitCount_0f7a4 32 = .ok (.iand, 1) := by decide +kernel
theorem dJ6_bitCount_0f7a4_33 : decode cJ6_bitCount_0f7a4 33 = .ok (.istore_n 0, 1) := by decide +kernel
theorem dJ6_bitCount_0f7a4_34 : decode cJ6_bitCount_0f7a4 34 = .ok (.iload_n 0, 1) := by decide +kernel
theorem dJ6_bitCount_0f7a4_35 : decode cJ6_bitCount_0f7a4 35 = .ok (.iload_n 0, 1) := by decide +kernel
theorem dJ6_bitCount_0f7a4_36 : decode cJ6_bitCount_0f7a4 36 = .ok (.bipush 8, 2) := by decide +kernel
theorem dJ6_bitCount_0f7a4_38 : decode cJ6_bitCount_0f7a4 38 = .ok (.iushr, 1) := by decide +kernel
theorem dJ6_bitCount_0f7a4_39 : decode cJ6_bitCount_0f7a4 39 = .ok (.iadd, 1) := by decide +kernel
theorem dJ6_bitCount_0f7a4_40 : decode cJ6_bitCount_0f7a4 40 = .ok (.istore_n 0, 1) := by decide +kernel
theorem dJ6_bitCount_0f7a4_41 : decode cJ6_bitCount_0f7a4 41 = .ok (.iload_n 0, 1) := by decide +kernel
theorem dJ6_bitCount_0f7a4_42 : decode cJ6_bitCount_0f7a4 42 = .ok (.iload_n 0, 1) := by decide +kernel
theorem dJ6_bitCount_0f7a4_43 : decode cJ6_bitCount_0f7a4 43 = .ok (.bipush 16, 2) := by decide +kernel
theorem dJ6_bitCount_0f7a4_45 : decode cJ6_bitCount_0f7a4 45 = .ok (.iushr, 1) := by decide +kernel
theorem dJ6_bitCount_0f7a4_46 : decode cJ6_bitCount_0f7a4 46 = .ok (.iadd, 1) := by decide +kernel
theorem dJ6_bitCount_0f7a4_47 : decode cJ6_bitCount_0f7a4 47 = .ok (.istore_n 0, 1) := by decide +kernel
theorem dJ6_bitCount_0f7a4_48 : decode cJ6_bitCount_0f7a4 48 = .ok (.iload_n 0, 1) := by decide +kernel
theorem dJ6_bitCount_0f7a4_49 : decode cJ6_bitCount_0f7a4 49 = .ok (.bipush 63, 2) := by decide +kernel
theorem dJ6_bitCount_0f7a4_51 : decode cJ6_bitCount_0f7a4 51 = .ok (.iand, 1) := by decide +kernel
theorem dJ6_bitCount_0f7a4_52 : decode cJ6_bitCount_0f7a4 52 = .ok (.ireturn, 1) := by decide +kernel
/-! ===== java/lang/Integer.bitCount(I)I ===== -/
def fJ6_bitCount_0f7a4  (x0 : Int32) : Option (Int32) :=
  ya_lt (x0 - (((Int32.toUInt32 x0 >>> (Int32.toUInt32 1 &&& Int32.toUInt32 31)).toInt32) &&& 1431655765)) fun v1 =>
  ya_lt ((v1 &&& 858993459) + (((Int32.toUInt32 v1 >>> (Int32.toUInt32 2 &&& Int32.toUInt32 31)).toInt32) &&& 858993459)) fun v3 =>
  ya_lt ((v3 + ((Int32.toUInt32 v3 >>> (Int32.toUInt32 4 &&& Int32.toUInt32 31)).toInt32)) &&& 252645135) fun v5 =>
  ya_lt (v5 + ((Int32.toUInt32 v5 >>> (Int32.toUInt32 8 &&& Int32.toUInt32 31)).toInt32)) fun v7 =>
  ya_lt (v7 + ((Int32.toUInt32 v7 >>> (Int32.toUInt32 16 &&& Int32.toUInt32 31)).toInt32)) fun v9 =>
  some (v9 &&& 63)
abbrev rmJ6_bitCount_0f7a4 : Room := { frames := 0, cells := 0, slots := 0, locals := 0 }
theorem eJ6_bitCount_0f7a4 : yY yJ6_bitCount_0f7a4 wsJ6_bitCount_0f7a4 cJ6_bitCount_0f7a4 1 (some .int) rmJ6_bitCount_0f7a4 1 := ⟨⟨_, rfl⟩, rfl, rfl, by decide, by decide, by decide +kernel⟩
set_option maxHeartbeats 4000000 in
set_option maxRecDepth 100000 in
theorem mJ6_bitCount_0f7a4 {l : Launch} {D : va_G} {sz : Nat} {cI cJ cZ cW cR : ClassId} {x0 : Int32} {r : Int32} (hf : fJ6_bitCount_0f7a4 x0 = some r) : Met l yJ6_bitCount_0f7a4 wsJ6_bitCount_0f7a4 rmJ6_bitCount_0f7a4 (yP D (yT cI cJ cZ cW cR) [] sz [.int x0]) (yQi D (yT cI cJ cZ cW cR) r [] (va_A [] sz)) 0 0 (va_A [] sz) := by
  refine yM (cc := cJ6_bitCount_0f7a4) (maxL := 1) (ret := (some .int)) RJ6 (by decide) rfl rfl (Nat.le_of_ble_eq_true rfl) ?_
  intro p e s m below meth c Γ hr
  show yG p l e (headSpec wsJ6_bitCount_0f7a4 rmJ6_bitCount_0f7a4).room s m (List.toArray [.int x0]) below meth c D (va_A [] sz) 1 0 0 (MQ below (yQi D (yT cI cJ cZ cW cR) r [] (va_A [] sz)) (List.toArray [.int x0]) s 0 0 (va_A [] sz)) 0 [(0, .int x0)] [] []
  unfold fJ6_bitCount_0f7a4 at hf
  refine g_iload_n Γ 0 dJ6_bitCount_0f7a4_0 rfl ?_
  refine g_iload_n Γ 0 dJ6_bitCount_0f7a4_1 rfl ?_
  refine g_iconst (v := 1) Γ dJ6_bitCount_0f7a4_2 (by decide) ?_
  refine g_iushr Γ dJ6_bitCount_0f7a4_3 ?_
  refine g_ldcw (v := 1431655765) Γ dJ6_bitCount_0f7a4_4 (by decide +kernel) ?_
  refine g_iand Γ dJ6_bitCount_0f7a4_7 ?_
  refine g_isub Γ dJ6_bitCount_0f7a4_8 ?_
  obtain ⟨v1, e2, hf⟩ := ya_lt_inv hf
  refine g_nmi e2 ?_
  refine g_istore_n (lv' := [(0, .int v1)]) Γ dJ6_bitCount_0f7a4_9 (by decide) rfl ?_
  refine g_iload_n Γ 0 dJ6_bitCount_0f7a4_10 rfl ?_
  refine g_ldcw (v := 858993459) Γ dJ6_bitCount_0f7a4_11 (by decide +kernel) ?_
  refine g_iand Γ dJ6_bitCount_0f7a4_14 ?_
  refine g_iload_n Γ 0 dJ6_bitCount_0f7a4_15 rfl ?_
  refine g_iconst (v := 2) Γ dJ6_bitCount_0f7a4_16 (by decide) ?_
  refine g_iushr Γ dJ6_bitCount_0f7a4_17 ?_
  refine g_ldcw (v := 858993459) Γ dJ6_bitCount_0f7a4_18 (by decide +kernel) ?_
  refine g_iand Γ dJ6_bitCount_0f7a4_21 ?_
  refine g_iadd Γ dJ6_bitCount_0f7a4_22 ?_
  obtain ⟨v3, e4, hf⟩ := ya_lt_inv hf
  refine g_nmi e4 ?_
  refine g_istore_n (lv' := [(0, .int v3)]) Γ dJ6_bitCount_0f7a4_23 (by decide) rfl ?_
  refine g_iload_n Γ 0 dJ6_bitCount_0f7a4_24 rfl ?_
  refine g_iload_n Γ 0 dJ6_bitCount_0f7a4_25 rfl ?_
  refine g_iconst (v := 4) Γ dJ6_bitCount_0f7a4_26 (by decide) ?_
  refine g_iushr Γ dJ6_bitCount_0f7a4_27 ?_
  refine g_iadd Γ dJ6_bitCount_0f7a4_28 ?_
  refine g_ldcw (v := 252645135) Γ dJ6_bitCount_0f7a4_29 (by decide +kernel) ?_
  refine g_iand Γ dJ6_bitCount_0f7a4_32 ?_
  obtain ⟨v5, e6, hf⟩ := ya_lt_inv hf
  refine g_nmi e6 ?_
  refine g_istore_n (lv' := [(0, .int v5)]) Γ dJ6_bitCount_0f7a4_33 (by decide) rfl ?_
  refine g_iload_n Γ 0 dJ6_bitCount_0f7a4_34 rfl ?_
  refine g_iload_n Γ 0 dJ6_bitCount_0f7a4_35 rfl ?_
  refine g_bipush (v := 8) Γ dJ6_bitCount_0f7a4_36 (by decide) ?_
  refine g_iushr Γ dJ6_bitCount_0f7a4_38 ?_
  refine g_iadd Γ dJ6_bitCount_0f7a4_39 ?_
  obtain ⟨v7, e8, hf⟩ := ya_lt_inv hf
  refine g_nmi e8 ?_
  refine g_istore_n (lv' := [(0, .int v7)]) Γ dJ6_bitCount_0f7a4_40 (by decide) rfl ?_
  refine g_iload_n Γ 0 dJ6_bitCount_0f7a4_41 rfl ?_
  refine g_iload_n Γ 0 dJ6_bitCount_0f7a4_42 rfl ?_
  refine g_bipush (v := 16) Γ dJ6_bitCount_0f7a4_43 (by decide) ?_
  refine g_iushr Γ dJ6_bitCount_0f7a4_45 ?_
  refine g_iadd Γ dJ6_bitCount_0f7a4_46 ?_
  obtain ⟨v9, e10, hf⟩ := ya_lt_inv hf
  refine g_nmi e10 ?_
  refine g_istore_n (lv' := [(0, .int v9)]) Γ dJ6_bitCount_0f7a4_47 (by decide) rfl ?_
  refine g_iload_n Γ 0 dJ6_bitCount_0f7a4_48 rfl ?_
  refine g_bipush (v := 63) Γ dJ6_bitCount_0f7a4_49 (by decide) ?_
  refine g_iand Γ dJ6_bitCount_0f7a4_51 ?_
  cases hf
  exact g_iret Γ hr dJ6_bitCount_0f7a4_52 [] rfl rfl

