set_option maxRecDepth 20000 in
theorem ggX4_isSeen_X4_holds : GoodIn wsX4_isSeen wsX4_holds := goodIn_r _ [7] rfl (by decide +kernel)
set_option maxRecDepth 20000 in
theorem gX4_isSeen_X4_holds : GoodIn wsX4_isSeen (va_wsS RX4 78 yX4_holds wsX4_holds) := goodIn_app (goodIn_of _ (by decide +kernel)) ggX4_isSeen_X4_holds
set_option maxRecDepth 20000 in
theorem ggX4_isSeen_X3_unreadSet : GoodIn wsX4_isSeen wsX3_unreadSet := goodIn_r _ [12, 13, 14, 15, 16, 11, 17, 18, 19, 6, 20, 54, 55, 56, 57, 58, 59, 60, 61, 62, 63, 64] rfl (by decide +kernel)
set_option maxRecDepth 20000 in
theorem gX4_isSeen_X3_unreadSet : GoodIn wsX4_isSeen (wsV RX4 120 RX3 yX3_unreadSet wsX3_unreadSet) := goodIn_app (goodIn_of _ (by decide +kernel)) ggX4_isSeen_X3_unreadSet
set_option maxRecDepth 20000 in
theorem ggX4_isSeen_X4_bit : GoodIn wsX4_isSeen wsX4_bit := goodIn_r _ [20] rfl (by decide +kernel)
set_option maxRecDepth 20000 in
theorem gX4_isSeen_X4_bit : GoodIn wsX4_isSeen (va_wsS RX4 185 yX4_bit wsX4_bit) := goodIn_app (goodIn_of _ (by decide +kernel)) ggX4_isSeen_X4_bit
set_option maxRecDepth 20000 in
theorem ggX4_isSeen_X1_gather : GoodIn wsX4_isSeen wsX1_gather := goodIn_r _ [26, 27, 28, 29, 30, 5, 6, 7, 31, 32, 33, 25, 34, 35, 36, 37, 38, 39, 40, 41, 42, 43, 44, 45, 65, 54, 55, 56, 57, 58, 59, 60, 61, 62, 63, 64] rfl (by decide +kernel)
set_option maxRecDepth 20000 in
theorem gX4_isSeen_X1_gather : GoodIn wsX4_isSeen (wsV RX4 124 RX1 yX1_gather wsX1_gather) := goodIn_app (goodIn_of _ (by decide +kernel)) ggX4_isSeen_X1_gather
set_option maxRecDepth 20000 in
theorem ggX4_isSeen_X1_parts : GoodIn wsX4_isSeen wsX1_parts := goodIn_r _ [34, 27, 29, 30, 65, 54, 55, 56, 57, 58, 59, 60, 61, 62, 63, 64] rfl (by decide +kernel)
set_option maxRecDepth 20000 in
theorem gX4_isSeen_X1_parts : GoodIn wsX4_isSeen (wsV RX4 223 RX1 yX1_parts wsX1_parts) := goodIn_app (goodIn_of _ (by decide +kernel)) ggX4_isSeen_X1_parts
theorem dX4_isSeen_0 : decode cX4_isSeen 0 = .ok (.aload_n 0, 1) := by decide +kernel
theorem dX4_isSeen_1 : decode cX4_isSeen 1 = .ok (.getfield 10, 3) := by decide +kernel
theorem dX4_isSeen_4 : decode cX4_isSeen 4 = .ok (.getfield 75, 3) := by decide +kernel
theorem dX4_isSeen_7 : decode cX4_isSeen 7 = .ok (.iload_n 1, 1) := by decide +kernel
theorem dX4_isSeen_8 : decode cX4_isSeen 8 = .ok (.invokestatic 78, 3) := by decide +kernel
theorem dX4_isSeen_11 : decode cX4_isSeen 11 = .ok (.ifCond .eq 5, 3) := by decide +kernel
theorem dX4_isSeen_14 : decode cX4_isSeen 14 = .ok (.iconst 1, 1) := by decide +kernel
theorem dX4_isSeen_15 : decode cX4_isSeen 15 = .ok (.ireturn, 1) := by decide +kernel
theorem dX4_isSeen_16 : decode cX4_isSeen 16 = .ok (.aload_n 0, 1) := by decide +kernel
theorem dX4_isSeen_17 : decode cX4_isSeen 17 = .ok (.getfield 26, 3) := by decide +kernel
theorem dX4_isSeen_20 : decode cX4_isSeen 20 = .ok (.aload_n 0, 1) := by decide +kernel
theorem dX4_isSeen_21 : decode cX4_isSeen 21 = .ok (.getfield 10, 3) := by decide +kernel
theorem dX4_isSeen_24 : decode cX4_isSeen 24 = .ok (.aload_n 0, 1) := by decide +kernel
theorem dX4_isSeen_25 : decode cX4_isSeen 25 = .ok (.getfield 10, 3) := by decide +kernel
theorem dX4_isSeen_28 : decode cX4_isSeen 28 = .ok (.invokevirtual 120, 3) := by decide +kernel
theorem dX4_isSeen_31 : decode cX4_isSeen 31 = .ok (.iload_n 1, 1) := by decide +kernel
theorem dX4_isSeen_32 : decode cX4_isSeen 32 = .ok (.invokestatic 185, 3) := by decide +kernel
theorem dX4_isSeen_35 : decode cX4_isSeen 35 = .ok (.iconst (-1), 1) := by decide +kernel
theorem dX4_isSeen_36 : decode cX4_isSeen 36 = .ok (.ixor, 1) := by decide +kernel
theorem dX4_isSeen_37 : decode cX4_isSeen 37 = .ok (.iand, 1) := by decide +kernel
theorem dX4_isSeen_38 : decode cX4_isSeen 38 = .ok (.invokevirtual 124, 3) := by decide +kernel
theorem dX4_isSeen_41 : decode cX4_isSeen 41 = .ok (.pop, 1) := by decide +kernel
theorem dX4_isSeen_42 : decode cX4_isSeen 42 = .ok (.aload_n 0, 1) := by decide +kernel
theorem dX4_isSeen_43 : decode cX4_isSeen 43 = .ok (.getfield 26, 3) := by decide +kernel
theorem dX4_isSeen_46 : decode cX4_isSeen 46 = .ok (.aload_n 0, 1) := by decide +kernel
theorem dX4_isSeen_47 : decode cX4_isSeen 47 = .ok (.getfield 10, 3) := by decide +kernel
theorem dX4_isSeen_50 : decode cX4_isSeen 50 = .ok (.iload_n 1, 1) := by decide +kernel
theorem dX4_isSeen_51 : decode cX4_isSeen 51 = .ok (.invokevirtual 223, 3) := by decide +kernel
theorem dX4_isSeen_54 : decode cX4_isSeen 54 = .ok (.ireturn, 1) := by decide +kernel
/-! ===== FlowMeters.isSeen(I)Z ===== -/
def fX4_isSeen (N : Nat) (c_t_now_flows : Int32) (c_t_now_readSet : Int32) (c_t_now_from : Nat → Int32) (c_t_now_to : Nat → Int32) (c_t_groups_least : Nat → Int32) (x1 : Int32) : Option (Int32 × (Nat → Int32)) :=
  (fX4_holds c_t_now_readSet x1).bind fun v1 =>
  (if v1 = 0 then
    (fX3_unreadSet c_t_now_flows c_t_now_readSet).bind fun v4 =>
    (fX4_bit x1).bind fun v6 =>
    (fX1_gather N c_t_groups_least c_t_now_flows c_t_now_from c_t_now_to (v4 &&& (v6 ^^^ (-1)))).bind fun (v8, v9) =>
    (fX1_parts v9 c_t_now_from c_t_now_to x1).bind fun v11 =>
    (ya_bo v11).bind fun v13 => some (v13, v9)
  else
    some (1, c_t_groups_least))
theorem fX4_isSeen_10 : yF wsX4_isSeen RX4 10 4 0 RX4 TX4 7 := ⟨rfl, by decide, by decide +kernel, by decide +kernel⟩
theorem fX4_isSeen_75 : yF wsX4_isSeen RX4 75 3 2 RX3 TX3 11 := ⟨rfl, by decide, by decide +kernel, by decide +kernel⟩
theorem fX4_isSeen_26 : yF wsX4_isSeen RX4 26 4 2 RX4 TX4 7 := ⟨rfl, by decide, by decide +kernel, by decide +kernel⟩
abbrev rmX4_isSeen : Room := { frames := 3, cells := 0, slots := 0, locals := 97 }
theorem eX4_isSeen : yY yX4_isSeen wsX4_isSeen cX4_isSeen 2 (some .boolean) rmX4_isSeen 1 := ⟨⟨_, rfl⟩, rfl, rfl, by decide, by decide, by decide +kernel⟩
set_option maxHeartbeats 4000000 in
set_option maxRecDepth 100000 in
theorem mX4_isSeen {l : Launch} {D : va_G} {sz : Nat} {cI cJ cZ cW cR : ClassId} {N : Nat} {h_t : Nat} {A_t : Nat → Nat} {A_t_now : Nat → Nat} {A_t_groups : Nat → Nat} {c_t_now_knots : Int32} {c_t_now_flows : Int32} {c_t_now_readSet : Int32} {c_t_now_from : Nat → Int32} {c_t_now_to : Nat → Int32} {c_t_groups_least : Nat → Int32} {x1 : Int32} {r : Int32} {zc_t_groups_least : Nat → Int32} (hf : fX4_isSeen N c_t_now_flows c_t_now_readSet c_t_now_from c_t_now_to c_t_groups_least x1 = some (r, zc_t_groups_least)) : Met l yX4_isSeen wsX4_isSeen rmX4_isSeen (yP D (yT cI cJ cZ cW cR) [(h_t, oM A_t), (A_t 0, oW A_t_now c_t_now_knots c_t_now_flows c_t_now_readSet), (A_t_now 0, eI cI 10 c_t_now_from), (A_t_now 1, eI cI 10 c_t_now_to), (A_t 2, oG A_t_groups), (A_t_groups 0, eI cI 6 c_t_groups_least)] sz [.ref h_t, .int x1]) (yQi D (yT cI cJ cZ cW cR) r [(h_t, oM A_t), (A_t 0, oW A_t_now c_t_now_knots c_t_now_flows c_t_now_readSet), (A_t_now 0, eI cI 10 c_t_now_from), (A_t_now 1, eI cI 10 c_t_now_to), (A_t 2, oG A_t_groups), (A_t_groups 0, eI cI 6 zc_t_groups_least)] (va_A [(h_t, oM A_t), (A_t 0, oW A_t_now c_t_now_knots c_t_now_flows c_t_now_readSet), (A_t_now 0, eI cI 10 c_t_now_from), (A_t_now 1, eI cI 10 c_t_now_to), (A_t 2, oG A_t_groups), (A_t_groups 0, eI cI 6 c_t_groups_least)] sz)) 0 0 (va_A [(h_t, oM A_t), (A_t 0, oW A_t_now c_t_now_knots c_t_now_flows c_t_now_readSet), (A_t_now 0, eI cI 10 c_t_now_from), (A_t_now 1, eI cI 10 c_t_now_to), (A_t 2, oG A_t_groups), (A_t_groups 0, eI cI 6 c_t_groups_least)] sz) := by
  refine yM (cc := cX4_isSeen) (maxL := 2) (ret := (some .boolean)) RX4 (by decide) rfl rfl (Nat.le_of_ble_eq_true rfl) ?_
  intro p e s m below meth c Γ hr
  show yG p l e (headSpec wsX4_isSeen rmX4_isSeen).room s m (List.toArray [.ref h_t, .int x1]) below meth c D (va_A [(h_t, oM A_t), (A_t 0, oW A_t_now c_t_now_knots c_t_now_flows c_t_now_readSet), (A_t_now 0, eI cI 10 c_t_now_from), (A_t_now 1, eI cI 10 c_t_now_to), (A_t 2, oG A_t_groups), (A_t_groups 0, eI cI 6 c_t_groups_least)] sz) 2 0 0 (MQ below (yQi D (yT cI cJ cZ cW cR) r [(h_t, oM A_t), (A_t 0, oW A_t_now c_t_now_knots c_t_now_flows c_t_now_readSet), (A_t_now 0, eI cI 10 c_t_now_from), (A_t_now 1, eI cI 10 c_t_now_to), (A_t 2, oG A_t_groups), (A_t_groups 0, eI cI 6 zc_t_groups_least)] (va_A [(h_t, oM A_t), (A_t 0, oW A_t_now c_t_now_knots c_t_now_flows c_t_now_readSet), (A_t_now 0, eI cI 10 c_t_now_from), (A_t_now 1, eI cI 10 c_t_now_to), (A_t 2, oG A_t_groups), (A_t_groups 0, eI cI 6 c_t_groups_least)] sz)) (List.toArray [.ref h_t, .int x1]) s 0 0 (va_A [(h_t, oM A_t), (A_t 0, oW A_t_now c_t_now_knots c_t_now_flows c_t_now_readSet), (A_t_now 0, eI cI 10 c_t_now_from), (A_t_now 1, eI cI 10 c_t_now_to), (A_t 2, oG A_t_groups), (A_t_groups 0, eI cI 6 c_t_groups_least)] sz)) 0 [(0, .ref h_t), (1, .int x1)] [] [(h_t, oM A_t), (A_t 0, oW A_t_now c_t_now_knots c_t_now_flows c_t_now_readSet), (A_t_now 0, eI cI 10 c_t_now_from), (A_t_now 1, eI cI 10 c_t_now_to), (A_t 2, oG A_t_groups), (A_t_groups 0, eI cI 6 c_t_groups_least)]
  unfold fX4_isSeen at hf
  refine g_aload_n Γ 0 dX4_isSeen_0 rfl ?_
  refine g_get Γ fX4_isSeen_10 0 rfl rfl dX4_isSeen_1 ?_
  refine g_get Γ fX4_isSeen_75 1 rfl rfl dX4_isSeen_4 ?_
  refine g_iload_n Γ 1 dX4_isSeen_7 rfl ?_
  obtain ⟨v1, e2, hf⟩ := ya_ob hf
  refine g_si (wr := [(h_t, oM A_t), (A_t 0, oW A_t_now c_t_now_knots c_t_now_flows c_t_now_readSet), (A_t_now 0, eI cI 10 c_t_now_from), (A_t_now 1, eI cI 10 c_t_now_to), (A_t 2, oG A_t_groups), (A_t_groups 0, eI cI 6 c_t_groups_least)]) (ws' := [(h_t, oM A_t), (A_t 0, oW A_t_now c_t_now_knots c_t_now_flows c_t_now_readSet), (A_t_now 0, eI cI 10 c_t_now_from), (A_t_now 1, eI cI 10 c_t_now_to), (A_t 2, oG A_t_groups), (A_t_groups 0, eI cI 6 c_t_groups_least)]) Γ (fun sz => mX4_holds (l := l) (D := D) (sz := sz) (cI := cI) (cJ := cJ) (cZ := cZ) (cW := cW) (cR := cR)  (hf := e2)) eX4_holds ggX4_isSeen_X4_holds (by decide +kernel) (by decide +kernel) (by decide +kernel) rfl rfl (Nat.le_of_ble_eq_true rfl) ⟨Nat.le_of_ble_eq_true rfl, Nat.le_of_ble_eq_true rfl⟩ dX4_isSeen_8 [] [0, 1, 2, 3, 4, 5] rfl rfl rfl rfl (by decide) rfl ?_
  refine g_if_eq Γ 16 dX4_isSeen_11 (by decide) (fun c3 => ?_) (fun c3 => ?_)
  · have hf := ya_if1 c3 hf
    refine g_aload_n Γ 0 dX4_isSeen_16 rfl ?_
    refine g_get Γ fX4_isSeen_26 0 rfl rfl dX4_isSeen_17 ?_
    refine g_aload_n Γ 0 dX4_isSeen_20 rfl ?_
    refine g_get Γ fX4_isSeen_10 0 rfl rfl dX4_isSeen_21 ?_
    refine g_aload_n Γ 0 dX4_isSeen_24 rfl ?_
    refine g_get Γ fX4_isSeen_10 0 rfl rfl dX4_isSeen_25 ?_
    obtain ⟨v4, e5, hf⟩ := ya_ob hf
    refine g_vi (q := (RX3, TX3, 11)) (wr := [(h_t, oM A_t), (A_t_now 0, eI cI 10 c_t_now_from), (A_t_now 1, eI cI 10 c_t_now_to), (A_t 2, oG A_t_groups), (A_t_groups 0, eI cI 6 c_t_groups_least)]) (ws' := [(h_t, oM A_t), (A_t_now 0, eI cI 10 c_t_now_from), (A_t_now 1, eI cI 10 c_t_now_to), (A_t 2, oG A_t_groups), (A_t_groups 0, eI cI 6 c_t_groups_least), (A_t 0, oW A_t_now c_t_now_knots c_t_now_flows c_t_now_readSet)]) Γ (fun sz => mX3_unreadSet (l := l) (D := D) (sz := sz) (cI := cI) (cJ := cJ) (cZ := cZ) (cW := cW) (cR := cR) (h_t := A_t 0) (A_t := A_t_now) (hf := e5)) eX3_unreadSet gX4_isSeen_X3_unreadSet rfl rfl 0 rfl rfl rfl (Nat.le_of_ble_eq_true rfl) ⟨Nat.le_of_ble_eq_true rfl, Nat.le_of_ble_eq_true rfl⟩ dX4_isSeen_28 [1] [0, 2, 3, 4, 5] rfl rfl rfl rfl (by decide) rfl ?_
    refine g_iload_n Γ 1 dX4_isSeen_31 rfl ?_
    obtain ⟨v6, e7, hf⟩ := ya_ob hf
    refine g_si (wr := [(h_t, oM A_t), (A_t_now 0, eI cI 10 c_t_now_from), (A_t_now 1, eI cI 10 c_t_now_to), (A_t 2, oG A_t_groups), (A_t_groups 0, eI cI 6 c_t_groups_least), (A_t 0, oW A_t_now c_t_now_knots c_t_now_flows c_t_now_readSet)]) (ws' := [(h_t, oM A_t), (A_t_now 0, eI cI 10 c_t_now_from), (A_t_now 1, eI cI 10 c_t_now_to), (A_t 2, oG A_t_groups), (A_t_groups 0, eI cI 6 c_t_groups_least), (A_t 0, oW A_t_now c_t_now_knots c_t_now_flows c_t_now_readSet)]) Γ (fun sz => mX4_bit (l := l) (D := D) (sz := sz) (cI := cI) (cJ := cJ) (cZ := cZ) (cW := cW) (cR := cR)  (hf := e7)) eX4_bit ggX4_isSeen_X4_bit (by decide +kernel) (by decide +kernel) (by decide +kernel) rfl rfl (Nat.le_of_ble_eq_true rfl) ⟨Nat.le_of_ble_eq_true rfl, Nat.le_of_ble_eq_true rfl⟩ dX4_isSeen_32 [] [0, 1, 2, 3, 4, 5] rfl rfl rfl rfl (by decide) rfl ?_
    refine g_iconst (v := (-1)) Γ dX4_isSeen_35 (by decide) ?_
    refine g_ixor Γ dX4_isSeen_36 ?_
    refine g_iand Γ dX4_isSeen_37 ?_
    obtain ⟨⟨v8, v9⟩, e10, hf⟩ := ya_ob hf
    refine g_vi (q := (RX1, TX1, 1)) (wr := [(h_t, oM A_t)]) (ws' := [(h_t, oM A_t), (A_t 2, oG A_t_groups), (A_t_groups 0, eI cI 6 v9), (A_t 0, oW A_t_now c_t_now_knots c_t_now_flows c_t_now_readSet), (A_t_now 0, eI cI 10 c_t_now_from), (A_t_now 1, eI cI 10 c_t_now_to)]) Γ (fun sz => mX1_gather (l := l) (D := D) (sz := sz) (cI := cI) (cJ := cJ) (cZ := cZ) (cW := cW) (cR := cR) (h_t := A_t 2) (h_w := A_t 0) (A_t := A_t_groups) (A_w := A_t_now) (hf := e10)) eX1_gather gX4_isSeen_X1_gather rfl rfl 0 rfl rfl rfl (Nat.le_of_ble_eq_true rfl) ⟨Nat.le_of_ble_eq_true rfl, Nat.le_of_ble_eq_true rfl⟩ dX4_isSeen_38 [3, 4, 5, 1, 2] [0] rfl rfl rfl rfl (by decide) rfl ?_
    refine g_pop Γ dX4_isSeen_41 rfl ?_
    refine g_aload_n Γ 0 dX4_isSeen_42 rfl ?_
    refine g_get Γ fX4_isSeen_26 0 rfl rfl dX4_isSeen_43 ?_
    refine g_aload_n Γ 0 dX4_isSeen_46 rfl ?_
    refine g_get Γ fX4_isSeen_10 0 rfl rfl dX4_isSeen_47 ?_
    refine g_iload_n Γ 1 dX4_isSeen_50 rfl ?_
    obtain ⟨v11, e12, hf⟩ := ya_ob hf
    refine g_vi (q := (RX1, TX1, 1)) (wr := [(h_t, oM A_t)]) (ws' := [(h_t, oM A_t), (A_t 2, oG A_t_groups), (A_t_groups 0, eI cI 6 v9), (A_t 0, oW A_t_now c_t_now_knots c_t_now_flows c_t_now_readSet), (A_t_now 0, eI cI 10 c_t_now_from), (A_t_now 1, eI cI 10 c_t_now_to)]) Γ (fun sz => mX1_parts (l := l) (D := D) (sz := sz) (cI := cI) (cJ := cJ) (cZ := cZ) (cW := cW) (cR := cR) (h_t := A_t 2) (h_w := A_t 0) (A_t := A_t_groups) (A_w := A_t_now) (hf := e12)) eX1_parts gX4_isSeen_X1_parts rfl rfl 0 rfl rfl rfl (Nat.le_of_ble_eq_true rfl) ⟨Nat.le_of_ble_eq_true rfl, Nat.le_of_ble_eq_true rfl⟩ dX4_isSeen_51 [1, 2, 3, 4, 5] [0] rfl rfl rfl rfl (by decide) rfl ?_
    obtain ⟨v13, e14, hf⟩ := ya_ob hf
    cases hf
    exact g_zret Γ hr e14 dX4_isSeen_54 [0, 3, 4, 5, 1, 2] rfl rfl
  · have hf := ya_if2 c3 hf
    refine g_iconst (v := 1) Γ dX4_isSeen_14 (by decide) ?_
    cases hf
    exact g_zret Γ hr (show ya_bo 1 = some 1 from rfl) dX4_isSeen_15 [0, 1, 2, 3, 4, 5] rfl rfl

set_option maxRecDepth 20000 in
theorem ggX4_countSeen_X4_isSeen : GoodIn wsX4_countSeen wsX4_isSeen := goodIn_r _ [7, 1, 8, 9, 10, 11, 6, 12, 13, 14, 15, 16, 17, 18, 19, 20, 21, 22, 23, 24, 25, 26, 27, 28, 29, 30, 31, 32, 33, 34, 35, 36, 37, 38, 39, 40, 41, 42, 43, 44, 45, 46, 47, 48, 49, 50, 51, 52, 53, 54, 55, 56, 57, 58, 59, 60, 61, 62, 63, 64, 65, 66, 67, 68, 69, 70] rfl (by decide +kernel)
set_option maxRecDepth 20000 in
theorem gX4_countSeen_X4_isSeen : GoodIn wsX4_countSeen (wsV RX4 152 RX4 yX4_isSeen wsX4_isSeen) := goodIn_app (goodIn_of _ (by decide +kernel)) ggX4_countSeen_X4_isSeen
theorem dX4_countSeen_0 : decode cX4_countSeen 0 = .ok (.iconst 0, 1) := by decide +kernel
theorem dX4_countSeen_1 : decode cX4_countSeen 1 = .ok (.istore_n 1, 1) := by decide +kernel
theorem dX4_countSeen_2 : decode cX4_countSeen 2 = .ok (.iconst 0, 1) := by decide +kernel
theorem dX4_countSeen_3 : decode cX4_countSeen 3 = .ok (.istore_n 2, 1) := by decide +kernel
theorem dX4_countSeen_4 : decode cX4_countSeen 4 = .ok (.iload_n 2, 1) := by decide +kernel
theorem dX4_countSeen_5 : decode cX4_countSeen 5 = .ok (.aload_n 0, 1) := by decide +kernel
theorem dX4_countSeen_6 : decode cX4_countSeen 6 = .ok (.getfield 10, 3) := by decide +kernel
theorem dX4_countSeen_9 : decode cX4_countSeen 9 = .ok (.getfield 60, 3) := by decide +kernel
theorem dX4_countSeen_12 : decode cX4_countSeen 12 = .ok (.if_icmp .ge 20, 3) := by decide +kernel
theorem dX4_countSeen_15 : decode cX4_countSeen 15 = .ok (.aload_n 0, 1) := by decide +kernel
theorem dX4_countSeen_16 : decode cX4_countSeen 16 = .ok (.iload_n 2, 1) := by decide +kernel
theorem dX4_countSeen_17 : decode cX4_countSeen 17 = .ok (.invokevirtual 152, 3) := by decide +kernel
theorem dX4_countSeen_20 : decode cX4_countSeen 20 = .ok (.ifCond .eq 6, 3) := by decide +kernel
theorem dX4_countSeen_23 : decode cX4_countSeen 23 = .ok (.iinc 1 1, 3) := by decide +kernel
theorem dX4_countSeen_26 : decode cX4_countSeen 26 = .ok (.iinc 2 1, 3) := by decide +kernel
theorem dX4_countSeen_29 : decode cX4_countSeen 29 = .ok (.goto (-25), 3) := by decide +kernel
theorem dX4_countSeen_32 : decode cX4_countSeen 32 = .ok (.iload_n 1, 1) := by decide +kernel
theorem dX4_countSeen_33 : decode cX4_countSeen 33 = .ok (.ireturn, 1) := by decide +kernel
/-! ===== FlowMeters.countSeen()I ===== -/
def fX4_countSeen_L4 (N : Nat) (n : Nat) (y1 : Int32) (y2 : Int32) (d_t_now_flows : Int32) (d_t_now_readSet : Int32) (d_t_now_from : Nat → Int32) (d_t_now_to : Nat → Int32) (d_t_groups_least : Nat → Int32) : Option (Int32 × (Nat → Int32)) := match n with
  | 0 => none
  | n + 1 =>
    (if d_t_now_flows ≤ y2 then
        some (y1, d_t_groups_least)
      else
        (fX4_isSeen N d_t_now_flows d_t_now_readSet d_t_now_from d_t_now_to d_t_groups_least y2).bind fun (v2, v3) =>
        (if v2 = 0 then
          ya_lt (y2 + 1) fun v6 =>
          fX4_countSeen_L4 N n y1 v6 d_t_now_flows d_t_now_readSet d_t_now_from d_t_now_to v3
        else
          ya_lt (y1 + 1) fun v8 =>
          ya_lt (y2 + 1) fun v10 =>
          fX4_countSeen_L4 N n v8 v10 d_t_now_flows d_t_now_readSet d_t_now_from d_t_now_to v3))
def fX4_countSeen (N : Nat) (c_t_now_flows : Int32) (c_t_now_readSet : Int32) (c_t_now_from : Nat → Int32) (c_t_now_to : Nat → Int32) (c_t_groups_least : Nat → Int32)  : Option (Int32 × (Nat → Int32)) :=
  (fX4_countSeen_L4 N N 0 0 c_t_now_flows c_t_now_readSet c_t_now_from c_t_now_to c_t_groups_least).bind fun (v12, v13) =>
  some (v12, v13)
theorem fX4_countSeen_10 : yF wsX4_countSeen RX4 10 4 0 RX4 TX4 7 := ⟨rfl, by decide, by decide +kernel, by decide +kernel⟩
theorem fX4_countSeen_60 : yF wsX4_countSeen RX4 60 3 1 RX3 TX3 11 := ⟨rfl, by decide, by decide +kernel, by decide +kernel⟩
abbrev rmX4_countSeen : Room := { frames := 4, cells := 0, slots := 0, locals := 118 }
theorem eX4_countSeen : yY yX4_countSeen wsX4_countSeen cX4_countSeen 3 (some .int) rmX4_countSeen 0 := ⟨⟨_, rfl⟩, rfl, rfl, by decide, by decide, by decide +kernel⟩
set_option maxHeartbeats 4000000 in
set_option maxRecDepth 100000 in
theorem mX4_countSeen {l : Launch} {D : va_G} {sz : Nat} {cI cJ cZ cW cR : ClassId} {N : Nat} {h_t : Nat} {A_t : Nat → Nat} {A_t_now : Nat → Nat} {A_t_groups : Nat → Nat} {c_t_now_knots : Int32} {c_t_now_flows : Int32} {c_t_now_readSet : Int32} {c_t_now_from : Nat → Int32} {c_t_now_to : Nat → Int32} {c_t_groups_least : Nat → Int32} {r : Int32} {zc_t_groups_least : Nat → Int32} (hf : fX4_countSeen N c_t_now_flows c_t_now_readSet c_t_now_from c_t_now_to c_t_groups_least = some (r, zc_t_groups_least)) : Met l yX4_countSeen wsX4_countSeen rmX4_countSeen (yP D (yT cI cJ cZ cW cR) [(h_t, oM A_t), (A_t 0, oW A_t_now c_t_now_knots c_t_now_flows c_t_now_readSet), (A_t_now 0, eI cI 10 c_t_now_from), (A_t_now 1, eI cI 10 c_t_now_to), (A_t 2, oG A_t_groups), (A_t_groups 0, eI cI 6 c_t_groups_least)] sz [.ref h_t]) (yQi D (yT cI cJ cZ cW cR) r [(h_t, oM A_t), (A_t 0, oW A_t_now c_t_now_knots c_t_now_flows c_t_now_readSet), (A_t_now 0, eI cI 10 c_t_now_from), (A_t_now 1, eI cI 10 c_t_now_to), (A_t 2, oG A_t_groups), (A_t_groups 0, eI cI 6 zc_t_groups_least)] (va_A [(h_t, oM A_t), (A_t 0, oW A_t_now c_t_now_knots c_t_now_flows c_t_now_readSet), (A_t_now 0, eI cI 10 c_t_now_from), (A_t_now 1, eI cI 10 c_t_now_to), (A_t 2, oG A_t_groups), (A_t_groups 0, eI cI 6 c_t_groups_least)] sz)) 0 0 (va_A [(h_t, oM A_t), (A_t 0, oW A_t_now c_t_now_knots c_t_now_flows c_t_now_readSet), (A_t_now 0, eI cI 10 c_t_now_from), (A_t_now 1, eI cI 10 c_t_now_to), (A_t 2, oG A_t_groups), (A_t_groups 0, eI cI 6 c_t_groups_least)] sz) := by
  refine yM (cc := cX4_countSeen) (maxL := 3) (ret := (some .int)) RX4 (by decide) rfl rfl (Nat.le_of_ble_eq_true rfl) ?_
  intro p e s m below meth c Γ hr
  have loop4 : ∀ (n : Nat) (y1 : Int32) (y2 : Int32) (d_t_now_knots : Int32) (d_t_now_flows : Int32) (d_t_now_readSet : Int32) (d_t_now_from : Nat → Int32) (d_t_now_to : Nat → Int32) (d_t_groups_least : Nat → Int32) (w0 : Int32) (w1 : Nat → Int32), fX4_countSeen_L4 N n y1 y2 d_t_now_flows d_t_now_readSet d_t_now_from d_t_now_to d_t_groups_least = some (w0, w1) → yG p l e (headSpec wsX4_countSeen rmX4_countSeen).room s m (List.toArray [.ref h_t]) below meth c D (va_A [(h_t, oM A_t), (A_t 0, oW A_t_now c_t_now_knots c_t_now_flows c_t_now_readSet), (A_t_now 0, eI cI 10 c_t_now_from), (A_t_now 1, eI cI 10 c_t_now_to), (A_t 2, oG A_t_groups), (A_t_groups 0, eI cI 6 c_t_groups_least)] sz) 3 0 0 (MQ below (yQi D (yT cI cJ cZ cW cR) r [(h_t, oM A_t), (A_t 0, oW A_t_now c_t_now_knots c_t_now_flows c_t_now_readSet), (A_t_now 0, eI cI 10 c_t_now_from), (A_t_now 1, eI cI 10 c_t_now_to), (A_t 2, oG A_t_groups), (A_t_groups 0, eI cI 6 zc_t_groups_least)] (va_A [(h_t, oM A_t), (A_t 0, oW A_t_now c_t_now_knots c_t_now_flows c_t_now_readSet), (A_t_now 0, eI cI 10 c_t_now_from), (A_t_now 1, eI cI 10 c_t_now_to), (A_t 2, oG A_t_groups), (A_t_groups 0, eI cI 6 c_t_groups_least)] sz)) (List.toArray [.ref h_t]) s 0 0 (va_A [(h_t, oM A_t), (A_t 0, oW A_t_now c_t_now_knots c_t_now_flows c_t_now_readSet), (A_t_now 0, eI cI 10 c_t_now_from), (A_t_now 1, eI cI 10 c_t_now_to), (A_t 2, oG A_t_groups), (A_t_groups 0, eI cI 6 c_t_groups_least)] sz)) 32 [(1, .int w0)] [] [(h_t, oM A_t), (A_t 0, oW A_t_now d_t_now_knots d_t_now_flows d_t_now_readSet), (A_t_now 0, eI cI 10 d_t_now_from), (A_t_now 1, eI cI 10 d_t_now_to), (A_t 2, oG A_t_groups), (A_t_groups 0, eI cI 6 w1)] → yG p l e (headSpec wsX4_countSeen rmX4_countSeen).room s m (List.toArray [.ref h_t]) below meth c D (va_A [(h_t, oM A_t), (A_t 0, oW A_t_now c_t_now_knots c_t_now_flows c_t_now_readSet), (A_t_now 0, eI cI 10 c_t_now_from), (A_t_now 1, eI cI 10 c_t_now_to), (A_t 2, oG A_t_groups), (A_t_groups 0, eI cI 6 c_t_groups_least)] sz) 3 0 0 (MQ below (yQi D (yT cI cJ cZ cW cR) r [(h_t, oM A_t), (A_t 0, oW A_t_now c_t_now_knots c_t_now_flows c_t_now_readSet), (A_t_now 0, eI cI 10 c_t_now_from), (A_t_now 1, eI cI 10 c_t_now_to), (A_t 2, oG A_t_groups), (A_t_groups 0, eI cI 6 zc_t_groups_least)] (va_A [(h_t, oM A_t), (A_t 0, oW A_t_now c_t_now_knots c_t_now_flows c_t_now_readSet), (A_t_now 0, eI cI 10 c_t_now_from), (A_t_now 1, eI cI 10 c_t_now_to), (A_t 2, oG A_t_groups), (A_t_groups 0, eI cI 6 c_t_groups_least)] sz)) (List.toArray [.ref h_t]) s 0 0 (va_A [(h_t, oM A_t), (A_t 0, oW A_t_now c_t_now_knots c_t_now_flows c_t_now_readSet), (A_t_now 0, eI cI 10 c_t_now_from), (A_t_now 1, eI cI 10 c_t_now_to), (A_t 2, oG A_t_groups), (A_t_groups 0, eI cI 6 c_t_groups_least)] sz)) 4 [(0, .ref h_t), (1, .int y1), (2, .int y2)] [] [(h_t, oM A_t), (A_t 0, oW A_t_now d_t_now_knots d_t_now_flows d_t_now_readSet), (A_t_now 0, eI cI 10 d_t_now_from), (A_t_now 1, eI cI 10 d_t_now_to), (A_t 2, oG A_t_groups), (A_t_groups 0, eI cI 6 d_t_groups_least)] := by
    intro n
    induction n with
    | zero =>
      intro y1 y2 d_t_now_knots d_t_now_flows d_t_now_readSet d_t_now_from d_t_now_to d_t_groups_least w0 w1 hf
      cases hf
    | succ n ih =>
      intro y1 y2 d_t_now_knots d_t_now_flows d_t_now_readSet d_t_now_from d_t_now_to d_t_groups_least w0 w1 hf hk
      unfold fX4_countSeen_L4 at hf
      refine g_iload_n Γ 2 dX4_countSeen_4 rfl ?_
      refine g_aload_n Γ 0 dX4_countSeen_5 rfl ?_
      refine g_get Γ fX4_countSeen_10 0 rfl rfl dX4_countSeen_6 ?_
      refine g_get Γ fX4_countSeen_60 1 rfl rfl dX4_countSeen_9 ?_
      refine g_icmp_ge Γ 32 dX4_countSeen_12 (by decide) (fun c1 => ?_) (fun c1 => ?_)
      · have hf := ya_if1 c1 hf
        cases hf
        refine g_lv [1] rfl ?_
        exact hk
      · have hf := ya_if2 c1 hf
        refine g_aload_n Γ 0 dX4_countSeen_15 rfl ?_
        refine g_iload_n Γ 2 dX4_countSeen_16 rfl ?_
        obtain ⟨⟨v2, v3⟩, e4, hf⟩ := ya_ob hf
        refine g_vi (q := (RX4, TX4, 7)) (wr := []) (ws' := [(h_t, oM A_t), (A_t 0, oW A_t_now d_t_now_knots d_t_now_flows d_t_now_readSet), (A_t_now 0, eI cI 10 d_t_now_from), (A_t_now 1, eI cI 10 d_t_now_to), (A_t 2, oG A_t_groups), (A_t_groups 0, eI cI 6 v3)]) Γ (fun sz => mX4_isSeen (l := l) (D := D) (sz := sz) (cI := cI) (cJ := cJ) (cZ := cZ) (cW := cW) (cR := cR) (h_t := h_t) (A_t := A_t) (A_t_now := A_t_now) (A_t_groups := A_t_groups) (hf := e4)) eX4_isSeen gX4_countSeen_X4_isSeen rfl rfl 0 rfl rfl rfl (Nat.le_of_ble_eq_true rfl) ⟨Nat.le_of_ble_eq_true rfl, Nat.le_of_ble_eq_true rfl⟩ dX4_countSeen_17 [0, 1, 2, 3, 4, 5] [] rfl rfl rfl rfl (by decide) rfl ?_
        refine g_if_eq Γ 26 dX4_countSeen_20 (by decide) (fun c5 => ?_) (fun c5 => ?_)
        · have hf := ya_if1 c5 hf
          obtain ⟨v6, e7, hf⟩ := ya_lt_inv hf
          refine g_iinc (lv' := [(2, .int v6), (0, .ref h_t), (1, .int y1)]) Γ 2 dX4_countSeen_26 rfl (by rw [e7]; rfl) (by decide) rfl ?_
          refine g_goto Γ 4 dX4_countSeen_29 (by decide) ?_
          refine g_lv [1, 2, 0] rfl ?_
          exact ih _ _ _ _ _ _ _ _ _ _ hf hk
        · have hf := ya_if2 c5 hf
          obtain ⟨v8, e9, hf⟩ := ya_lt_inv hf
          refine g_iinc (lv' := [(1, .int v8), (0, .ref h_t), (2, .int y2)]) Γ 1 dX4_countSeen_23 rfl (by rw [e9]; rfl) (by decide) rfl ?_
          obtain ⟨v10, e11, hf⟩ := ya_lt_inv hf
          refine g_iinc (lv' := [(2, .int v10), (1, .int v8), (0, .ref h_t)]) Γ 2 dX4_countSeen_26 rfl (by rw [e11]; rfl) (by decide) rfl ?_
          refine g_goto Γ 4 dX4_countSeen_29 (by decide) ?_
          refine g_lv [2, 1, 0] rfl ?_
          exact ih _ _ _ _ _ _ _ _ _ _ hf hk
  show yG p l e (headSpec wsX4_countSeen rmX4_countSeen).room s m (List.toArray [.ref h_t]) below meth c D (va_A [(h_t, oM A_t), (A_t 0, oW A_t_now c_t_now_knots c_t_now_flows c_t_now_readSet), (A_t_now 0, eI cI 10 c_t_now_from), (A_t_now 1, eI cI 10 c_t_now_to), (A_t 2, oG A_t_groups), (A_t_groups 0, eI cI 6 c_t_groups_least)] sz) 3 0 0 (MQ below (yQi D (yT cI cJ cZ cW cR) r [(h_t, oM A_t), (A_t 0, oW A_t_now c_t_now_knots c_t_now_flows c_t_now_readSet), (A_t_now 0, eI cI 10 c_t_now_from), (A_t_now 1, eI cI 10 c_t_now_to), (A_t 2, oG A_t_groups), (A_t_groups 0, eI cI 6 zc_t_groups_least)] (va_A [(h_t, oM A_t), (A_t 0, oW A_t_now c_t_now_knots c_t_now_flows c_t_now_readSet), (A_t_now 0, eI cI 10 c_t_now_from), (A_t_now 1, eI cI 10 c_t_now_to), (A_t 2, oG A_t_groups), (A_t_groups 0, eI cI 6 c_t_groups_least)] sz)) (List.toArray [.ref h_t]) s 0 0 (va_A [(h_t, oM A_t), (A_t 0, oW A_t_now c_t_now_knots c_t_now_flows c_t_now_readSet), (A_t_now 0, eI cI 10 c_t_now_from), (A_t_now 1, eI cI 10 c_t_now_to), (A_t 2, oG A_t_groups), (A_t_groups 0, eI cI 6 c_t_groups_least)] sz)) 0 [(0, .ref h_t)] [] [(h_t, oM A_t), (A_t 0, oW A_t_now c_t_now_knots c_t_now_flows c_t_now_readSet), (A_t_now 0, eI cI 10 c_t_now_from), (A_t_now 1, eI cI 10 c_t_now_to), (A_t 2, oG A_t_groups), (A_t_groups 0, eI cI 6 c_t_groups_least)]
  unfold fX4_countSeen at hf
  refine g_iconst (v := 0) Γ dX4_countSeen_0 (by decide) ?_
  refine g_istore_n (lv' := [(1, .int 0), (0, .ref h_t)]) Γ dX4_countSeen_1 (by decide) rfl ?_
  refine g_iconst (v := 0) Γ dX4_countSeen_2 (by decide) ?_
  refine g_istore_n (lv' := [(2, .int 0), (1, .int 0), (0, .ref h_t)]) Γ dX4_countSeen_3 (by decide) rfl ?_
  obtain ⟨⟨v12, v13⟩, e14, hf⟩ := ya_ob hf
  refine g_lv [2, 1, 0] rfl ?_
  refine loop4 N _ _ _ _ _ _ _ _ _ _ e14  ?_
  refine g_iload_n Γ 0 dX4_countSeen_32 rfl ?_
  cases hf
  exact g_iret Γ hr dX4_countSeen_33 [0, 1, 2, 3, 4, 5] rfl rfl

set_option maxRecDepth 20000 in
theorem ggX4_isSpareIn_X4_holds : GoodIn wsX4_isSpareIn wsX4_holds := goodIn_r _ [7] rfl (by decide +kernel)
set_option maxRecDepth 20000 in
theorem gX4_isSpareIn_X4_holds : GoodIn wsX4_isSpareIn (va_wsS RX4 78 yX4_holds wsX4_holds) := goodIn_app (goodIn_of _ (by decide +kernel)) ggX4_isSpareIn_X4_holds
set_option maxRecDepth 20000 in
theorem ggX4_isSpareIn_X1_parts : GoodIn wsX4_isSpareIn wsX1_parts := goodIn_r _ [12, 13, 14, 15, 34, 23, 24, 25, 26, 27, 28, 29, 30, 31, 32, 33] rfl (by decide +kernel)
set_option maxRecDepth 20000 in
theorem gX4_isSpareIn_X1_parts : GoodIn wsX4_isSpareIn (wsV RX4 223 RX1 yX1_parts wsX1_parts) := goodIn_app (goodIn_of _ (by decide +kernel)) ggX4_isSpareIn_X1_parts
theorem dX4_isSpareIn_0 : decode cX4_isSpareIn 0 = .ok (.aload_n 0, 1) := by decide +kernel
theorem dX4_isSpareIn_1 : decode cX4_isSpareIn 1 = .ok (.getfield 10, 3) := by decide +kernel
theorem dX4_isSpareIn_4 : decode cX4_isSpareIn 4 = .ok (.getfield 75, 3) := by decide +kernel
theorem dX4_isSpareIn_7 : decode cX4_isSpareIn 7 = .ok (.iload_n 1, 1) := by decide +kernel
theorem dX4_isSpareIn_8 : decode cX4_isSpareIn 8 = .ok (.invokestatic 78, 3) := by decide +kernel
theorem dX4_isSpareIn_11 : decode cX4_isSpareIn 11 = .ok (.ifCond .eq 22, 3) := by decide +kernel
theorem dX4_isSpareIn_14 : decode cX4_isSpareIn 14 = .ok (.aload_n 0, 1) := by decide +kernel
theorem dX4_isSpareIn_15 : decode cX4_isSpareIn 15 = .ok (.getfield 26, 3) := by decide +kernel
theorem dX4_isSpareIn_18 : decode cX4_isSpareIn 18 = .ok (.aload_n 0, 1) := by decide +kernel
theorem dX4_isSpareIn_19 : decode cX4_isSpareIn 19 = .ok (.getfield 10, 3) := by decide +kernel
theorem dX4_isSpareIn_22 : decode cX4_isSpareIn 22 = .ok (.iload_n 1, 1) := by decide +kernel
theorem dX4_isSpareIn_23 : decode cX4_isSpareIn 23 = .ok (.invokevirtual 223, 3) := by decide +kernel
theorem dX4_isSpareIn_26 : decode cX4_isSpareIn 26 = .ok (.ifCond .eq 7, 3) := by decide +kernel
theorem dX4_isSpareIn_29 : decode cX4_isSpareIn 29 = .ok (.iconst 1, 1) := by decide +kernel
theorem dX4_isSpareIn_30 : decode cX4_isSpareIn 30 = .ok (.goto 4, 3) := by decide +kernel
theorem dX4_isSpareIn_33 : decode cX4_isSpareIn 33 = .ok (.iconst 0, 1) := by decide +kernel
theorem dX4_isSpareIn_34 : decode cX4_isSpareIn 34 = .ok (.ireturn, 1) := by decide +kernel
/-! ===== FlowMeters.isSpareIn(I)Z ===== -/
def fX4_isSpareIn (c_t_now_readSet : Int32) (c_t_now_from : Nat → Int32) (c_t_now_to : Nat → Int32) (c_t_groups_least : Nat → Int32) (x1 : Int32) : Option (Int32) :=
  (fX4_holds c_t_now_readSet x1).bind fun v1 =>
  (if v1 = 0 then
    some 0
  else
    (fX1_parts c_t_groups_least c_t_now_from c_t_now_to x1).bind fun v4 =>
    (if v4 = 0 then
      some 0
    else
      some 1))
theorem fX4_isSpareIn_10 : yF wsX4_isSpareIn RX4 10 4 0 RX4 TX4 7 := ⟨rfl, by decide, by decide +kernel, by decide +kernel⟩
theorem fX4_isSpareIn_75 : yF wsX4_isSpareIn RX4 75 3 2 RX3 TX3 11 := ⟨rfl, by decide, by decide +kernel, by decide +kernel⟩
theorem fX4_isSpareIn_26 : yF wsX4_isSpareIn RX4 26 4 2 RX4 TX4 7 := ⟨rfl, by decide, by decide +kernel, by decide +kernel⟩
abbrev rmX4_isSpareIn : Room := { frames := 1, cells := 0, slots := 0, locals := 22 }
theorem eX4_isSpareIn : yY yX4_isSpareIn wsX4_isSpareIn cX4_isSpareIn 2 (some .boolean) rmX4_isSpareIn 1 := ⟨⟨_, rfl⟩, rfl, rfl, by decide, by decide, by decide +kernel⟩
set_option maxHeartbeats 4000000 in
set_option maxRecDepth 100000 in
theorem mX4_isSpareIn {l : Launch} {D : va_G} {sz : Nat} {cI cJ cZ cW cR : ClassId} {h_t : Nat} {A_t : Nat → Nat} {A_t_now : Nat → Nat} {A_t_groups : Nat → Nat} {c_t_now_knots : Int32} {c_t_now_flows : Int32} {c_t_now_readSet : Int32} {c_t_now_from : Nat → Int32} {c_t_now_to : Nat → Int32} {c_t_groups_least : Nat → Int32} {x1 : Int32} {r : Int32} (hf : fX4_isSpareIn c_t_now_readSet c_t_now_from c_t_now_to c_t_groups_least x1 = some r) : Met l yX4_isSpareIn wsX4_isSpareIn rmX4_isSpareIn (yP D (yT cI cJ cZ cW cR) [(h_t, oM A_t), (A_t 0, oW A_t_now c_t_now_knots c_t_now_flows c_t_now_readSet), (A_t_now 0, eI cI 10 c_t_now_from), (A_t_now 1, eI cI 10 c_t_now_to), (A_t 2, oG A_t_groups), (A_t_groups 0, eI cI 6 c_t_groups_least)] sz [.ref h_t, .int x1]) (yQi D (yT cI cJ cZ cW cR) r [(h_t, oM A_t), (A_t 0, oW A_t_now c_t_now_knots c_t_now_flows c_t_now_readSet), (A_t_now 0, eI cI 10 c_t_now_from), (A_t_now 1, eI cI 10 c_t_now_to), (A_t 2, oG A_t_groups), (A_t_groups 0, eI cI 6 c_t_groups_least)] (va_A [(h_t, oM A_t), (A_t 0, oW A_t_now c_t_now_knots c_t_now_flows c_t_now_readSet), (A_t_now 0, eI cI 10 c_t_now_from), (A_t_now 1, eI cI 10 c_t_now_to), (A_t 2, oG A_t_groups), (A_t_groups 0, eI cI 6 c_t_groups_least)] sz)) 0 0 (va_A [(h_t, oM A_t), (A_t 0, oW A_t_now c_t_now_knots c_t_now_flows c_t_now_readSet), (A_t_now 0, eI cI 10 c_t_now_from), (A_t_now 1, eI cI 10 c_t_now_to), (A_t 2, oG A_t_groups), (A_t_groups 0, eI cI 6 c_t_groups_least)] sz) := by
  refine yM (cc := cX4_isSpareIn) (maxL := 2) (ret := (some .boolean)) RX4 (by decide) rfl rfl (Nat.le_of_ble_eq_true rfl) ?_
  intro p e s m below meth c Γ hr
  show yG p l e (headSpec wsX4_isSpareIn rmX4_isSpareIn).room s m (List.toArray [.ref h_t, .int x1]) below meth c D (va_A [(h_t, oM A_t), (A_t 0, oW A_t_now c_t_now_knots c_t_now_flows c_t_now_readSet), (A_t_now 0, eI cI 10 c_t_now_from), (A_t_now 1, eI cI 10 c_t_now_to), (A_t 2, oG A_t_groups), (A_t_groups 0, eI cI 6 c_t_groups_least)] sz) 2 0 0 (MQ below (yQi D (yT cI cJ cZ cW cR) r [(h_t, oM A_t), (A_t 0, oW A_t_now c_t_now_knots c_t_now_flows c_t_now_readSet), (A_t_now 0, eI cI 10 c_t_now_from), (A_t_now 1, eI cI 10 c_t_now_to), (A_t 2, oG A_t_groups), (A_t_groups 0, eI cI 6 c_t_groups_least)] (va_A [(h_t, oM A_t), (A_t 0, oW A_t_now c_t_now_knots c_t_now_flows c_t_now_readSet), (A_t_now 0, eI cI 10 c_t_now_from), (A_t_now 1, eI cI 10 c_t_now_to), (A_t 2, oG A_t_groups), (A_t_groups 0, eI cI 6 c_t_groups_least)] sz)) (List.toArray [.ref h_t, .int x1]) s 0 0 (va_A [(h_t, oM A_t), (A_t 0, oW A_t_now c_t_now_knots c_t_now_flows c_t_now_readSet), (A_t_now 0, eI cI 10 c_t_now_from), (A_t_now 1, eI cI 10 c_t_now_to), (A_t 2, oG A_t_groups), (A_t_groups 0, eI cI 6 c_t_groups_least)] sz)) 0 [(0, .ref h_t), (1, .int x1)] [] [(h_t, oM A_t), (A_t 0, oW A_t_now c_t_now_knots c_t_now_flows c_t_now_readSet), (A_t_now 0, eI cI 10 c_t_now_from), (A_t_now 1, eI cI 10 c_t_now_to), (A_t 2, oG A_t_groups), (A_t_groups 0, eI cI 6 c_t_groups_least)]
  unfold fX4_isSpareIn at hf
  refine g_aload_n Γ 0 dX4_isSpareIn_0 rfl ?_
  refine g_get Γ fX4_isSpareIn_10 0 rfl rfl dX4_isSpareIn_1 ?_
  refine g_get Γ fX4_isSpareIn_75 1 rfl rfl dX4_isSpareIn_4 ?_
  refine g_iload_n Γ 1 dX4_isSpareIn_7 rfl ?_
  obtain ⟨v1, e2, hf⟩ := ya_ob hf
  refine g_si (wr := [(h_t, oM A_t), (A_t 0, oW A_t_now c_t_now_knots c_t_now_flows c_t_now_readSet), (A_t_now 0, eI cI 10 c_t_now_from), (A_t_now 1, eI cI 10 c_t_now_to), (A_t 2, oG A_t_groups), (A_t_groups 0, eI cI 6 c_t_groups_least)]) (ws' := [(h_t, oM A_t), (A_t 0, oW A_t_now c_t_now_knots c_t_now_flows c_t_now_readSet), (A_t_now 0, eI cI 10 c_t_now_from), (A_t_now 1, eI cI 10 c_t_now_to), (A_t 2, oG A_t_groups), (A_t_groups 0, eI cI 6 c_t_groups_least)]) Γ (fun sz => mX4_holds (l := l) (D := D) (sz := sz) (cI := cI) (cJ := cJ) (cZ := cZ) (cW := cW) (cR := cR)  (hf := e2)) eX4_holds ggX4_isSpareIn_X4_holds (by decide +kernel) (by decide +kernel) (by decide +kernel) rfl rfl (Nat.le_of_ble_eq_true rfl) ⟨Nat.le_of_ble_eq_true rfl, Nat.le_of_ble_eq_true rfl⟩ dX4_isSpareIn_8 [] [0, 1, 2, 3, 4, 5] rfl rfl rfl rfl (by decide) rfl ?_
  refine g_if_eq Γ 33 dX4_isSpareIn_11 (by decide) (fun c3 => ?_) (fun c3 => ?_)
  · have hf := ya_if1 c3 hf
    refine g_iconst (v := 0) Γ dX4_isSpareIn_33 (by decide) ?_
    cases hf
    exact g_zret Γ hr (show ya_bo 0 = some 0 from rfl) dX4_isSpareIn_34 [0, 1, 2, 3, 4, 5] rfl rfl
  · have hf := ya_if2 c3 hf
    refine g_aload_n Γ 0 dX4_isSpareIn_14 rfl ?_
    refine g_get Γ fX4_isSpareIn_26 0 rfl rfl dX4_isSpareIn_15 ?_
    refine g_aload_n Γ 0 dX4_isSpareIn_18 rfl ?_
    refine g_get Γ fX4_isSpareIn_10 0 rfl rfl dX4_isSpareIn_19 ?_
    refine g_iload_n Γ 1 dX4_isSpareIn_22 rfl ?_
    obtain ⟨v4, e5, hf⟩ := ya_ob hf
    refine g_vi (q := (RX1, TX1, 1)) (wr := [(h_t, oM A_t)]) (ws' := [(h_t, oM A_t), (A_t 2, oG A_t_groups), (A_t_groups 0, eI cI 6 c_t_groups_least), (A_t 0, oW A_t_now c_t_now_knots c_t_now_flows c_t_now_readSet), (A_t_now 0, eI cI 10 c_t_now_from), (A_t_now 1, eI cI 10 c_t_now_to)]) Γ (fun sz => mX1_parts (l := l) (D := D) (sz := sz) (cI := cI) (cJ := cJ) (cZ := cZ) (cW := cW) (cR := cR) (h_t := A_t 2) (h_w := A_t 0) (A_t := A_t_groups) (A_w := A_t_now) (hf := e5)) eX1_parts gX4_isSpareIn_X1_parts rfl rfl 0 rfl rfl rfl (Nat.le_of_ble_eq_true rfl) ⟨Nat.le_of_ble_eq_true rfl, Nat.le_of_ble_eq_true rfl⟩ dX4_isSpareIn_23 [4, 5, 1, 2, 3] [0] rfl rfl rfl rfl (by decide) rfl ?_
    refine g_if_eq Γ 33 dX4_isSpareIn_26 (by decide) (fun c6 => ?_) (fun c6 => ?_)
    · have hf := ya_if1 c6 hf
      refine g_iconst (v := 0) Γ dX4_isSpareIn_33 (by decide) ?_
      cases hf
      exact g_zret Γ hr (show ya_bo 0 = some 0 from rfl) dX4_isSpareIn_34 [0, 3, 4, 5, 1, 2] rfl rfl
    · have hf := ya_if2 c6 hf
      refine g_iconst (v := 1) Γ dX4_isSpareIn_29 (by decide) ?_
      refine g_goto Γ 34 dX4_isSpareIn_30 (by decide) ?_
      cases hf
      exact g_zret Γ hr (show ya_bo 1 = some 1 from rfl) dX4_isSpareIn_34 [0, 3, 4, 5, 1, 2] rfl rfl

set_option maxRecDepth 20000 in
theorem ggX4_spareSet_X3_unreadSet : GoodIn wsX4_spareSet wsX3_unreadSet := goodIn_r _ [8, 9, 10, 11, 12, 7, 13, 14, 15, 16, 17, 59, 60, 61, 62, 63, 64, 65, 66, 67, 68, 69] rfl (by decide +kernel)
set_option maxRecDepth 20000 in
theorem gX4_spareSet_X3_unreadSet : GoodIn wsX4_spareSet (wsV RX4 120 RX3 yX3_unreadSet wsX3_unreadSet) := goodIn_app (goodIn_of _ (by decide +kernel)) ggX4_spareSet_X3_unreadSet
set_option maxRecDepth 20000 in
theorem ggX4_spareSet_X1_gather : GoodIn wsX4_spareSet wsX1_gather := goodIn_r _ [22, 23, 24, 25, 26, 27, 16, 28, 29, 30, 31, 21, 32, 33, 34, 35, 36, 37, 38, 39, 40, 41, 42, 43, 70, 59, 60, 61, 62, 63, 64, 65, 66, 67, 68, 69] rfl (by decide +kernel)
set_option maxRecDepth 20000 in
theorem gX4_spareSet_X1_gather : GoodIn wsX4_spareSet (wsV RX4 124 RX1 yX1_gather wsX1_gather) := goodIn_app (goodIn_of _ (by decide +kernel)) ggX4_spareSet_X1_gather
set_option maxRecDepth 20000 in
theorem ggX4_spareSet_X4_isSpareIn : GoodIn wsX4_spareSet wsX4_isSpareIn := goodIn_r _ [47, 2, 48, 1, 49, 27, 16, 28, 50, 30, 31, 21, 32, 23, 25, 26, 52, 53, 54, 55, 56, 57, 58, 59, 60, 61, 62, 63, 64, 65, 66, 67, 68, 69, 70] rfl (by decide +kernel)
set_option maxRecDepth 20000 in
theorem gX4_spareSet_X4_isSpareIn : GoodIn wsX4_spareSet (wsV RX4 203 RX4 yX4_isSpareIn wsX4_isSpareIn) := goodIn_app (goodIn_of _ (by decide +kernel)) ggX4_spareSet_X4_isSpareIn
set_option maxRecDepth 20000 in
theorem ggX4_spareSet_X4_bit : GoodIn wsX4_spareSet wsX4_bit := goodIn_r _ [17] rfl (by decide +kernel)
set_option maxRecDepth 20000 in
theorem gX4_spareSet_X4_bit : GoodIn wsX4_spareSet (va_wsS RX4 185 yX4_bit wsX4_bit) := goodIn_app (goodIn_of _ (by decide +kernel)) ggX4_spareSet_X4_bit
theorem dX4_spareSet_0 : decode cX4_spareSet 0 = .ok (.aload_n 0, 1) := by decide +kernel
theorem dX4_spareSet_1 : decode cX4_spareSet 1 = .ok (.getfield 26, 3) := by decide +kernel
theorem dX4_spareSet_4 : decode cX4_spareSet 4 = .ok (.aload_n 0, 1) := by decide +kernel
theorem dX4_spareSet_5 : decode cX4_spareSet 5 = .ok (.getfield 10, 3) := by decide +kernel
theorem dX4_spareSet_8 : decode cX4_spareSet 8 = .ok (.aload_n 0, 1) := by decide +kernel
theorem dX4_spareSet_9 : decode cX4_spareSet 9 = .ok (.getfield 10, 3) := by decide +kernel
theorem dX4_spareSet_12 : decode cX4_spareSet 12 = .ok (.invokevirtual 120, 3) := by decide +kernel
theorem dX4_spareSet_15 : decode cX4_spareSet 15 = .ok (.invokevirtual 124, 3) := by decide +kernel
theorem dX4_spareSet_18 : decode cX4_spareSet 18 = .ok (.pop, 1) := by decide +kernel
theorem dX4_spareSet_19 : decode cX4_spareSet 19 = .ok (.iconst 0, 1) := by decide +kernel
theorem dX4_spareSet_20 : decode cX4_spareSet 20 = .ok (.istore_n 1, 1) := by decide +kernel
theorem dX4_spareSet_21 : decode cX4_spareSet 21 = .ok (.iconst 0, 1) := by decide +kernel
theorem dX4_spareSet_22 : decode cX4_spareSet 22 = .ok (.istore_n 2, 1) := by decide +kernel
theorem dX4_spareSet_23 : decode cX4_spareSet 23 = .ok (.iload_n 2, 1) := by decide +kernel
theorem dX4_spareSet_24 : decode cX4_spareSet 24 = .ok (.aload_n 0, 1) := by decide +kernel
theorem dX4_spareSet_25 : decode cX4_spareSet 25 = .ok (.getfield 10, 3) := by decide +kernel
theorem dX4_spareSet_28 : decode cX4_spareSet 28 = .ok (.getfield 60, 3) := by decide +kernel
theorem dX4_spareSet_31 : decode cX4_spareSet 31 = .ok (.if_icmp .ge 24, 3) := by decide +kernel
theorem dX4_spareSet_34 : decode cX4_spareSet 34 = .ok (.aload_n 0, 1) := by decide +kernel
theorem dX4_spareSet_35 : decode cX4_spareSet 35 = .ok (.iload_n 2, 1) := by decide +kernel
theorem dX4_spareSet_36 : decode cX4_spareSet 36 = .ok (.invokevirtual 203, 3) := by decide +kernel
theorem dX4_spareSet_39 : decode cX4_spareSet 39 = .ok (.ifCond .eq 10, 3) := by decide +kernel
theorem dX4_spareSet_42 : decode cX4_spareSet 42 = .ok (.iload_n 1, 1) := by decide +kernel
theorem dX4_spareSet_43 : decode cX4_spareSet 43 = .ok (.iload_n 2, 1) := by decide +kernel
theorem dX4_spareSet_44 : decode cX4_spareSet 44 = .ok (.invokestatic 185, 3) := by decide +kernel
theorem dX4_spareSet_47 : decode cX4_spareSet 47 = .ok (.ior, 1) := by decide +kernel
theorem dX4_spareSet_48 : decode cX4_spareSet 48 = .ok (.istore_n 1, 1) := by decide +kernel
theorem dX4_spareSet_49 : decode cX4_spareSet 49 = .ok (.iinc 2 1, 3) := by decide +kernel
theorem dX4_spareSet_52 : decode cX4_spareSet 52 = .ok (.goto (-29), 3) := by decide +kernel
theorem dX4_spareSet_55 : decode cX4_spareSet 55 = .ok (.iload_n 1, 1) := by decide +kernel
theorem dX4_spareSet_56 : decode cX4_spareSet 56 = .ok (.ireturn, 1) := by decide +kernel
/-! ===== FlowMeters.spareSet()I ===== -/
def fX4_spareSet_L23 (N : Nat) (n : Nat) (y1 : Int32) (y2 : Int32) (d_t_now_flows : Int32) (d_t_now_readSet : Int32) (d_t_now_from : Nat → Int32) (d_t_now_to : Nat → Int32) (d_t_groups_least : Nat → Int32) : Option (Int32) := match n with
  | 0 => none
  | n + 1 =>
    (if d_t_now_flows ≤ y2 then
        some y1
      else
        (fX4_isSpareIn d_t_now_readSet d_t_now_from d_t_now_to d_t_groups_least y2).bind fun v7 =>
        (if v7 = 0 then
          ya_lt (y2 + 1) fun v10 =>
          fX4_spareSet_L23 N n y1 v10 d_t_now_flows d_t_now_readSet d_t_now_from d_t_now_to d_t_groups_least
        else
          (fX4_bit y2).bind fun v12 =>
          ya_lt (y1 ||| v12) fun v14 =>
          ya_lt (y2 + 1) fun v16 =>
          fX4_spareSet_L23 N n v14 v16 d_t_now_flows d_t_now_readSet d_t_now_from d_t_now_to d_t_groups_least))
def fX4_spareSet (N : Nat) (c_t_now_flows : Int32) (c_t_now_readSet : Int32) (c_t_now_from : Nat → Int32) (c_t_now_to : Nat → Int32) (c_t_groups_least : Nat → Int32)  : Option (Int32 × (Nat → Int32)) :=
  (fX3_unreadSet c_t_now_flows c_t_now_readSet).bind fun v1 =>
  (fX1_gather N c_t_groups_least c_t_now_flows c_t_now_from c_t_now_to v1).bind fun (v3, v4) =>
  (fX4_spareSet_L23 N N 0 0 c_t_now_flows c_t_now_readSet c_t_now_from c_t_now_to v4).bind fun v18 =>
  some (v18, v4)
theorem fX4_spareSet_26 : yF wsX4_spareSet RX4 26 4 2 RX4 TX4 7 := ⟨rfl, by decide, by decide +kernel, by decide +kernel⟩
theorem fX4_spareSet_10 : yF wsX4_spareSet RX4 10 4 0 RX4 TX4 7 := ⟨rfl, by decide, by decide +kernel, by decide +kernel⟩
theorem fX4_spareSet_60 : yF wsX4_spareSet RX4 60 3 1 RX3 TX3 11 := ⟨rfl, by decide, by decide +kernel, by decide +kernel⟩
abbrev rmX4_spareSet : Room := { frames := 3, cells := 0, slots := 0, locals := 97 }
theorem eX4_spareSet : yY yX4_spareSet wsX4_spareSet cX4_spareSet 3 (some .int) rmX4_spareSet 0 := ⟨⟨_, rfl⟩, rfl, rfl, by decide, by decide, by decide +kernel⟩
set_option maxHeartbeats 4000000 in
set_option maxRecDepth 100000 in
theorem mX4_spareSet {l : Launch} {D : va_G} {sz : Nat} {cI cJ cZ cW cR : ClassId} {N : Nat} {h_t : Nat} {A_t : Nat → Nat} {A_t_now : Nat → Nat} {A_t_groups : Nat → Nat} {c_t_now_knots : Int32} {c_t_now_flows : Int32} {c_t_now_readSet : Int32} {c_t_now_from : Nat → Int32} {c_t_now_to : Nat → Int32} {c_t_groups_least : Nat → Int32} {r : Int32} {zc_t_groups_least : Nat → Int32} (hf : fX4_spareSet N c_t_now_flows c_t_now_readSet c_t_now_from c_t_now_to c_t_groups_least = some (r, zc_t_groups_least)) : Met l yX4_spareSet wsX4_spareSet rmX4_spareSet (yP D (yT cI cJ cZ cW cR) [(h_t, oM A_t), (A_t 0, oW A_t_now c_t_now_knots c_t_now_flows c_t_now_readSet), (A_t_now 0, eI cI 10 c_t_now_from), (A_t_now 1, eI cI 10 c_t_now_to), (A_t 2, oG A_t_groups), (A_t_groups 0, eI cI 6 c_t_groups_least)] sz [.ref h_t]) (yQi D (yT cI cJ cZ cW cR) r [(h_t, oM A_t), (A_t 0, oW A_t_now c_t_now_knots c_t_now_flows c_t_now_readSet), (A_t_now 0, eI cI 10 c_t_now_from), (A_t_now 1, eI cI 10 c_t_now_to), (A_t 2, oG A_t_groups), (A_t_groups 0, eI cI 6 zc_t_groups_least)] (va_A [(h_t, oM A_t), (A_t 0, oW A_t_now c_t_now_knots c_t_now_flows c_t_now_readSet), (A_t_now 0, eI cI 10 c_t_now_from), (A_t_now 1, eI cI 10 c_t_now_to), (A_t 2, oG A_t_groups), (A_t_groups 0, eI cI 6 c_t_groups_least)] sz)) 0 0 (va_A [(h_t, oM A_t), (A_t 0, oW A_t_now c_t_now_knots c_t_now_flows c_t_now_readSet), (A_t_now 0, eI cI 10 c_t_now_from), (A_t_now 1, eI cI 10 c_t_now_to), (A_t 2, oG A_t_groups), (A_t_groups 0, eI cI 6 c_t_groups_least)] sz) := by
  refine yM (cc := cX4_spareSet) (maxL := 3) (ret := (some .int)) RX4 (by decide) rfl rfl (Nat.le_of_ble_eq_true rfl) ?_
  intro p e s m below meth c Γ hr
  have loop23 : ∀ (n : Nat) (y1 : Int32) (y2 : Int32) (d_t_now_knots : Int32) (d_t_now_flows : Int32) (d_t_now_readSet : Int32) (d_t_now_from : Nat → Int32) (d_t_now_to : Nat → Int32) (d_t_groups_least : Nat → Int32) (w0 : Int32), fX4_spareSet_L23 N n y1 y2 d_t_now_flows d_t_now_readSet d_t_now_from d_t_now_to d_t_groups_least = some w0 → yG p l e (headSpec wsX4_spareSet rmX4_spareSet).room s m (List.toArray [.ref h_t]) below meth c D (va_A [(h_t, oM A_t), (A_t 0, oW A_t_now c_t_now_knots c_t_now_flows c_t_now_readSet), (A_t_now 0, eI cI 10 c_t_now_from), (A_t_now 1, eI cI 10 c_t_now_to), (A_t 2, oG A_t_groups), (A_t_groups 0, eI cI 6 c_t_groups_least)] sz) 3 0 0 (MQ below (yQi D (yT cI cJ cZ cW cR) r [(h_t, oM A_t), (A_t 0, oW A_t_now c_t_now_knots c_t_now_flows c_t_now_readSet), (A_t_now 0, eI cI 10 c_t_now_from), (A_t_now 1, eI cI 10 c_t_now_to), (A_t 2, oG A_t_groups), (A_t_groups 0, eI cI 6 zc_t_groups_least)] (va_A [(h_t, oM A_t), (A_t 0, oW A_t_now c_t_now_knots c_t_now_flows c_t_now_readSet), (A_t_now 0, eI cI 10 c_t_now_from), (A_t_now 1, eI cI 10 c_t_now_to), (A_t 2, oG A_t_groups), (A_t_groups 0, eI cI 6 c_t_groups_least)] sz)) (List.toArray [.ref h_t]) s 0 0 (va_A [(h_t, oM A_t), (A_t 0, oW A_t_now c_t_now_knots c_t_now_flows c_t_now_readSet), (A_t_now 0, eI cI 10 c_t_now_from), (A_t_now 1, eI cI 10 c_t_now_to), (A_t 2, oG A_t_groups), (A_t_groups 0, eI cI 6 c_t_groups_least)] sz)) 55 [(1, .int w0)] [] [(h_t, oM A_t), (A_t 0, oW A_t_now d_t_now_knots d_t_now_flows d_t_now_readSet), (A_t_now 0, eI cI 10 d_t_now_from), (A_t_now 1, eI cI 10 d_t_now_to), (A_t 2, oG A_t_groups), (A_t_groups 0, eI cI 6 d_t_groups_least)] → yG p l e (headSpec wsX4_spareSet rmX4_spareSet).room s m (List.toArray [.ref h_t]) below meth c D (va_A [(h_t, oM A_t), (A_t 0, oW A_t_now c_t_now_knots c_t_now_flows c_t_now_readSet), (A_t_now 0, eI cI 10 c_t_now_from), (A_t_now 1, eI cI 10 c_t_now_to), (A_t 2, oG A_t_groups), (A_t_groups 0, eI cI 6 c_t_groups_least)] sz) 3 0 0 (MQ below (yQi D (yT cI cJ cZ cW cR) r [(h_t, oM A_t), (A_t 0, oW A_t_now c_t_now_knots c_t_now_flows c_t_now_readSet), (A_t_now 0, eI cI 10 c_t_now_from), (A_t_now 1, eI cI 10 c_t_now_to), (A_t 2, oG A_t_groups), (A_t_groups 0, eI cI 6 zc_t_groups_least)] (va_A [(h_t, oM A_t), (A_t 0, oW A_t_now c_t_now_knots c_t_now_flows c_t_now_readSet), (A_t_now 0, eI cI 10 c_t_now_from), (A_t_now 1, eI cI 10 c_t_now_to), (A_t 2, oG A_t_groups), (A_t_groups 0, eI cI 6 c_t_groups_least)] sz)) (List.toArray [.ref h_t]) s 0 0 (va_A [(h_t, oM A_t), (A_t 0, oW A_t_now c_t_now_knots c_t_now_flows c_t_now_readSet), (A_t_now 0, eI cI 10 c_t_now_from), (A_t_now 1, eI cI 10 c_t_now_to), (A_t 2, oG A_t_groups), (A_t_groups 0, eI cI 6 c_t_groups_least)] sz)) 23 [(0, .ref h_t), (1, .int y1), (2, .int y2)] [] [(h_t, oM A_t), (A_t 0, oW A_t_now d_t_now_knots d_t_now_flows d_t_now_readSet), (A_t_now 0, eI cI 10 d_t_now_from), (A_t_now 1, eI cI 10 d_t_now_to), (A_t 2, oG A_t_groups), (A_t_groups 0, eI cI 6 d_t_groups_least)] := by
    intro n
    induction n with
    | zero =>
      intro y1 y2 d_t_now_knots d_t_now_flows d_t_now_readSet d_t_now_from d_t_now_to d_t_groups_least w0 hf
      cases hf
    | succ n ih =>
      intro y1 y2 d_t_now_knots d_t_now_flows d_t_now_readSet d_t_now_from d_t_now_to d_t_groups_least w0 hf hk
      unfold fX4_spareSet_L23 at hf
      refine g_iload_n Γ 2 dX4_spareSet_23 rfl ?_
      refine g_aload_n Γ 0 dX4_spareSet_24 rfl ?_
      refine g_get Γ fX4_spareSet_10 0 rfl rfl dX4_spareSet_25 ?_
      refine g_get Γ fX4_spareSet_60 1 rfl rfl dX4_spareSet_28 ?_
      refine g_icmp_ge Γ 55 dX4_spareSet_31 (by decide) (fun c6 => ?_) (fun c6 => ?_)
      · have hf := ya_if1 c6 hf
        cases hf
        refine g_lv [1] rfl ?_
        exact hk
      · have hf := ya_if2 c6 hf
        refine g_aload_n Γ 0 dX4_spareSet_34 rfl ?_
        refine g_iload_n Γ 2 dX4_spareSet_35 rfl ?_
        obtain ⟨v7, e8, hf⟩ := ya_ob hf
        refine g_vi (q := (RX4, TX4, 7)) (wr := []) (ws' := [(h_t, oM A_t), (A_t 0, oW A_t_now d_t_now_knots d_t_now_flows d_t_now_readSet), (A_t_now 0, eI cI 10 d_t_now_from), (A_t_now 1, eI cI 10 d_t_now_to), (A_t 2, oG A_t_groups), (A_t_groups 0, eI cI 6 d_t_groups_least)]) Γ (fun sz => mX4_isSpareIn (l := l) (D := D) (sz := sz) (cI := cI) (cJ := cJ) (cZ := cZ) (cW := cW) (cR := cR) (h_t := h_t) (A_t := A_t) (A_t_now := A_t_now) (A_t_groups := A_t_groups) (hf := e8)) eX4_isSpareIn gX4_spareSet_X4_isSpareIn rfl rfl 0 rfl rfl rfl (Nat.le_of_ble_eq_true rfl) ⟨Nat.le_of_ble_eq_true rfl, Nat.le_of_ble_eq_true rfl⟩ dX4_spareSet_36 [0, 1, 2, 3, 4, 5] [] rfl rfl rfl rfl (by decide) rfl ?_
        refine g_if_eq Γ 49 dX4_spareSet_39 (by decide) (fun c9 => ?_) (fun c9 => ?_)
        · have hf := ya_if1 c9 hf
          obtain ⟨v10, e11, hf⟩ := ya_lt_inv hf
          refine g_iinc (lv' := [(2, .int v10), (0, .ref h_t), (1, .int y1)]) Γ 2 dX4_spareSet_49 rfl (by rw [e11]; rfl) (by decide) rfl ?_
          refine g_goto Γ 23 dX4_spareSet_52 (by decide) ?_
          refine g_lv [1, 2, 0] rfl ?_
          exact ih _ _ _ _ _ _ _ _ _ hf hk
        · have hf := ya_if2 c9 hf
          refine g_iload_n Γ 1 dX4_spareSet_42 rfl ?_
          refine g_iload_n Γ 2 dX4_spareSet_43 rfl ?_
          obtain ⟨v12, e13, hf⟩ := ya_ob hf
          refine g_si (wr := [(h_t, oM A_t), (A_t 0, oW A_t_now d_t_now_knots d_t_now_flows d_t_now_readSet), (A_t_now 0, eI cI 10 d_t_now_from), (A_t_now 1, eI cI 10 d_t_now_to), (A_t 2, oG A_t_groups), (A_t_groups 0, eI cI 6 d_t_groups_least)]) (ws' := [(h_t, oM A_t), (A_t 0, oW A_t_now d_t_now_knots d_t_now_flows d_t_now_readSet), (A_t_now 0, eI cI 10 d_t_now_from), (A_t_now 1, eI cI 10 d_t_now_to), (A_t 2, oG A_t_groups), (A_t_groups 0, eI cI 6 d_t_groups_least)]) Γ (fun sz => mX4_bit (l := l) (D := D) (sz := sz) (cI := cI) (cJ := cJ) (cZ := cZ) (cW := cW) (cR := cR)  (hf := e13)) eX4_bit ggX4_spareSet_X4_bit (by decide +kernel) (by decide +kernel) (by decide +kernel) rfl rfl (Nat.le_of_ble_eq_true rfl) ⟨Nat.le_of_ble_eq_true rfl, Nat.le_of_ble_eq_true rfl⟩ dX4_spareSet_44 [] [0, 1, 2, 3, 4, 5] rfl rfl rfl rfl (by decide) rfl ?_
          refine g_ior Γ dX4_spareSet_47 ?_
          obtain ⟨v14, e15, hf⟩ := ya_lt_inv hf
          refine g_nmi e15 ?_
          refine g_istore_n (lv' := [(1, .int v14), (0, .ref h_t), (2, .int y2)]) Γ dX4_spareSet_48 (by decide) rfl ?_
          obtain ⟨v16, e17, hf⟩ := ya_lt_inv hf
          refine g_iinc (lv' := [(2, .int v16), (1, .int v14), (0, .ref h_t)]) Γ 2 dX4_spareSet_49 rfl (by rw [e17]; rfl) (by decide) rfl ?_
          refine g_goto Γ 23 dX4_spareSet_52 (by decide) ?_
          refine g_lv [2, 1, 0] rfl ?_
          exact ih _ _ _ _ _ _ _ _ _ hf hk
  show yG p l e (headSpec wsX4_spareSet rmX4_spareSet).room s m (List.toArray [.ref h_t]) below meth c D (va_A [(h_t, oM A_t), (A_t 0, oW A_t_now c_t_now_knots c_t_now_flows c_t_now_readSet), (A_t_now 0, eI cI 10 c_t_now_from), (A_t_now 1, eI cI 10 c_t_now_to), (A_t 2, oG A_t_groups), (A_t_groups 0, eI cI 6 c_t_groups_least)] sz) 3 0 0 (MQ below (yQi D (yT cI cJ cZ cW cR) r [(h_t, oM A_t), (A_t 0, oW A_t_now c_t_now_knots c_t_now_flows c_t_now_readSet), (A_t_now 0, eI cI 10 c_t_now_from), (A_t_now 1, eI cI 10 c_t_now_to), (A_t 2, oG A_t_groups), (A_t_groups 0, eI cI 6 zc_t_groups_least)] (va_A [(h_t, oM A_t), (A_t 0, oW A_t_now c_t_now_knots c_t_now_flows c_t_now_readSet), (A_t_now 0, eI cI 10 c_t_now_from), (A_t_now 1, eI cI 10 c_t_now_to), (A_t 2, oG A_t_groups), (A_t_groups 0, eI cI 6 c_t_groups_least)] sz)) (List.toArray [.ref h_t]) s 0 0 (va_A [(h_t, oM A_t), (A_t 0, oW A_t_now c_t_now_knots c_t_now_flows c_t_now_readSet), (A_t_now 0, eI cI 10 c_t_now_from), (A_t_now 1, eI cI 10 c_t_now_to), (A_t 2, oG A_t_groups), (A_t_groups 0, eI cI 6 c_t_groups_least)] sz)) 0 [(0, .ref h_t)] [] [(h_t, oM A_t), (A_t 0, oW A_t_now c_t_now_knots c_t_now_flows c_t_now_readSet), (A_t_now 0, eI cI 10 c_t_now_from), (A_t_now 1, eI cI 10 c_t_now_to), (A_t 2, oG A_t_groups), (A_t_groups 0, eI cI 6 c_t_groups_least)]
  unfold fX4_spareSet at hf
  refine g_aload_n Γ 0 dX4_spareSet_0 rfl ?_
  refine g_get Γ fX4_spareSet_26 0 rfl rfl dX4_spareSet_1 ?_
  refine g_aload_n Γ 0 dX4_spareSet_4 rfl ?_
  refine g_get Γ fX4_spareSet_10 0 rfl rfl dX4_spareSet_5 ?_
  refine g_aload_n Γ 0 dX4_spareSet_8 rfl ?_
  refine g_get Γ fX4_spareSet_10 0 rfl rfl dX4_spareSet_9 ?_
  obtain ⟨v1, e2, hf⟩ := ya_ob hf
  refine g_vi (q := (RX3, TX3, 11)) (wr := [(h_t, oM A_t), (A_t_now 0, eI cI 10 c_t_now_from), (A_t_now 1, eI cI 10 c_t_now_to), (A_t 2, oG A_t_groups), (A_t_groups 0, eI cI 6 c_t_groups_least)]) (ws' := [(h_t, oM A_t), (A_t_now 0, eI cI 10 c_t_now_from), (A_t_now 1, eI cI 10 c_t_now_to), (A_t 2, oG A_t_groups), (A_t_groups 0, eI cI 6 c_t_groups_least), (A_t 0, oW A_t_now c_t_now_knots c_t_now_flows c_t_now_readSet)]) Γ (fun sz => mX3_unreadSet (l := l) (D := D) (sz := sz) (cI := cI) (cJ := cJ) (cZ := cZ) (cW := cW) (cR := cR) (h_t := A_t 0) (A_t := A_t_now) (hf := e2)) eX3_unreadSet gX4_spareSet_X3_unreadSet rfl rfl 0 rfl rfl rfl (Nat.le_of_ble_eq_true rfl) ⟨Nat.le_of_ble_eq_true rfl, Nat.le_of_ble_eq_true rfl⟩ dX4_spareSet_12 [1] [0, 2, 3, 4, 5] rfl rfl rfl rfl (by decide) rfl ?_
  obtain ⟨⟨v3, v4⟩, e5, hf⟩ := ya_ob hf
  refine g_vi (q := (RX1, TX1, 1)) (wr := [(h_t, oM A_t)]) (ws' := [(h_t, oM A_t), (A_t 2, oG A_t_groups), (A_t_groups 0, eI cI 6 v4), (A_t 0, oW A_t_now c_t_now_knots c_t_now_flows c_t_now_readSet), (A_t_now 0, eI cI 10 c_t_now_from), (A_t_now 1, eI cI 10 c_t_now_to)]) Γ (fun sz => mX1_gather (l := l) (D := D) (sz := sz) (cI := cI) (cJ := cJ) (cZ := cZ) (cW := cW) (cR := cR) (h_t := A_t 2) (h_w := A_t 0) (A_t := A_t_groups) (A_w := A_t_now) (hf := e5)) eX1_gather gX4_spareSet_X1_gather rfl rfl 0 rfl rfl rfl (Nat.le_of_ble_eq_true rfl) ⟨Nat.le_of_ble_eq_true rfl, Nat.le_of_ble_eq_true rfl⟩ dX4_spareSet_15 [3, 4, 5, 1, 2] [0] rfl rfl rfl rfl (by decide) rfl ?_
  refine g_pop Γ dX4_spareSet_18 rfl ?_
  refine g_iconst (v := 0) Γ dX4_spareSet_19 (by decide) ?_
  refine g_istore_n (lv' := [(1, .int 0), (0, .ref h_t)]) Γ dX4_spareSet_20 (by decide) rfl ?_
  refine g_iconst (v := 0) Γ dX4_spareSet_21 (by decide) ?_
  refine g_istore_n (lv' := [(2, .int 0), (1, .int 0), (0, .ref h_t)]) Γ dX4_spareSet_22 (by decide) rfl ?_
  obtain ⟨v18, e19, hf⟩ := ya_ob hf
  refine g_lv [2, 1, 0] rfl ?_
  refine g_ws (ws' := [(h_t, oM A_t), (A_t 0, oW A_t_now c_t_now_knots c_t_now_flows c_t_now_readSet), (A_t_now 0, eI cI 10 c_t_now_from), (A_t_now 1, eI cI 10 c_t_now_to), (A_t 2, oG A_t_groups), (A_t_groups 0, eI cI 6 v4)]) [0, 3, 4, 5, 1, 2] rfl rfl ?_
  refine loop23 N _ _ _ _ _ _ _ _ _ e19  ?_
  refine g_iload_n Γ 0 dX4_spareSet_55 rfl ?_
  cases hf
  exact g_iret Γ hr dX4_spareSet_56 [0, 1, 2, 3, 4, 5] rfl rfl

set_option maxRecDepth 20000 in
theorem ggX4_countUnbalanced_X3_isAllReadAt : GoodIn wsX4_countUnbalanced wsX3_isAllReadAt := goodIn_r _ [7, 8, 9, 10, 11, 12, 6, 13, 14, 15, 16, 17, 18, 31, 32, 33, 34, 35, 36, 37, 38, 39, 40, 41] rfl (by decide +kernel)
set_option maxRecDepth 20000 in
theorem gX4_countUnbalanced_X3_isAllReadAt : GoodIn wsX4_countUnbalanced (wsV RX4 226 RX3 yX3_isAllReadAt wsX3_isAllReadAt) := goodIn_app (goodIn_of _ (by decide +kernel)) ggX4_countUnbalanced_X3_isAllReadAt
set_option maxRecDepth 20000 in
theorem ggX4_countUnbalanced_X3_surplusAt : GoodIn wsX4_countUnbalanced wsX3_surplusAt := goodIn_r _ [22, 8, 15, 23, 14, 31, 32, 33, 34, 35, 36, 37, 38, 39, 40, 41] rfl (by decide +kernel)
set_option maxRecDepth 20000 in
theorem gX4_countUnbalanced_X3_surplusAt : GoodIn wsX4_countUnbalanced (wsV RX4 229 RX3 yX3_surplusAt wsX3_surplusAt) := goodIn_app (goodIn_of _ (by decide +kernel)) ggX4_countUnbalanced_X3_surplusAt
theorem dX4_countUnbalanced_0 : decode cX4_countUnbalanced 0 = .ok (.iconst 0, 1) := by decide +kernel
theorem dX4_countUnbalanced_1 : decode cX4_countUnbalanced 1 = .ok (.istore_n 1, 1) := by decide +kernel
theorem dX4_countUnbalanced_2 : decode cX4_countUnbalanced 2 = .ok (.iconst 0, 1) := by decide +kernel
theorem dX4_countUnbalanced_3 : decode cX4_countUnbalanced 3 = .ok (.istore_n 2, 1) := by decide +kernel
theorem dX4_countUnbalanced_4 : decode cX4_countUnbalanced 4 = .ok (.iload_n 2, 1) := by decide +kernel
theorem dX4_countUnbalanced_5 : decode cX4_countUnbalanced 5 = .ok (.aload_n 0, 1) := by decide +kernel
theorem dX4_countUnbalanced_6 : decode cX4_countUnbalanced 6 = .ok (.getfield 10, 3) := by decide +kernel
theorem dX4_countUnbalanced_9 : decode cX4_countUnbalanced 9 = .ok (.getfield 117, 3) := by decide +kernel
theorem dX4_countUnbalanced_12 : decode cX4_countUnbalanced 12 = .ok (.if_icmp .ge 34, 3) := by decide +kernel
theorem dX4_countUnbalanced_15 : decode cX4_countUnbalanced 15 = .ok (.aload_n 0, 1) := by decide +kernel
theorem dX4_countUnbalanced_16 : decode cX4_countUnbalanced 16 = .ok (.getfield 10, 3) := by decide +kernel
theorem dX4_countUnbalanced_19 : decode cX4_countUnbalanced 19 = .ok (.iload_n 2, 1) := by decide +kernel
theorem dX4_countUnbalanced_20 : decode cX4_countUnbalanced 20 = .ok (.invokevirtual 226, 3) := by decide +kernel
theorem dX4_countUnbalanced_23 : decode cX4_countUnbalanced 23 = .ok (.ifCond .eq 17, 3) := by decide +kernel
theorem dX4_countUnbalanced_26 : decode cX4_countUnbalanced 26 = .ok (.aload_n 0, 1) := by decide +kernel
theorem dX4_countUnbalanced_27 : decode cX4_countUnbalanced 27 = .ok (.getfield 10, 3) := by decide +kernel
theorem dX4_countUnbalanced_30 : decode cX4_countUnbalanced 30 = .ok (.iload_n 2, 1) := by decide +kernel
theorem dX4_countUnbalanced_31 : decode cX4_countUnbalanced 31 = .ok (.invokevirtual 229, 3) := by decide +kernel
theorem dX4_countUnbalanced_34 : decode cX4_countUnbalanced 34 = .ok (.ifCond .eq 6, 3) := by decide +kernel
theorem dX4_countUnbalanced_37 : decode cX4_countUnbalanced 37 = .ok (.iinc 1 1, 3) := by decide +kernel
theorem dX4_countUnbalanced_40 : decode cX4_countUnbalanced 40 = .ok (.iinc 2 1, 3) := by decide +kernel
theorem dX4_countUnbalanced_43 : decode cX4_countUnbalanced 43 = .ok (.goto (-39), 3) := by decide +kernel
theorem dX4_countUnbalanced_46 : decode cX4_countUnbalanced 46 = .ok (.iload_n 1, 1) := by decide +kernel
theorem dX4_countUnbalanced_47 : decode cX4_countUnbalanced 47 = .ok (.ireturn, 1) := by decide +kernel
/-! ===== FlowMeters.countUnbalanced()I ===== -/
def fX4_countUnbalanced_L4 (N : Nat) (n : Nat) (y1 : Int32) (y2 : Int32) (d_t_now_knots : Int32) (d_t_now_flows : Int32) (d_t_now_readSet : Int32) (d_t_now_from : Nat → Int32) (d_t_now_to : Nat → Int32) (d_t_now_reading : Nat → Int32) : Option (Int32) := match n with
  | 0 => none
  | n + 1 =>
    (if d_t_now_knots ≤ y2 then
        some y1
      else
        (fX3_isAllReadAt N d_t_now_flows d_t_now_readSet d_t_now_from d_t_now_to y2).bind fun v2 =>
        (if v2 = 0 then
          ya_lt (y2 + 1) fun v5 =>
          fX4_countUnbalanced_L4 N n y1 v5 d_t_now_knots d_t_now_flows d_t_now_readSet d_t_now_from d_t_now_to d_t_now_reading
        else
          (fX3_surplusAt N d_t_now_flows d_t_now_from d_t_now_to d_t_now_reading y2).bind fun v7 =>
          (if v7 = 0 then
            ya_lt (y2 + 1) fun v10 =>
            fX4_countUnbalanced_L4 N n y1 v10 d_t_now_knots d_t_now_flows d_t_now_readSet d_t_now_from d_t_now_to d_t_now_reading
          else
            ya_lt (y1 + 1) fun v12 =>
            ya_lt (y2 + 1) fun v14 =>
            fX4_countUnbalanced_L4 N n v12 v14 d_t_now_knots d_t_now_flows d_t_now_readSet d_t_now_from d_t_now_to d_t_now_reading)))
def fX4_countUnbalanced (N : Nat) (c_t_now_knots : Int32) (c_t_now_flows : Int32) (c_t_now_readSet : Int32) (c_t_now_from : Nat → Int32) (c_t_now_to : Nat → Int32) (c_t_now_reading : Nat → Int32)  : Option (Int32) :=
  (fX4_countUnbalanced_L4 N N 0 0 c_t_now_knots c_t_now_flows c_t_now_readSet c_t_now_from c_t_now_to c_t_now_reading).bind fun v16 =>
  some v16
theorem fX4_countUnbalanced_10 : yF wsX4_countUnbalanced RX4 10 4 0 RX4 TX4 7 := ⟨rfl, by decide, by decide +kernel, by decide +kernel⟩
theorem fX4_countUnbalanced_117 : yF wsX4_countUnbalanced RX4 117 3 0 RX3 TX3 11 := ⟨rfl, by decide, by decide +kernel, by decide +kernel⟩
abbrev rmX4_countUnbalanced : Room := { frames := 2, cells := 0, slots := 0, locals := 44 }
theorem eX4_countUnbalanced : yY yX4_countUnbalanced wsX4_countUnbalanced cX4_countUnbalanced 3 (some .int) rmX4_countUnbalanced 0 := ⟨⟨_, rfl⟩, rfl, rfl, by decide, by decide, by decide +kernel⟩
set_option maxHeartbeats 4000000 in
set_option maxRecDepth 100000 in
theorem mX4_countUnbalanced {l : Launch} {D : va_G} {sz : Nat} {cI cJ cZ cW cR : ClassId} {N : Nat} {h_t : Nat} {A_t : Nat → Nat} {A_t_now : Nat → Nat} {c_t_now_knots : Int32} {c_t_now_flows : Int32} {c_t_now_readSet : Int32} {c_t_now_from : Nat → Int32} {c_t_now_to : Nat → Int32} {c_t_now_reading : Nat → Int32} {r : Int32} (hf : fX4_countUnbalanced N c_t_now_knots c_t_now_flows c_t_now_readSet c_t_now_from c_t_now_to c_t_now_reading = some r) : Met l yX4_countUnbalanced wsX4_countUnbalanced rmX4_countUnbalanced (yP D (yT cI cJ cZ cW cR) [(h_t, oM A_t), (A_t 0, oW A_t_now c_t_now_knots c_t_now_flows c_t_now_readSet), (A_t_now 0, eI cI 10 c_t_now_from), (A_t_now 1, eI cI 10 c_t_now_to), (A_t_now 2, eI cI 10 c_t_now_reading)] sz [.ref h_t]) (yQi D (yT cI cJ cZ cW cR) r [(h_t, oM A_t), (A_t 0, oW A_t_now c_t_now_knots c_t_now_flows c_t_now_readSet), (A_t_now 0, eI cI 10 c_t_now_from), (A_t_now 1, eI cI 10 c_t_now_to), (A_t_now 2, eI cI 10 c_t_now_reading)] (va_A [(h_t, oM A_t), (A_t 0, oW A_t_now c_t_now_knots c_t_now_flows c_t_now_readSet), (A_t_now 0, eI cI 10 c_t_now_from), (A_t_now 1, eI cI 10 c_t_now_to), (A_t_now 2, eI cI 10 c_t_now_reading)] sz)) 0 0 (va_A [(h_t, oM A_t), (A_t 0, oW A_t_now c_t_now_knots c_t_now_flows c_t_now_readSet), (A_t_now 0, eI cI 10 c_t_now_from), (A_t_now 1, eI cI 10 c_t_now_to), (A_t_now 2, eI cI 10 c_t_now_reading)] sz) := by
  refine yM (cc := cX4_countUnbalanced) (maxL := 3) (ret := (some .int)) RX4 (by decide) rfl rfl (Nat.le_of_ble_eq_true rfl) ?_
  intro p e s m below meth c Γ hr
  have loop4 : ∀ (n : Nat) (y1 : Int32) (y2 : Int32) (d_t_now_knots : Int32) (d_t_now_flows : Int32) (d_t_now_readSet : Int32) (d_t_now_from : Nat → Int32) (d_t_now_to : Nat → Int32) (d_t_now_reading : Nat → Int32) (w0 : Int32), fX4_countUnbalanced_L4 N n y1 y2 d_t_now_knots d_t_now_flows d_t_now_readSet d_t_now_from d_t_now_to d_t_now_reading = some w0 → yG p l e (headSpec wsX4_countUnbalanced rmX4_countUnbalanced).room s m (List.toArray [.ref h_t]) below meth c D (va_A [(h_t, oM A_t), (A_t 0, oW A_t_now c_t_now_knots c_t_now_flows c_t_now_readSet), (A_t_now 0, eI cI 10 c_t_now_from), (A_t_now 1, eI cI 10 c_t_now_to), (A_t_now 2, eI cI 10 c_t_now_reading)] sz) 3 0 0 (MQ below (yQi D (yT cI cJ cZ cW cR) r [(h_t, oM A_t), (A_t 0, oW A_t_now c_t_now_knots c_t_now_flows c_t_now_readSet), (A_t_now 0, eI cI 10 c_t_now_from), (A_t_now 1, eI cI 10 c_t_now_to), (A_t_now 2, eI cI 10 c_t_now_reading)] (va_A [(h_t, oM A_t), (A_t 0, oW A_t_now c_t_now_knots c_t_now_flows c_t_now_readSet), (A_t_now 0, eI cI 10 c_t_now_from), (A_t_now 1, eI cI 10 c_t_now_to), (A_t_now 2, eI cI 10 c_t_now_reading)] sz)) (List.toArray [.ref h_t]) s 0 0 (va_A [(h_t, oM A_t), (A_t 0, oW A_t_now c_t_now_knots c_t_now_flows c_t_now_readSet), (A_t_now 0, eI cI 10 c_t_now_from), (A_t_now 1, eI cI 10 c_t_now_to), (A_t_now 2, eI cI 10 c_t_now_reading)] sz)) 46 [(1, .int w0)] [] [(h_t, oM A_t), (A_t 0, oW A_t_now d_t_now_knots d_t_now_flows d_t_now_readSet), (A_t_now 0, eI cI 10 d_t_now_from), (A_t_now 1, eI cI 10 d_t_now_to), (A_t_now 2, eI cI 10 d_t_now_reading)] → yG p l e (headSpec wsX4_countUnbalanced rmX4_countUnbalanced).room s m (List.toArray [.ref h_t]) below meth c D (va_A [(h_t, oM A_t), (A_t 0, oW A_t_now c_t_now_knots c_t_now_flows c_t_now_readSet), (A_t_now 0, eI cI 10 c_t_now_from), (A_t_now 1, eI cI 10 c_t_now_to), (A_t_now 2, eI cI 10 c_t_now_reading)] sz) 3 0 0 (MQ below (yQi D (yT cI cJ cZ cW cR) r [(h_t, oM A_t), (A_t 0, oW A_t_now c_t_now_knots c_t_now_flows c_t_now_readSet), (A_t_now 0, eI cI 10 c_t_now_from), (A_t_now 1, eI cI 10 c_t_now_to), (A_t_now 2, eI cI 10 c_t_now_reading)] (va_A [(h_t, oM A_t), (A_t 0, oW A_t_now c_t_now_knots c_t_now_flows c_t_now_readSet), (A_t_now 0, eI cI 10 c_t_now_from), (A_t_now 1, eI cI 10 c_t_now_to), (A_t_now 2, eI cI 10 c_t_now_reading)] sz)) (List.toArray [.ref h_t]) s 0 0 (va_A [(h_t, oM A_t), (A_t 0, oW A_t_now c_t_now_knots c_t_now_flows c_t_now_readSet), (A_t_now 0, eI cI 10 c_t_now_from), (A_t_now 1, eI cI 10 c_t_now_to), (A_t_now 2, eI cI 10 c_t_now_reading)] sz)) 4 [(0, .ref h_t), (1, .int y1), (2, .int y2)] [] [(h_t, oM A_t), (A_t 0, oW A_t_now d_t_now_knots d_t_now_flows d_t_now_readSet), (A_t_now 0, eI cI 10 d_t_now_from), (A_t_now 1, eI cI 10 d_t_now_to), (A_t_now 2, eI cI 10 d_t_now_reading)] := by
    intro n
    induction n with
    | zero =>
      intro y1 y2 d_t_now_knots d_t_now_flows d_t_now_readSet d_t_now_from d_t_now_to d_t_now_reading w0 hf
      cases hf
    | succ n ih =>
      intro y1 y2 d_t_now_knots d_t_now_flows d_t_now_readSet d_t_now_from d_t_now_to d_t_now_reading w0 hf hk
      unfold fX4_countUnbalanced_L4 at hf
      refine g_iload_n Γ 2 dX4_countUnbalanced_4 rfl ?_
      refine g_aload_n Γ 0 dX4_countUnbalanced_5 rfl ?_
      refine g_get Γ fX4_countUnbalanced_10 0 rfl rfl dX4_countUnbalanced_6 ?_
      refine g_get Γ fX4_countUnbalanced_117 1 rfl rfl dX4_countUnbalanced_9 ?_
      refine g_icmp_ge Γ 46 dX4_countUnbalanced_12 (by decide) (fun c1 => ?_) (fun c1 => ?_)
      · have hf := ya_if1 c1 hf
        cases hf
        refine g_lv [1] rfl ?_
        exact hk
      · have hf := ya_if2 c1 hf
        refine g_aload_n Γ 0 dX4_countUnbalanced_15 rfl ?_
        refine g_get Γ fX4_countUnbalanced_10 0 rfl rfl dX4_countUnbalanced_16 ?_
        refine g_iload_n Γ 2 dX4_countUnbalanced_19 rfl ?_
        obtain ⟨v2, e3, hf⟩ := ya_ob hf
        refine g_vi (q := (RX3, TX3, 11)) (wr := [(h_t, oM A_t), (A_t_now 2, eI cI 10 d_t_now_reading)]) (ws' := [(h_t, oM A_t), (A_t_now 2, eI cI 10 d_t_now_reading), (A_t 0, oW A_t_now d_t_now_knots d_t_now_flows d_t_now_readSet), (A_t_now 0, eI cI 10 d_t_now_from), (A_t_now 1, eI cI 10 d_t_now_to)]) Γ (fun sz => mX3_isAllReadAt (l := l) (D := D) (sz := sz) (cI := cI) (cJ := cJ) (cZ := cZ) (cW := cW) (cR := cR) (h_t := A_t 0) (A_t := A_t_now) (hf := e3)) eX3_isAllReadAt gX4_countUnbalanced_X3_isAllReadAt rfl rfl 0 rfl rfl rfl (Nat.le_of_ble_eq_true rfl) ⟨Nat.le_of_ble_eq_true rfl, Nat.le_of_ble_eq_true rfl⟩ dX4_countUnbalanced_20 [1, 2, 3] [0, 4] rfl rfl rfl rfl (by decide) rfl ?_
        refine g_if_eq Γ 40 dX4_countUnbalanced_23 (by decide) (fun c4 => ?_) (fun c4 => ?_)
        · have hf := ya_if1 c4 hf
          obtain ⟨v5, e6, hf⟩ := ya_lt_inv hf
          refine g_iinc (lv' := [(2, .int v5), (0, .ref h_t), (1, .int y1)]) Γ 2 dX4_countUnbalanced_40 rfl (by rw [e6]; rfl) (by decide) rfl ?_
          refine g_goto Γ 4 dX4_countUnbalanced_43 (by decide) ?_
          refine g_lv [1, 2, 0] rfl ?_
          refine g_ws (ws' := [(h_t, oM A_t), (A_t 0, oW A_t_now d_t_now_knots d_t_now_flows d_t_now_readSet), (A_t_now 0, eI cI 10 d_t_now_from), (A_t_now 1, eI cI 10 d_t_now_to), (A_t_now 2, eI cI 10 d_t_now_reading)]) [0, 2, 3, 4, 1] rfl rfl ?_
          exact ih _ _ _ _ _ _ _ _ _ hf hk
        · have hf := ya_if2 c4 hf
          refine g_aload_n Γ 0 dX4_countUnbalanced_26 rfl ?_
          refine g_get Γ fX4_countUnbalanced_10 0 rfl rfl dX4_countUnbalanced_27 ?_
          refine g_iload_n Γ 2 dX4_countUnbalanced_30 rfl ?_
          obtain ⟨v7, e8, hf⟩ := ya_ob hf
          refine g_vi (q := (RX3, TX3, 11)) (wr := [(h_t, oM A_t)]) (ws' := [(h_t, oM A_t), (A_t 0, oW A_t_now d_t_now_knots d_t_now_flows d_t_now_readSet), (A_t_now 0, eI cI 10 d_t_now_from), (A_t_now 1, eI cI 10 d_t_now_to), (A_t_now 2, eI cI 10 d_t_now_reading)]) Γ (fun sz => mX3_surplusAt (l := l) (D := D) (sz := sz) (cI := cI) (cJ := cJ) (cZ := cZ) (cW := cW) (cR := cR) (h_t := A_t 0) (A_t := A_t_now) (hf := e8)) eX3_surplusAt gX4_countUnbalanced_X3_surplusAt rfl rfl 0 rfl rfl rfl (Nat.le_of_ble_eq_true rfl) ⟨Nat.le_of_ble_eq_true rfl, Nat.le_of_ble_eq_true rfl⟩ dX4_countUnbalanced_31 [2, 3, 4, 1] [0] rfl rfl rfl rfl (by decide) rfl ?_
          refine g_if_eq Γ 40 dX4_countUnbalanced_34 (by decide) (fun c9 => ?_) (fun c9 => ?_)
          · have hf := ya_if1 c9 hf
            obtain ⟨v10, e11, hf⟩ := ya_lt_inv hf
            refine g_iinc (lv' := [(2, .int v10), (0, .ref h_t), (1, .int y1)]) Γ 2 dX4_countUnbalanced_40 rfl (by rw [e11]; rfl) (by decide) rfl ?_
            refine g_goto Γ 4 dX4_countUnbalanced_43 (by decide) ?_
            refine g_lv [1, 2, 0] rfl ?_
            exact ih _ _ _ _ _ _ _ _ _ hf hk
          · have hf := ya_if2 c9 hf
            obtain ⟨v12, e13, hf⟩ := ya_lt_inv hf
            refine g_iinc (lv' := [(1, .int v12), (0, .ref h_t), (2, .int y2)]) Γ 1 dX4_countUnbalanced_37 rfl (by rw [e13]; rfl) (by decide) rfl ?_
            obtain ⟨v14, e15, hf⟩ := ya_lt_inv hf
            refine g_iinc (lv' := [(2, .int v14), (1, .int v12), (0, .ref h_t)]) Γ 2 dX4_countUnbalanced_40 rfl (by rw [e15]; rfl) (by decide) rfl ?_
            refine g_goto Γ 4 dX4_countUnbalanced_43 (by decide) ?_
            refine g_lv [2, 1, 0] rfl ?_
            exact ih _ _ _ _ _ _ _ _ _ hf hk
  show yG p l e (headSpec wsX4_countUnbalanced rmX4_countUnbalanced).room s m (List.toArray [.ref h_t]) below meth c D (va_A [(h_t, oM A_t), (A_t 0, oW A_t_now c_t_now_knots c_t_now_flows c_t_now_readSet), (A_t_now 0, eI cI 10 c_t_now_from), (A_t_now 1, eI cI 10 c_t_now_to), (A_t_now 2, eI cI 10 c_t_now_reading)] sz) 3 0 0 (MQ below (yQi D (yT cI cJ cZ cW cR) r [(h_t, oM A_t), (A_t 0, oW A_t_now c_t_now_knots c_t_now_flows c_t_now_readSet), (A_t_now 0, eI cI 10 c_t_now_from), (A_t_now 1, eI cI 10 c_t_now_to), (A_t_now 2, eI cI 10 c_t_now_reading)] (va_A [(h_t, oM A_t), (A_t 0, oW A_t_now c_t_now_knots c_t_now_flows c_t_now_readSet), (A_t_now 0, eI cI 10 c_t_now_from), (A_t_now 1, eI cI 10 c_t_now_to), (A_t_now 2, eI cI 10 c_t_now_reading)] sz)) (List.toArray [.ref h_t]) s 0 0 (va_A [(h_t, oM A_t), (A_t 0, oW A_t_now c_t_now_knots c_t_now_flows c_t_now_readSet), (A_t_now 0, eI cI 10 c_t_now_from), (A_t_now 1, eI cI 10 c_t_now_to), (A_t_now 2, eI cI 10 c_t_now_reading)] sz)) 0 [(0, .ref h_t)] [] [(h_t, oM A_t), (A_t 0, oW A_t_now c_t_now_knots c_t_now_flows c_t_now_readSet), (A_t_now 0, eI cI 10 c_t_now_from), (A_t_now 1, eI cI 10 c_t_now_to), (A_t_now 2, eI cI 10 c_t_now_reading)]
  unfold fX4_countUnbalanced at hf
  refine g_iconst (v := 0) Γ dX4_countUnbalanced_0 (by decide) ?_
  refine g_istore_n (lv' := [(1, .int 0), (0, .ref h_t)]) Γ dX4_countUnbalanced_1 (by decide) rfl ?_
  refine g_iconst (v := 0) Γ dX4_countUnbalanced_2 (by decide) ?_
  refine g_istore_n (lv' := [(2, .int 0), (1, .int 0), (0, .ref h_t)]) Γ dX4_countUnbalanced_3 (by decide) rfl ?_
  obtain ⟨v16, e17, hf⟩ := ya_ob hf
  refine g_lv [2, 1, 0] rfl ?_
  refine loop4 N _ _ _ _ _ _ _ _ _ e17  ?_
  refine g_iload_n Γ 0 dX4_countUnbalanced_46 rfl ?_
  cases hf
  exact g_iret Γ hr dX4_countUnbalanced_47 [0, 1, 2, 3, 4] rfl rfl

set_option maxRecDepth 20000 in
theorem ggX4_look_J6_bitCount_0f7a4 : GoodIn wsX4_look wsJ6_bitCount_0f7a4 := goodIn_r _ [9, 10, 11, 12] rfl (by decide +kernel)
set_option maxRecDepth 20000 in
theorem gX4_look_J6_bitCount_0f7a4 : GoodIn wsX4_look (va_wsS RX4 107 yJ6_bitCount_0f7a4 wsJ6_bitCount_0f7a4) := goodIn_app (goodIn_of _ (by decide +kernel)) ggX4_look_J6_bitCount_0f7a4
set_option maxRecDepth 20000 in
theorem ggX4_look_X3_unreadSet : GoodIn wsX4_look wsX3_unreadSet := goodIn_r _ [17, 18, 19, 20, 21, 16, 22, 23, 24, 25, 26, 102, 103, 104, 105, 106, 107, 108, 109, 110, 111, 112] rfl (by decide +kernel)
set_option maxRecDepth 20000 in
theorem gX4_look_X3_unreadSet : GoodIn wsX4_look (wsV RX4 120 RX3 yX3_unreadSet wsX3_unreadSet) := goodIn_app (goodIn_of _ (by decide +kernel)) ggX4_look_X3_unreadSet
set_option maxRecDepth 20000 in
theorem ggX4_look_X1_gather : GoodIn wsX4_look wsX1_gather := goodIn_r _ [31, 32, 33, 34, 35, 36, 25, 37, 38, 39, 40, 30, 41, 42, 43, 44, 45, 46, 47, 48, 49, 50, 51, 52, 113, 102, 103, 104, 105, 106, 107, 108, 109, 110, 111, 112] rfl (by decide +kernel)
set_option maxRecDepth 20000 in
theorem gX4_look_X1_gather : GoodIn wsX4_look (wsV RX4 124 RX1 yX1_gather wsX1_gather) := goodIn_app (goodIn_of _ (by decide +kernel)) ggX4_look_X1_gather
set_option maxRecDepth 20000 in
theorem ggX4_look_X1_howMany : GoodIn wsX4_look wsX1_howMany := goodIn_r _ [56, 32, 113] rfl (by decide +kernel)
set_option maxRecDepth 20000 in
theorem gX4_look_X1_howMany : GoodIn wsX4_look (wsV RX4 128 RX1 yX1_howMany wsX1_howMany) := goodIn_app (goodIn_of _ (by decide +kernel)) ggX4_look_X1_howMany
set_option maxRecDepth 20000 in
theorem ggX4_look_X4_countSeen : GoodIn wsX4_look wsX4_countSeen := goodIn_r _ [60, 1, 3, 61, 62, 63, 25, 64, 4, 5, 65, 36, 37, 13, 14, 15, 16, 17, 18, 19, 20, 21, 22, 23, 24, 26, 66, 27, 28, 29, 30, 31, 32, 33, 34, 35, 38, 39, 40, 41, 42, 43, 44, 45, 46, 47, 48, 49, 50, 51, 52, 67, 95, 96, 97, 98, 99, 100, 101, 102, 103, 104, 105, 106, 107, 108, 109, 110, 111, 112, 113] rfl (by decide +kernel)
set_option maxRecDepth 20000 in
theorem gX4_look_X4_countSeen : GoodIn wsX4_look (wsV RX4 131 RX4 yX4_countSeen wsX4_countSeen) := goodIn_app (goodIn_of _ (by decide +kernel)) ggX4_look_X4_countSeen
set_option maxRecDepth 20000 in
theorem ggX4_look_X4_spareSet : GoodIn wsX4_look wsX4_spareSet := goodIn_r _ [71, 5, 1, 3, 13, 14, 15, 16, 17, 18, 19, 20, 21, 22, 23, 24, 25, 26, 27, 28, 29, 30, 31, 32, 33, 34, 35, 36, 37, 38, 39, 40, 41, 42, 43, 44, 45, 46, 47, 48, 49, 50, 51, 52, 72, 73, 74, 75, 4, 65, 67, 66, 95, 96, 97, 98, 99, 100, 101, 102, 103, 104, 105, 106, 107, 108, 109, 110, 111, 112, 113] rfl (by decide +kernel)
set_option maxRecDepth 20000 in
theorem gX4_look_X4_spareSet : GoodIn wsX4_look (wsV RX4 134 RX4 yX4_spareSet wsX4_spareSet) := goodIn_app (goodIn_of _ (by decide +kernel)) ggX4_look_X4_spareSet
set_option maxRecDepth 20000 in
theorem ggX4_look_X4_countUnbalanced : GoodIn wsX4_look wsX4_countUnbalanced := goodIn_r _ [79, 1, 2, 80, 81, 82, 16, 83, 23, 18, 84, 85, 86, 87, 88, 89, 36, 25, 37, 90, 91, 92, 93, 94, 95, 96, 97, 98, 99, 100, 101, 102, 103, 104, 105, 106, 107, 108, 109, 110, 111, 112] rfl (by decide +kernel)
set_option maxRecDepth 20000 in
theorem gX4_look_X4_countUnbalanced : GoodIn wsX4_look (wsV RX4 137 RX4 yX4_countUnbalanced wsX4_countUnbalanced) := goodIn_app (goodIn_of _ (by decide +kernel)) ggX4_look_X4_countUnbalanced
theorem dX4_look_0 : decode cX4_look 0 = .ok (.iload_n 1, 1) := by decide +kernel
theorem dX4_look_1 : decode cX4_look 1 = .ok (.tableswitch 122 0 6 #[43, 51, 59, 70, 104, 109, 117], 43) := by decide +kernel
theorem dX4_look_44 : decode cX4_look 44 = .ok (.aload_n 0, 1) := by decide +kernel
theorem dX4_look_45 : decode cX4_look 45 = .ok (.getfield 10, 3) := by decide +kernel
theorem dX4_look_48 : decode cX4_look 48 = .ok (.getfield 117, 3) := by decide +kernel
theorem dX4_look_51 : decode cX4_look 51 = .ok (.ireturn, 1) := by decide +kernel
theorem dX4_look_52 : decode cX4_look 52 = .ok (.aload_n 0, 1) := by decide +kernel
theorem dX4_look_53 : decode cX4_look 53 = .ok (.getfield 10, 3) := by decide +kernel
theorem dX4_look_56 : decode cX4_look 56 = .ok (.getfield 60, 3) := by decide +kernel
theorem dX4_look_59 : decode cX4_look 59 = .ok (.ireturn, 1) := by decide +kernel
theorem dX4_look_60 : decode cX4_look 60 = .ok (.aload_n 0, 1) := by decide +kernel
theorem dX4_look_61 : decode cX4_look 61 = .ok (.getfield 10, 3) := by decide +kernel
theorem dX4_look_64 : decode cX4_look 64 = .ok (.getfield 75, 3) := by decide +kernel
theorem dX4_look_67 : decode cX4_look 67 = .ok (.invokestatic 107, 3) := by decide +kernel
theorem dX4_look_70 : decode cX4_look 70 = .ok (.ireturn, 1) := by decide +kernel
theorem dX4_look_71 : decode cX4_look 71 = .ok (.aload_n 0, 1) := by decide +kernel
theorem dX4_look_72 : decode cX4_look 72 = .ok (.getfield 26, 3) := by decide +kernel
theorem dX4_look_75 : decode cX4_look 75 = .ok (.aload_n 0, 1) := by decide +kernel
theorem dX4_look_76 : decode cX4_look 76 = .ok (.getfield 10, 3) := by decide +kernel
theorem dX4_look_79 : decode cX4_look 79 = .ok (.aload_n 0, 1) := by decide +kernel
theorem dX4_look_80 : decode cX4_look 80 = .ok (.getfield 10, 3) := by decide +kernel
theorem dX4_look_83 : decode cX4_look 83 = .ok (.invokevirtual 120, 3) := by decide +kernel
theorem dX4_look_86 : decode cX4_look 86 = .ok (.invokevirtual 124, 3) := by decide +kernel
theorem dX4_look_89 : decode cX4_look 89 = .ok (.pop, 1) := by decide +kernel
theorem dX4_look_90 : decode cX4_look 90 = .ok (.aload_n 0, 1) := by decide +kernel
theorem dX4_look_91 : decode cX4_look 91 = .ok (.getfield 26, 3) := by decide +kernel
theorem dX4_look_94 : decode cX4_look 94 = .ok (.aload_n 0, 1) := by decide +kernel
theorem dX4_look_95 : decode cX4_look 95 = .ok (.getfield 10, 3) := by decide +kernel
theorem dX4_look_98 : decode cX4_look 98 = .ok (.getfield 117, 3) := by decide +kernel
theorem dX4_look_101 : decode cX4_look 101 = .ok (.invokevirtual 128, 3) := by decide +kernel
theorem dX4_look_104 : decode cX4_look 104 = .ok (.ireturn, 1) := by decide +kernel
theorem dX4_look_105 : decode cX4_look 105 = .ok (.aload_n 0, 1) := by decide +kernel
theorem dX4_look_106 : decode cX4_look 106 = .ok (.invokevirtual 131, 3) := by decide +kernel
theorem dX4_look_109 : decode cX4_look 109 = .ok (.ireturn, 1) := by decide +kernel
theorem dX4_look_110 : decode cX4_look 110 = .ok (.aload_n 0, 1) := by decide +kernel
theorem dX4_look_111 : decode cX4_look 111 = .ok (.invokevirtual 134, 3) := by decide +kernel
theorem dX4_look_114 : decode cX4_look 114 = .ok (.invokestatic 107, 3) := by decide +kernel
theorem dX4_look_117 : decode cX4_look 117 = .ok (.ireturn, 1) := by decide +kernel
theorem dX4_look_118 : decode cX4_look 118 = .ok (.aload_n 0, 1) := by decide +kernel
theorem dX4_look_119 : decode cX4_look 119 = .ok (.invokevirtual 137, 3) := by decide +kernel
theorem dX4_look_122 : decode cX4_look 122 = .ok (.ireturn, 1) := by decide +kernel
theorem dX4_look_123 : decode cX4_look 123 = .ok (.iconst (-1), 1) := by decide +kernel
theorem dX4_look_124 : decode cX4_look 124 = .ok (.ireturn, 1) := by decide +kernel
/-! ===== FlowMeters.look(I)I ===== -/
def fX4_look (N : Nat) (c_t_now_knots : Int32) (c_t_now_flows : Int32) (c_t_now_readSet : Int32) (c_t_now_from : Nat → Int32) (c_t_now_to : Nat → Int32) (c_t_now_reading : Nat → Int32) (c_t_groups_least : Nat → Int32) (x1 : Int32) : Option (Int32 × (Nat → Int32)) :=
  (if x1 = 0 then
    some (c_t_now_knots, c_t_groups_least)
  else
    (if x1 = 1 then
      some (c_t_now_flows, c_t_groups_least)
    else
      (if x1 = 2 then
        (fJ6_bitCount_0f7a4 c_t_now_readSet).bind fun v1 =>
        some (v1, c_t_groups_least)
      else
        (if x1 = 3 then
          (fX3_unreadSet c_t_now_flows c_t_now_readSet).bind fun v3 =>
          (fX1_gather N c_t_groups_least c_t_now_flows c_t_now_from c_t_now_to v3).bind fun (v5, v6) =>
          (fX1_howMany N v6 c_t_now_knots).bind fun v8 =>
          some (v8, v6)
        else
          (if x1 = 4 then
            (fX4_countSeen N c_t_now_flows c_t_now_readSet c_t_now_from c_t_now_to c_t_groups_least).bind fun (v10, v11) =>
            some (v10, v11)
          else
            (if x1 = 5 then
              (fX4_spareSet N c_t_now_flows c_t_now_readSet c_t_now_from c_t_now_to c_t_groups_least).bind fun (v13, v14) =>
              (fJ6_bitCount_0f7a4 v13).bind fun v16 =>
              some (v16, v14)
            else
              (if x1 = 6 then
                (fX4_countUnbalanced N c_t_now_knots c_t_now_flows c_t_now_readSet c_t_now_from c_t_now_to c_t_now_reading).bind fun v18 =>
                some (v18, c_t_groups_least)
              else
                some ((-1), c_t_groups_least))))))))
theorem fX4_look_10 : yF wsX4_look RX4 10 4 0 RX4 TX4 7 := ⟨rfl, by decide, by decide +kernel, by decide +kernel⟩
theorem fX4_look_117 : yF wsX4_look RX4 117 3 0 RX3 TX3 11 := ⟨rfl, by decide, by decide +kernel, by decide +kernel⟩
theorem fX4_look_60 : yF wsX4_look RX4 60 3 1 RX3 TX3 11 := ⟨rfl, by decide, by decide +kernel, by decide +kernel⟩
theorem fX4_look_75 : yF wsX4_look RX4 75 3 2 RX3 TX3 11 := ⟨rfl, by decide, by decide +kernel, by decide +kernel⟩
theorem fX4_look_26 : yF wsX4_look RX4 26 4 2 RX4 TX4 7 := ⟨rfl, by decide, by decide +kernel, by decide +kernel⟩
abbrev rmX4_look : Room := { frames := 5, cells := 0, slots := 0, locals := 140 }
theorem eX4_look : yY yX4_look wsX4_look cX4_look 2 (some .int) rmX4_look 1 := ⟨⟨_, rfl⟩, rfl, rfl, by decide, by decide, by decide +kernel⟩
set_option maxHeartbeats 4000000 in
set_option maxRecDepth 100000 in
theorem mX4_look {l : Launch} {D : va_G} {sz : Nat} {cI cJ cZ cW cR : ClassId} {N : Nat} {h_t : Nat} {A_t : Nat → Nat} {A_t_now : Nat → Nat} {A_t_groups : Nat → Nat} {c_t_now_knots : Int32} {c_t_now_flows : Int32} {c_t_now_readSet : Int32} {c_t_now_from : Nat → Int32} {c_t_now_to : Nat → Int32} {c_t_now_reading : Nat → Int32} {c_t_groups_least : Nat → Int32} {x1 : Int32} {r : Int32} {zc_t_groups_least : Nat → Int32} (hf : fX4_look N c_t_now_knots c_t_now_flows c_t_now_readSet c_t_now_from c_t_now_to c_t_now_reading c_t_groups_least x1 = some (r, zc_t_groups_least)) : Met l yX4_look wsX4_look rmX4_look (yP D (yT cI cJ cZ cW cR) [(h_t, oM A_t), (A_t 0, oW A_t_now c_t_now_knots c_t_now_flows c_t_now_readSet), (A_t_now 0, eI cI 10 c_t_now_from), (A_t_now 1, eI cI 10 c_t_now_to), (A_t_now 2, eI cI 10 c_t_now_reading), (A_t 2, oG A_t_groups), (A_t_groups 0, eI cI 6 c_t_groups_least)] sz [.ref h_t, .int x1]) (yQi D (yT cI cJ cZ cW cR) r [(h_t, oM A_t), (A_t 0, oW A_t_now c_t_now_knots c_t_now_flows c_t_now_readSet), (A_t_now 0, eI cI 10 c_t_now_from), (A_t_now 1, eI cI 10 c_t_now_to), (A_t_now 2, eI cI 10 c_t_now_reading), (A_t 2, oG A_t_groups), (A_t_groups 0, eI cI 6 zc_t_groups_least)] (va_A [(h_t, oM A_t), (A_t 0, oW A_t_now c_t_now_knots c_t_now_flows c_t_now_readSet), (A_t_now 0, eI cI 10 c_t_now_from), (A_t_now 1, eI cI 10 c_t_now_to), (A_t_now 2, eI cI 10 c_t_now_reading), (A_t 2, oG A_t_groups), (A_t_groups 0, eI cI 6 c_t_groups_least)] sz)) 0 0 (va_A [(h_t, oM A_t), (A_t 0, oW A_t_now c_t_now_knots c_t_now_flows c_t_now_readSet), (A_t_now 0, eI cI 10 c_t_now_from), (A_t_now 1, eI cI 10 c_t_now_to), (A_t_now 2, eI cI 10 c_t_now_reading), (A_t 2, oG A_t_groups), (A_t_groups 0, eI cI 6 c_t_groups_least)] sz) := by
  refine yM (cc := cX4_look) (maxL := 2) (ret := (some .int)) RX4 (by decide) rfl rfl (Nat.le_of_ble_eq_true rfl) ?_
  intro p e s m below meth c Γ hr
  show yG p l e (headSpec wsX4_look rmX4_look).room s m (List.toArray [.ref h_t, .int x1]) below meth c D (va_A [(h_t, oM A_t), (A_t 0, oW A_t_now c_t_now_knots c_t_now_flows c_t_now_readSet), (A_t_now 0, eI cI 10 c_t_now_from), (A_t_now 1, eI cI 10 c_t_now_to), (A_t_now 2, eI cI 10 c_t_now_reading), (A_t 2, oG A_t_groups), (A_t_groups 0, eI cI 6 c_t_groups_least)] sz) 2 0 0 (MQ below (yQi D (yT cI cJ cZ cW cR) r [(h_t, oM A_t), (A_t 0, oW A_t_now c_t_now_knots c_t_now_flows c_t_now_readSet), (A_t_now 0, eI cI 10 c_t_now_from), (A_t_now 1, eI cI 10 c_t_now_to), (A_t_now 2, eI cI 10 c_t_now_reading), (A_t 2, oG A_t_groups), (A_t_groups 0, eI cI 6 zc_t_groups_least)] (va_A [(h_t, oM A_t), (A_t 0, oW A_t_now c_t_now_knots c_t_now_flows c_t_now_readSet), (A_t_now 0, eI cI 10 c_t_now_from), (A_t_now 1, eI cI 10 c_t_now_to), (A_t_now 2, eI cI 10 c_t_now_reading), (A_t 2, oG A_t_groups), (A_t_groups 0, eI cI 6 c_t_groups_least)] sz)) (List.toArray [.ref h_t, .int x1]) s 0 0 (va_A [(h_t, oM A_t), (A_t 0, oW A_t_now c_t_now_knots c_t_now_flows c_t_now_readSet), (A_t_now 0, eI cI 10 c_t_now_from), (A_t_now 1, eI cI 10 c_t_now_to), (A_t_now 2, eI cI 10 c_t_now_reading), (A_t 2, oG A_t_groups), (A_t_groups 0, eI cI 6 c_t_groups_least)] sz)) 0 [(0, .ref h_t), (1, .int x1)] [] [(h_t, oM A_t), (A_t 0, oW A_t_now c_t_now_knots c_t_now_flows c_t_now_readSet), (A_t_now 0, eI cI 10 c_t_now_from), (A_t_now 1, eI cI 10 c_t_now_to), (A_t_now 2, eI cI 10 c_t_now_reading), (A_t 2, oG A_t_groups), (A_t_groups 0, eI cI 6 c_t_groups_least)]
  unfold fX4_look at hf
  refine g_iload_n Γ 1 dX4_look_0 rfl ?_
  by_cases c1_0 : x1 = 0
  · have hf := ya_if1 c1_0 hf
    refine g_tableIn (v := 0) (off := 43) Γ 44 dX4_look_1 c1_0 (by decide) (by decide) (by decide +kernel) (by decide) ?_
    refine g_aload_n Γ 0 dX4_look_44 rfl ?_
    refine g_get Γ fX4_look_10 0 rfl rfl dX4_look_45 ?_
    refine g_get Γ fX4_look_117 1 rfl rfl dX4_look_48 ?_
    cases hf
    exact g_iret Γ hr dX4_look_51 [0, 1, 2, 3, 4, 5, 6] rfl rfl
  · have hf := ya_if2 c1_0 hf
    by_cases c1_1 : x1 = 1
    · have hf := ya_if1 c1_1 hf
      refine g_tableIn (v := 1) (off := 51) Γ 52 dX4_look_1 c1_1 (by decide) (by decide) (by decide +kernel) (by decide) ?_
      refine g_aload_n Γ 0 dX4_look_52 rfl ?_
      refine g_get Γ fX4_look_10 0 rfl rfl dX4_look_53 ?_
      refine g_get Γ fX4_look_60 1 rfl rfl dX4_look_56 ?_
      cases hf
      exact g_iret Γ hr dX4_look_59 [0, 1, 2, 3, 4, 5, 6] rfl rfl
    · have hf := ya_if2 c1_1 hf
      by_cases c1_2 : x1 = 2
      · have hf := ya_if1 c1_2 hf
        refine g_tableIn (v := 2) (off := 59) Γ 60 dX4_look_1 c1_2 (by decide) (by decide) (by decide +kernel) (by decide) ?_
        refine g_aload_n Γ 0 dX4_look_60 rfl ?_
        refine g_get Γ fX4_look_10 0 rfl rfl dX4_look_61 ?_
        refine g_get Γ fX4_look_75 1 rfl rfl dX4_look_64 ?_
        obtain ⟨v1, e2, hf⟩ := ya_ob hf
        refine g_si (wr := [(h_t, oM A_t), (A_t 0, oW A_t_now c_t_now_knots c_t_now_flows c_t_now_readSet), (A_t_now 0, eI cI 10 c_t_now_from), (A_t_now 1, eI cI 10 c_t_now_to), (A_t_now 2, eI cI 10 c_t_now_reading), (A_t 2, oG A_t_groups), (A_t_groups 0, eI cI 6 c_t_groups_least)]) (ws' := [(h_t, oM A_t), (A_t 0, oW A_t_now c_t_now_knots c_t_now_flows c_t_now_readSet), (A_t_now 0, eI cI 10 c_t_now_from), (A_t_now 1, eI cI 10 c_t_now_to), (A_t_now 2, eI cI 10 c_t_now_reading), (A_t 2, oG A_t_groups), (A_t_groups 0, eI cI 6 c_t_groups_least)]) Γ (fun sz => mJ6_bitCount_0f7a4 (l := l) (D := D) (sz := sz) (cI := cI) (cJ := cJ) (cZ := cZ) (cW := cW) (cR := cR)  (hf := e2)) eJ6_bitCount_0f7a4 ggX4_look_J6_bitCount_0f7a4 (by decide +kernel) (by decide +kernel) (by decide +kernel) rfl rfl (Nat.le_of_ble_eq_true rfl) ⟨Nat.le_of_ble_eq_true rfl, Nat.le_of_ble_eq_true rfl⟩ dX4_look_67 [] [0, 1, 2, 3, 4, 5, 6] rfl rfl rfl rfl (by decide) rfl ?_
        cases hf
        exact g_iret Γ hr dX4_look_70 [0, 1, 2, 3, 4, 5, 6] rfl rfl
      · have hf := ya_if2 c1_2 hf
        by_cases c1_3 : x1 = 3
        · have hf := ya_if1 c1_3 hf
          refine g_tableIn (v := 3) (off := 70) Γ 71 dX4_look_1 c1_3 (by decide) (by decide) (by decide +kernel) (by decide) ?_
          refine g_aload_n Γ 0 dX4_look_71 rfl ?_
          refine g_get Γ fX4_look_26 0 rfl rfl dX4_look_72 ?_
          refine g_aload_n Γ 0 dX4_look_75 rfl ?_
          refine g_get Γ fX4_look_10 0 rfl rfl dX4_look_76 ?_
          refine g_aload_n Γ 0 dX4_look_79 rfl ?_
          refine g_get Γ fX4_look_10 0 rfl rfl dX4_look_80 ?_
          obtain ⟨v3, e4, hf⟩ := ya_ob hf
          refine g_vi (q := (RX3, TX3, 11)) (wr := [(h_t, oM A_t), (A_t_now 0, eI cI 10 c_t_now_from), (A_t_now 1, eI cI 10 c_t_now_to), (A_t_now 2, eI cI 10 c_t_now_reading), (A_t 2, oG A_t_groups), (A_t_groups 0, eI cI 6 c_t_groups_least)]) (ws' := [(h_t, oM A_t), (A_t_now 0, eI cI 10 c_t_now_from), (A_t_now 1, eI cI 10 c_t_now_to), (A_t_now 2, eI cI 10 c_t_now_reading), (A_t 2, oG A_t_groups), (A_t_groups 0, eI cI 6 c_t_groups_least), (A_t 0, oW A_t_now c_t_now_knots c_t_now_flows c_t_now_readSet)]) Γ (fun sz => mX3_unreadSet (l := l) (D := D) (sz := sz) (cI := cI) (cJ := cJ) (cZ := cZ) (cW := cW) (cR := cR) (h_t := A_t 0) (A_t := A_t_now) (hf := e4)) eX3_unreadSet gX4_look_X3_unreadSet rfl rfl 0 rfl rfl rfl (Nat.le_of_ble_eq_true rfl) ⟨Nat.le_of_ble_eq_true rfl, Nat.le_of_ble_eq_true rfl⟩ dX4_look_83 [1] [0, 2, 3, 4, 5, 6] rfl rfl rfl rfl (by decide) rfl ?_
          obtain ⟨⟨v5, v6⟩, e7, hf⟩ := ya_ob hf
          refine g_vi (q := (RX1, TX1, 1)) (wr := [(h_t, oM A_t), (A_t_now 2, eI cI 10 c_t_now_reading)]) (ws' := [(h_t, oM A_t), (A_t_now 2, eI cI 10 c_t_now_reading), (A_t 2, oG A_t_groups), (A_t_groups 0, eI cI 6 v6), (A_t 0, oW A_t_now c_t_now_knots c_t_now_flows c_t_now_readSet), (A_t_now 0, eI cI 10 c_t_now_from), (A_t_now 1, eI cI 10 c_t_now_to)]) Γ (fun sz => mX1_gather (l := l) (D := D) (sz := sz) (cI := cI) (cJ := cJ) (cZ := cZ) (cW := cW) (cR := cR) (h_t := A_t 2) (h_w := A_t 0) (A_t := A_t_groups) (A_w := A_t_now) (hf := e7)) eX1_gather gX4_look_X1_gather rfl rfl 0 rfl rfl rfl (Nat.le_of_ble_eq_true rfl) ⟨Nat.le_of_ble_eq_true rfl, Nat.le_of_ble_eq_true rfl⟩ dX4_look_86 [4, 5, 6, 1, 2] [0, 3] rfl rfl rfl rfl (by decide) rfl ?_
          refine g_pop Γ dX4_look_89 rfl ?_
          refine g_aload_n Γ 0 dX4_look_90 rfl ?_
          refine g_get Γ fX4_look_26 0 rfl rfl dX4_look_91 ?_
          refine g_aload_n Γ 0 dX4_look_94 rfl ?_
          refine g_get Γ fX4_look_10 0 rfl rfl dX4_look_95 ?_
          refine g_get Γ fX4_look_117 4 rfl rfl dX4_look_98 ?_
          obtain ⟨v8, e9, hf⟩ := ya_ob hf
          refine g_vi (q := (RX1, TX1, 1)) (wr := [(h_t, oM A_t), (A_t_now 2, eI cI 10 c_t_now_reading), (A_t 0, oW A_t_now c_t_now_knots c_t_now_flows c_t_now_readSet), (A_t_now 0, eI cI 10 c_t_now_from), (A_t_now 1, eI cI 10 c_t_now_to)]) (ws' := [(h_t, oM A_t), (A_t_now 2, eI cI 10 c_t_now_reading), (A_t 0, oW A_t_now c_t_now_knots c_t_now_flows c_t_now_readSet), (A_t_now 0, eI cI 10 c_t_now_from), (A_t_now 1, eI cI 10 c_t_now_to), (A_t 2, oG A_t_groups), (A_t_groups 0, eI cI 6 v6)]) Γ (fun sz => mX1_howMany (l := l) (D := D) (sz := sz) (cI := cI) (cJ := cJ) (cZ := cZ) (cW := cW) (cR := cR) (h_t := A_t 2) (A_t := A_t_groups) (hf := e9)) eX1_howMany gX4_look_X1_howMany rfl rfl 0 rfl rfl rfl (Nat.le_of_ble_eq_true rfl) ⟨Nat.le_of_ble_eq_true rfl, Nat.le_of_ble_eq_true rfl⟩ dX4_look_101 [2, 3] [0, 1, 4, 5, 6] rfl rfl rfl rfl (by decide) rfl ?_
          cases hf
          exact g_iret Γ hr dX4_look_104 [0, 2, 3, 4, 1, 5, 6] rfl rfl
        · have hf := ya_if2 c1_3 hf
          by_cases c1_4 : x1 = 4
          · have hf := ya_if1 c1_4 hf
            refine g_tableIn (v := 4) (off := 104) Γ 105 dX4_look_1 c1_4 (by decide) (by decide) (by decide +kernel) (by decide) ?_
            refine g_aload_n Γ 0 dX4_look_105 rfl ?_
            obtain ⟨⟨v10, v11⟩, e12, hf⟩ := ya_ob hf
            refine g_vi (q := (RX4, TX4, 7)) (wr := [(A_t_now 2, eI cI 10 c_t_now_reading)]) (ws' := [(A_t_now 2, eI cI 10 c_t_now_reading), (h_t, oM A_t), (A_t 0, oW A_t_now c_t_now_knots c_t_now_flows c_t_now_readSet), (A_t_now 0, eI cI 10 c_t_now_from), (A_t_now 1, eI cI 10 c_t_now_to), (A_t 2, oG A_t_groups), (A_t_groups 0, eI cI 6 v11)]) Γ (fun sz => mX4_countSeen (l := l) (D := D) (sz := sz) (cI := cI) (cJ := cJ) (cZ := cZ) (cW := cW) (cR := cR) (h_t := h_t) (A_t := A_t) (A_t_now := A_t_now) (A_t_groups := A_t_groups) (hf := e12)) eX4_countSeen gX4_look_X4_countSeen rfl rfl 0 rfl rfl rfl (Nat.le_of_ble_eq_true rfl) ⟨Nat.le_of_ble_eq_true rfl, Nat.le_of_ble_eq_true rfl⟩ dX4_look_106 [0, 1, 2, 3, 5, 6] [4] rfl rfl rfl rfl (by decide) rfl ?_
            cases hf
            exact g_iret Γ hr dX4_look_109 [1, 2, 3, 4, 0, 5, 6] rfl rfl
          · have hf := ya_if2 c1_4 hf
            by_cases c1_5 : x1 = 5
            · have hf := ya_if1 c1_5 hf
              refine g_tableIn (v := 5) (off := 109) Γ 110 dX4_look_1 c1_5 (by decide) (by decide) (by decide +kernel) (by decide) ?_
              refine g_aload_n Γ 0 dX4_look_110 rfl ?_
              obtain ⟨⟨v13, v14⟩, e15, hf⟩ := ya_ob hf
              refine g_vi (q := (RX4, TX4, 7)) (wr := [(A_t_now 2, eI cI 10 c_t_now_reading)]) (ws' := [(A_t_now 2, eI cI 10 c_t_now_reading), (h_t, oM A_t), (A_t 0, oW A_t_now c_t_now_knots c_t_now_flows c_t_now_readSet), (A_t_now 0, eI cI 10 c_t_now_from), (A_t_now 1, eI cI 10 c_t_now_to), (A_t 2, oG A_t_groups), (A_t_groups 0, eI cI 6 v14)]) Γ (fun sz => mX4_spareSet (l := l) (D := D) (sz := sz) (cI := cI) (cJ := cJ) (cZ := cZ) (cW := cW) (cR := cR) (h_t := h_t) (A_t := A_t) (A_t_now := A_t_now) (A_t_groups := A_t_groups) (hf := e15)) eX4_spareSet gX4_look_X4_spareSet rfl rfl 0 rfl rfl rfl (Nat.le_of_ble_eq_true rfl) ⟨Nat.le_of_ble_eq_true rfl, Nat.le_of_ble_eq_true rfl⟩ dX4_look_111 [0, 1, 2, 3, 5, 6] [4] rfl rfl rfl rfl (by decide) rfl ?_
              obtain ⟨v16, e17, hf⟩ := ya_ob hf
              refine g_si (wr := [(A_t_now 2, eI cI 10 c_t_now_reading), (h_t, oM A_t), (A_t 0, oW A_t_now c_t_now_knots c_t_now_flows c_t_now_readSet), (A_t_now 0, eI cI 10 c_t_now_from), (A_t_now 1, eI cI 10 c_t_now_to), (A_t 2, oG A_t_groups), (A_t_groups 0, eI cI 6 v14)]) (ws' := [(A_t_now 2, eI cI 10 c_t_now_reading), (h_t, oM A_t), (A_t 0, oW A_t_now c_t_now_knots c_t_now_flows c_t_now_readSet), (A_t_now 0, eI cI 10 c_t_now_from), (A_t_now 1, eI cI 10 c_t_now_to), (A_t 2, oG A_t_groups), (A_t_groups 0, eI cI 6 v14)]) Γ (fun sz => mJ6_bitCount_0f7a4 (l := l) (D := D) (sz := sz) (cI := cI) (cJ := cJ) (cZ := cZ) (cW := cW) (cR := cR)  (hf := e17)) eJ6_bitCount_0f7a4 ggX4_look_J6_bitCount_0f7a4 (by decide +kernel) (by decide +kernel) (by decide +kernel) rfl rfl (Nat.le_of_ble_eq_true rfl) ⟨Nat.le_of_ble_eq_true rfl, Nat.le_of_ble_eq_true rfl⟩ dX4_look_114 [] [0, 1, 2, 3, 4, 5, 6] rfl rfl rfl rfl (by decide) rfl ?_
              cases hf
              exact g_iret Γ hr dX4_look_117 [1, 2, 3, 4, 0, 5, 6] rfl rfl
            · have hf := ya_if2 c1_5 hf
              by_cases c1_6 : x1 = 6
              · have hf := ya_if1 c1_6 hf
                refine g_tableIn (v := 6) (off := 117) Γ 118 dX4_look_1 c1_6 (by decide) (by decide) (by decide +kernel) (by decide) ?_
                refine g_aload_n Γ 0 dX4_look_118 rfl ?_
                obtain ⟨v18, e19, hf⟩ := ya_ob hf
                refine g_vi (q := (RX4, TX4, 7)) (wr := [(A_t 2, oG A_t_groups), (A_t_groups 0, eI cI 6 c_t_groups_least)]) (ws' := [(A_t 2, oG A_t_groups), (A_t_groups 0, eI cI 6 c_t_groups_least), (h_t, oM A_t), (A_t 0, oW A_t_now c_t_now_knots c_t_now_flows c_t_now_readSet), (A_t_now 0, eI cI 10 c_t_now_from), (A_t_now 1, eI cI 10 c_t_now_to), (A_t_now 2, eI cI 10 c_t_now_reading)]) Γ (fun sz => mX4_countUnbalanced (l := l) (D := D) (sz := sz) (cI := cI) (cJ := cJ) (cZ := cZ) (cW := cW) (cR := cR) (h_t := h_t) (A_t := A_t) (A_t_now := A_t_now) (hf := e19)) eX4_countUnbalanced gX4_look_X4_countUnbalanced rfl rfl 0 rfl rfl rfl (Nat.le_of_ble_eq_true rfl) ⟨Nat.le_of_ble_eq_true rfl, Nat.le_of_ble_eq_true rfl⟩ dX4_look_119 [0, 1, 2, 3, 4] [5, 6] rfl rfl rfl rfl (by decide) rfl ?_
                cases hf
                exact g_iret Γ hr dX4_look_122 [2, 3, 4, 5, 6, 0, 1] rfl rfl
              · have hf := ya_if2 c1_6 hf
                refine g_tableOut Γ 123 dX4_look_1 (ya_out6 c1_0 c1_1 c1_2 c1_3 c1_4 c1_5 c1_6) (by decide) ?_
                refine g_iconst (v := (-1)) Γ dX4_look_123 (by decide) ?_
                cases hf
                exact g_iret Γ hr dX4_look_124 [0, 1, 2, 3, 4, 5, 6] rfl rfl

set_option maxRecDepth 20000 in
theorem ggX4_of_X4_isFlow : GoodIn wsX4_of wsX4_isFlow := goodIn_r _ [14, 1, 15, 19, 20, 21, 22, 23, 24, 25, 26, 27, 28, 29, 30, 31, 32, 33, 34, 35, 36] rfl (by decide +kernel)
set_option maxRecDepth 20000 in
theorem gX4_of_X4_isFlow : GoodIn wsX4_of (wsV RX4 68 RX4 yX4_isFlow wsX4_isFlow) := goodIn_app (goodIn_of _ (by decide +kernel)) ggX4_of_X4_isFlow
set_option maxRecDepth 20000 in
theorem ggX4_of_X4_holds : GoodIn wsX4_of wsX4_holds := goodIn_r _ [18] rfl (by decide +kernel)
set_option maxRecDepth 20000 in
theorem gX4_of_X4_holds : GoodIn wsX4_of (va_wsS RX4 78 yX4_holds wsX4_holds) := goodIn_app (goodIn_of _ (by decide +kernel)) ggX4_of_X4_holds
theorem dX4_of_0 : decode cX4_of 0 = .ok (.aload_n 0, 1) := by decide +kernel
theorem dX4_of_1 : decode cX4_of 1 = .ok (.iload_n 1, 1) := by decide +kernel
theorem dX4_of_2 : decode cX4_of 2 = .ok (.invokevirtual 68, 3) := by decide +kernel
theorem dX4_of_5 : decode cX4_of 5 = .ok (.ifCond .ne 5, 3) := by decide +kernel
theorem dX4_of_8 : decode cX4_of 8 = .ok (.iconst (-1), 1) := by decide +kernel
theorem dX4_of_9 : decode cX4_of 9 = .ok (.ireturn, 1) := by decide +kernel
theorem dX4_of_10 : decode cX4_of 10 = .ok (.iload_n 2, 1) := by decide +kernel
theorem dX4_of_11 : decode cX4_of 11 = .ok (.tableswitch 135 0 7 #[45, 55, 65, 85, 95, 105, 115, 125], 45) := by decide +kernel
theorem dX4_of_56 : decode cX4_of 56 = .ok (.aload_n 0, 1) := by decide +kernel
theorem dX4_of_57 : decode cX4_of 57 = .ok (.getfield 10, 3) := by decide +kernel
theorem dX4_of_60 : decode cX4_of 60 = .ok (.getfield 140, 3) := by decide +kernel
theorem dX4_of_63 : decode cX4_of 63 = .ok (.iload_n 1, 1) := by decide +kernel
theorem dX4_of_64 : decode cX4_of 64 = .ok (.iaload, 1) := by decide +kernel
theorem dX4_of_65 : decode cX4_of 65 = .ok (.ireturn, 1) := by decide +kernel
theorem dX4_of_66 : decode cX4_of 66 = .ok (.aload_n 0, 1) := by decide +kernel
theorem dX4_of_67 : decode cX4_of 67 = .ok (.getfield 10, 3) := by decide +kernel
theorem dX4_of_70 : decode cX4_of 70 = .ok (.getfield 143, 3) := by decide +kernel
theorem dX4_of_73 : decode cX4_of 73 = .ok (.iload_n 1, 1) := by decide +kernel
theorem dX4_of_74 : decode cX4_of 74 = .ok (.iaload, 1) := by decide +kernel
theorem dX4_of_75 : decode cX4_of 75 = .ok (.ireturn, 1) := by decide +kernel
theorem dX4_of_76 : decode cX4_of 76 = .ok (.aload_n 0, 1) := by decide +kernel
theorem dX4_of_77 : decode cX4_of 77 = .ok (.getfield 10, 3) := by decide +kernel
theorem dX4_of_80 : decode cX4_of 80 = .ok (.getfield 75, 3) := by decide +kernel
theorem dX4_of_83 : decode cX4_of 83 = .ok (.iload_n 1, 1) := by decide +kernel
theorem dX4_of_84 : decode cX4_of 84 = .ok (.invokestatic 78, 3) := by decide +kernel
theorem dX4_of_87 : decode cX4_of 87 = .ok (.ifCond .eq 7, 3) := by decide +kernel
theorem dX4_of_90 : decode cX4_of 90 = .ok (.iconst 1, 1) := by decide +kernel
theorem dX4_of_91 : decode cX4_of 91 = .ok (.goto 4, 3) := by decide +kernel
theorem dX4_of_94 : decode cX4_of 94 = .ok (.iconst 0, 1) := by decide +kernel
theorem dX4_of_95 : decode cX4_of 95 = .ok (.ireturn, 1) := by decide +kernel
theorem dX4_of_96 : decode cX4_of 96 = .ok (.aload_n 0, 1) := by decide +kernel
theorem dX4_of_97 : decode cX4_of 97 = .ok (.getfield 10, 3) := by decide +kernel
theorem dX4_of_100 : decode cX4_of 100 = .ok (.getfield 146, 3) := by decide +kernel
theorem dX4_of_103 : decode cX4_of 103 = .ok (.iload_n 1, 1) := by decide +kernel
theorem dX4_of_104 : decode cX4_of 104 = .ok (.iaload, 1) := by decide +kernel
theorem dX4_of_105 : decode cX4_of 105 = .ok (.ireturn, 1) := by decide +kernel
theorem dX4_of_106 : decode cX4_of 106 = .ok (.aload_n 0, 1) := by decide +kernel
theorem dX4_of_107 : decode cX4_of 107 = .ok (.getfield 10, 3) := by decide +kernel
theorem dX4_of_110 : decode cX4_of 110 = .ok (.getfield 85, 3) := by decide +kernel
theorem dX4_of_113 : decode cX4_of 113 = .ok (.iload_n 1, 1) := by decide +kernel
theorem dX4_of_114 : decode cX4_of 114 = .ok (.iaload, 1) := by decide +kernel
theorem dX4_of_115 : decode cX4_of 115 = .ok (.ireturn, 1) := by decide +kernel
theorem dX4_of_116 : decode cX4_of 116 = .ok (.aload_n 0, 1) := by decide +kernel
theorem dX4_of_117 : decode cX4_of 117 = .ok (.getfield 10, 3) := by decide +kernel
theorem dX4_of_120 : decode cX4_of 120 = .ok (.getfield 88, 3) := by decide +kernel
theorem dX4_of_123 : decode cX4_of 123 = .ok (.iload_n 1, 1) := by decide +kernel
theorem dX4_of_124 : decode cX4_of 124 = .ok (.iaload, 1) := by decide +kernel
theorem dX4_of_125 : decode cX4_of 125 = .ok (.ireturn, 1) := by decide +kernel
theorem dX4_of_126 : decode cX4_of 126 = .ok (.aload_n 0, 1) := by decide +kernel
theorem dX4_of_127 : decode cX4_of 127 = .ok (.getfield 10, 3) := by decide +kernel
theorem dX4_of_130 : decode cX4_of 130 = .ok (.getfield 91, 3) := by decide +kernel
theorem dX4_of_133 : decode cX4_of 133 = .ok (.iload_n 1, 1) := by decide +kernel
theorem dX4_of_134 : decode cX4_of 134 = .ok (.iaload, 1) := by decide +kernel
theorem dX4_of_135 : decode cX4_of 135 = .ok (.ireturn, 1) := by decide +kernel
theorem dX4_of_136 : decode cX4_of 136 = .ok (.aload_n 0, 1) := by decide +kernel
theorem dX4_of_137 : decode cX4_of 137 = .ok (.getfield 10, 3) := by decide +kernel
theorem dX4_of_140 : decode cX4_of 140 = .ok (.getfield 94, 3) := by decide +kernel
theorem dX4_of_143 : decode cX4_of 143 = .ok (.iload_n 1, 1) := by decide +kernel
theorem dX4_of_144 : decode cX4_of 144 = .ok (.iaload, 1) := by decide +kernel
theorem dX4_of_145 : decode cX4_of 145 = .ok (.ireturn, 1) := by decide +kernel
theorem dX4_of_146 : decode cX4_of 146 = .ok (.iconst (-1), 1) := by decide +kernel
theorem dX4_of_147 : decode cX4_of 147 = .ok (.ireturn, 1) := by decide +kernel
/-! ===== FlowMeters.of(II)I ===== -/
def fX4_of (c_t_now_flows : Int32) (c_t_now_readSet : Int32) (c_t_now_from : Nat → Int32) (c_t_now_to : Nat → Int32) (c_t_now_reading : Nat → Int32) (c_t_now_miss : Nat → Int32) (c_t_now_price : Nat → Int32) (c_t_now_kind : Nat → Int32) (c_t_now_length : Nat → Int32) (x1 : Int32) (x2 : Int32) : Option (Int32) :=
  (fX4_isFlow c_t_now_flows x1).bind fun v1 =>
  (if v1 = 0 then
    some (-1)
  else
    (if x2 = 0 then
      (ya_rd c_t_now_from 10 x1).bind fun v4 =>
      some v4
    else
      (if x2 = 1 then
        (ya_rd c_t_now_to 10 x1).bind fun v6 =>
        some v6
      else
        (if x2 = 2 then
          (fX4_holds c_t_now_readSet x1).bind fun v8 =>
          (if v8 = 0 then
            some 0
          else
            some 1)
        else
          (if x2 = 3 then
            (ya_rd c_t_now_reading 10 x1).bind fun v11 =>
            some v11
          else
            (if x2 = 4 then
              (ya_rd c_t_now_miss 10 x1).bind fun v13 =>
              some v13
            else
              (if x2 = 5 then
                (ya_rd c_t_now_price 10 x1).bind fun v15 =>
                some v15
              else
                (if x2 = 6 then
                  (ya_rd c_t_now_kind 10 x1).bind fun v17 =>
                  some v17
                else
                  (if x2 = 7 then
                    (ya_rd c_t_now_length 10 x1).bind fun v19 =>
                    some v19
                  else
                    some (-1))))))))))
theorem fX4_of_10 : yF wsX4_of RX4 10 4 0 RX4 TX4 7 := ⟨rfl, by decide, by decide +kernel, by decide +kernel⟩
theorem fX4_of_140 : yF wsX4_of RX4 140 3 3 RX3 TX3 11 := ⟨rfl, by decide, by decide +kernel, by decide +kernel⟩
theorem fX4_of_143 : yF wsX4_of RX4 143 3 4 RX3 TX3 11 := ⟨rfl, by decide, by decide +kernel, by decide +kernel⟩
theorem fX4_of_75 : yF wsX4_of RX4 75 3 2 RX3 TX3 11 := ⟨rfl, by decide, by decide +kernel, by decide +kernel⟩
theorem fX4_of_146 : yF wsX4_of RX4 146 3 5 RX3 TX3 11 := ⟨rfl, by decide, by decide +kernel, by decide +kernel⟩
theorem fX4_of_85 : yF wsX4_of RX4 85 3 6 RX3 TX3 11 := ⟨rfl, by decide, by decide +kernel, by decide +kernel⟩
theorem fX4_of_88 : yF wsX4_of RX4 88 3 7 RX3 TX3 11 := ⟨rfl, by decide, by decide +kernel, by decide +kernel⟩
theorem fX4_of_91 : yF wsX4_of RX4 91 3 8 RX3 TX3 11 := ⟨rfl, by decide, by decide +kernel, by decide +kernel⟩
theorem fX4_of_94 : yF wsX4_of RX4 94 3 9 RX3 TX3 11 := ⟨rfl, by decide, by decide +kernel, by decide +kernel⟩
abbrev rmX4_of : Room := { frames := 1, cells := 0, slots := 0, locals := 21 }
theorem eX4_of : yY yX4_of wsX4_of cX4_of 3 (some .int) rmX4_of 2 := ⟨⟨_, rfl⟩, rfl, rfl, by decide, by decide, by decide +kernel⟩
set_option maxHeartbeats 4000000 in
set_option maxRecDepth 100000 in
theorem mX4_of {l : Launch} {D : va_G} {sz : Nat} {cI cJ cZ cW cR : ClassId} {h_t : Nat} {A_t : Nat → Nat} {A_t_now : Nat → Nat} {c_t_now_knots : Int32} {c_t_now_flows : Int32} {c_t_now_readSet : Int32} {c_t_now_from : Nat → Int32} {c_t_now_to : Nat → Int32} {c_t_now_reading : Nat → Int32} {c_t_now_miss : Nat → Int32} {c_t_now_price : Nat → Int32} {c_t_now_kind : Nat → Int32} {c_t_now_length : Nat → Int32} {x1 : Int32} {x2 : Int32} {r : Int32} (hf : fX4_of c_t_now_flows c_t_now_readSet c_t_now_from c_t_now_to c_t_now_reading c_t_now_miss c_t_now_price c_t_now_kind c_t_now_length x1 x2 = some r) : Met l yX4_of wsX4_of rmX4_of (yP D (yT cI cJ cZ cW cR) [(h_t, oM A_t), (A_t 0, oW A_t_now c_t_now_knots c_t_now_flows c_t_now_readSet), (A_t_now 0, eI cI 10 c_t_now_from), (A_t_now 1, eI cI 10 c_t_now_to), (A_t_now 2, eI cI 10 c_t_now_reading), (A_t_now 3, eI cI 10 c_t_now_miss), (A_t_now 4, eI cI 10 c_t_now_price), (A_t_now 5, eI cI 10 c_t_now_kind), (A_t_now 6, eI cI 10 c_t_now_length)] sz [.ref h_t, .int x1, .int x2]) (yQi D (yT cI cJ cZ cW cR) r [(h_t, oM A_t), (A_t 0, oW A_t_now c_t_now_knots c_t_now_flows c_t_now_readSet), (A_t_now 0, eI cI 10 c_t_now_from), (A_t_now 1, eI cI 10 c_t_now_to), (A_t_now 2, eI cI 10 c_t_now_reading), (A_t_now 3, eI cI 10 c_t_now_miss), (A_t_now 4, eI cI 10 c_t_now_price), (A_t_now 5, eI cI 10 c_t_now_kind), (A_t_now 6, eI cI 10 c_t_now_length)] (va_A [(h_t, oM A_t), (A_t 0, oW A_t_now c_t_now_knots c_t_now_flows c_t_now_readSet), (A_t_now 0, eI cI 10 c_t_now_from), (A_t_now 1, eI cI 10 c_t_now_to), (A_t_now 2, eI cI 10 c_t_now_reading), (A_t_now 3, eI cI 10 c_t_now_miss), (A_t_now 4, eI cI 10 c_t_now_price), (A_t_now 5, eI cI 10 c_t_now_kind), (A_t_now 6, eI cI 10 c_t_now_length)] sz)) 0 0 (va_A [(h_t, oM A_t), (A_t 0, oW A_t_now c_t_now_knots c_t_now_flows c_t_now_readSet), (A_t_now 0, eI cI 10 c_t_now_from), (A_t_now 1, eI cI 10 c_t_now_to), (A_t_now 2, eI cI 10 c_t_now_reading), (A_t_now 3, eI cI 10 c_t_now_miss), (A_t_now 4, eI cI 10 c_t_now_price), (A_t_now 5, eI cI 10 c_t_now_kind), (A_t_now 6, eI cI 10 c_t_now_length)] sz) := by
  refine yM (cc := cX4_of) (maxL := 3) (ret := (some .int)) RX4 (by decide) rfl rfl (Nat.le_of_ble_eq_true rfl) ?_
  intro p e s m below meth c Γ hr
  show yG p l e (headSpec wsX4_of rmX4_of).room s m (List.toArray [.ref h_t, .int x1, .int x2]) below meth c D (va_A [(h_t, oM A_t), (A_t 0, oW A_t_now c_t_now_knots c_t_now_flows c_t_now_readSet), (A_t_now 0, eI cI 10 c_t_now_from), (A_t_now 1, eI cI 10 c_t_now_to), (A_t_now 2, eI cI 10 c_t_now_reading), (A_t_now 3, eI cI 10 c_t_now_miss), (A_t_now 4, eI cI 10 c_t_now_price), (A_t_now 5, eI cI 10 c_t_now_kind), (A_t_now 6, eI cI 10 c_t_now_length)] sz) 3 0 0 (MQ below (yQi D (yT cI cJ cZ cW cR) r [(h_t, oM A_t), (A_t 0, oW A_t_now c_t_now_knots c_t_now_flows c_t_now_readSet), (A_t_now 0, eI cI 10 c_t_now_from), (A_t_now 1, eI cI 10 c_t_now_to), (A_t_now 2, eI cI 10 c_t_now_reading), (A_t_now 3, eI cI 10 c_t_now_miss), (A_t_now 4, eI cI 10 c_t_now_price), (A_t_now 5, eI cI 10 c_t_now_kind), (A_t_now 6, eI cI 10 c_t_now_length)] (va_A [(h_t, oM A_t), (A_t 0, oW A_t_now c_t_now_knots c_t_now_flows c_t_now_readSet), (A_t_now 0, eI cI 10 c_t_now_from), (A_t_now 1, eI cI 10 c_t_now_to), (A_t_now 2, eI cI 10 c_t_now_reading), (A_t_now 3, eI cI 10 c_t_now_miss), (A_t_now 4, eI cI 10 c_t_now_price), (A_t_now 5, eI cI 10 c_t_now_kind), (A_t_now 6, eI cI 10 c_t_now_length)] sz)) (List.toArray [.ref h_t, .int x1, .int x2]) s 0 0 (va_A [(h_t, oM A_t), (A_t 0, oW A_t_now c_t_now_knots c_t_now_flows c_t_now_readSet), (A_t_now 0, eI cI 10 c_t_now_from), (A_t_now 1, eI cI 10 c_t_now_to), (A_t_now 2, eI cI 10 c_t_now_reading), (A_t_now 3, eI cI 10 c_t_now_miss), (A_t_now 4, eI cI 10 c_t_now_price), (A_t_now 5, eI cI 10 c_t_now_kind), (A_t_now 6, eI cI 10 c_t_now_length)] sz)) 0 [(0, .ref h_t), (1, .int x1), (2, .int x2)] [] [(h_t, oM A_t), (A_t 0, oW A_t_now c_t_now_knots c_t_now_flows c_t_now_readSet), (A_t_now 0, eI cI 10 c_t_now_from), (A_t_now 1, eI cI 10 c_t_now_to), (A_t_now 2, eI cI 10 c_t_now_reading), (A_t_now 3, eI cI 10 c_t_now_miss), (A_t_now 4, eI cI 10 c_t_now_price), (A_t_now 5, eI cI 10 c_t_now_kind), (A_t_now 6, eI cI 10 c_t_now_length)]
  unfold fX4_of at hf
  refine g_aload_n Γ 0 dX4_of_0 rfl ?_
  refine g_iload_n Γ 1 dX4_of_1 rfl ?_
  obtain ⟨v1, e2, hf⟩ := ya_ob hf
  refine g_vi (q := (RX4, TX4, 7)) (wr := [(A_t_now 0, eI cI 10 c_t_now_from), (A_t_now 1, eI cI 10 c_t_now_to), (A_t_now 2, eI cI 10 c_t_now_reading), (A_t_now 3, eI cI 10 c_t_now_miss), (A_t_now 4, eI cI 10 c_t_now_price), (A_t_now 5, eI cI 10 c_t_now_kind), (A_t_now 6, eI cI 10 c_t_now_length)]) (ws' := [(A_t_now 0, eI cI 10 c_t_now_from), (A_t_now 1, eI cI 10 c_t_now_to), (A_t_now 2, eI cI 10 c_t_now_reading), (A_t_now 3, eI cI 10 c_t_now_miss), (A_t_now 4, eI cI 10 c_t_now_price), (A_t_now 5, eI cI 10 c_t_now_kind), (A_t_now 6, eI cI 10 c_t_now_length), (h_t, oM A_t), (A_t 0, oW A_t_now c_t_now_knots c_t_now_flows c_t_now_readSet)]) Γ (fun sz => mX4_isFlow (l := l) (D := D) (sz := sz) (cI := cI) (cJ := cJ) (cZ := cZ) (cW := cW) (cR := cR) (h_t := h_t) (A_t := A_t) (A_t_now := A_t_now) (hf := e2)) eX4_isFlow gX4_of_X4_isFlow rfl rfl 0 rfl rfl rfl (Nat.le_of_ble_eq_true rfl) ⟨Nat.le_of_ble_eq_true rfl, Nat.le_of_ble_eq_true rfl⟩ dX4_of_2 [0, 1] [2, 3, 4, 5, 6, 7, 8] rfl rfl rfl rfl (by decide) rfl ?_
  refine g_if_ne Γ 10 dX4_of_5 (by decide) (fun c3 => ?_) (fun c3 => ?_)
  · have hf := ya_if2 c3 hf
    refine g_iload_n Γ 2 dX4_of_10 rfl ?_
    by_cases c11_0 : x2 = 0
    · have hf := ya_if1 c11_0 hf
      refine g_tableIn (v := 0) (off := 45) Γ 56 dX4_of_11 c11_0 (by decide) (by decide) (by decide +kernel) (by decide) ?_
      refine g_aload_n Γ 0 dX4_of_56 rfl ?_
      refine g_get Γ fX4_of_10 7 rfl rfl dX4_of_57 ?_
      refine g_get Γ fX4_of_140 8 rfl rfl dX4_of_60 ?_
      refine g_iload_n Γ 1 dX4_of_63 rfl ?_
      obtain ⟨v4, e5, hf⟩ := ya_ob hf
      refine g_iald Γ e5 0 0 rfl rfl dX4_of_64 ?_
      cases hf
      exact g_iret Γ hr dX4_of_65 [7, 8, 0, 1, 2, 3, 4, 5, 6] rfl rfl
    · have hf := ya_if2 c11_0 hf
      by_cases c11_1 : x2 = 1
      · have hf := ya_if1 c11_1 hf
        refine g_tableIn (v := 1) (off := 55) Γ 66 dX4_of_11 c11_1 (by decide) (by decide) (by decide +kernel) (by decide) ?_
        refine g_aload_n Γ 0 dX4_of_66 rfl ?_
        refine g_get Γ fX4_of_10 7 rfl rfl dX4_of_67 ?_
        refine g_get Γ fX4_of_143 8 rfl rfl dX4_of_70 ?_
        refine g_iload_n Γ 1 dX4_of_73 rfl ?_
        obtain ⟨v6, e7, hf⟩ := ya_ob hf
        refine g_iald Γ e7 1 0 rfl rfl dX4_of_74 ?_
        cases hf
        exact g_iret Γ hr dX4_of_75 [7, 8, 0, 1, 2, 3, 4, 5, 6] rfl rfl
      · have hf := ya_if2 c11_1 hf
        by_cases c11_2 : x2 = 2
        · have hf := ya_if1 c11_2 hf
          refine g_tableIn (v := 2) (off := 65) Γ 76 dX4_of_11 c11_2 (by decide) (by decide) (by decide +kernel) (by decide) ?_
          refine g_aload_n Γ 0 dX4_of_76 rfl ?_
          refine g_get Γ fX4_of_10 7 rfl rfl dX4_of_77 ?_
          refine g_get Γ fX4_of_75 8 rfl rfl dX4_of_80 ?_
          refine g_iload_n Γ 1 dX4_of_83 rfl ?_
          obtain ⟨v8, e9, hf⟩ := ya_ob hf
          refine g_si (wr := [(A_t_now 0, eI cI 10 c_t_now_from), (A_t_now 1, eI cI 10 c_t_now_to), (A_t_now 2, eI cI 10 c_t_now_reading), (A_t_now 3, eI cI 10 c_t_now_miss), (A_t_now 4, eI cI 10 c_t_now_price), (A_t_now 5, eI cI 10 c_t_now_kind), (A_t_now 6, eI cI 10 c_t_now_length), (h_t, oM A_t), (A_t 0, oW A_t_now c_t_now_knots c_t_now_flows c_t_now_readSet)]) (ws' := [(A_t_now 0, eI cI 10 c_t_now_from), (A_t_now 1, eI cI 10 c_t_now_to), (A_t_now 2, eI cI 10 c_t_now_reading), (A_t_now 3, eI cI 10 c_t_now_miss), (A_t_now 4, eI cI 10 c_t_now_price), (A_t_now 5, eI cI 10 c_t_now_kind), (A_t_now 6, eI cI 10 c_t_now_length), (h_t, oM A_t), (A_t 0, oW A_t_now c_t_now_knots c_t_now_flows c_t_now_readSet)]) Γ (fun sz => mX4_holds (l := l) (D := D) (sz := sz) (cI := cI) (cJ := cJ) (cZ := cZ) (cW := cW) (cR := cR)  (hf := e9)) eX4_holds ggX4_of_X4_holds (by decide +kernel) (by decide +kernel) (by decide +kernel) rfl rfl (Nat.le_of_ble_eq_true rfl) ⟨Nat.le_of_ble_eq_true rfl, Nat.le_of_ble_eq_true rfl⟩ dX4_of_84 [] [0, 1, 2, 3, 4, 5, 6, 7, 8] rfl rfl rfl rfl (by decide) rfl ?_
          refine g_if_eq Γ 94 dX4_of_87 (by decide) (fun c10 => ?_) (fun c10 => ?_)
          · have hf := ya_if1 c10 hf
            refine g_iconst (v := 0) Γ dX4_of_94 (by decide) ?_
            cases hf
            exact g_iret Γ hr dX4_of_95 [7, 8, 0, 1, 2, 3, 4, 5, 6] rfl rfl
          · have hf := ya_if2 c10 hf
            refine g_iconst (v := 1) Γ dX4_of_90 (by decide) ?_
            refine g_goto Γ 95 dX4_of_91 (by decide) ?_
            cases hf
            exact g_iret Γ hr dX4_of_95 [7, 8, 0, 1, 2, 3, 4, 5, 6] rfl rfl
        · have hf := ya_if2 c11_2 hf
          by_cases c11_3 : x2 = 3
          · have hf := ya_if1 c11_3 hf
            refine g_tableIn (v := 3) (off := 85) Γ 96 dX4_of_11 c11_3 (by decide) (by decide) (by decide +kernel) (by decide) ?_
            refine g_aload_n Γ 0 dX4_of_96 rfl ?_
            refine g_get Γ fX4_of_10 7 rfl rfl dX4_of_97 ?_
            refine g_get Γ fX4_of_146 8 rfl rfl dX4_of_100 ?_
            refine g_iload_n Γ 1 dX4_of_103 rfl ?_
            obtain ⟨v11, e12, hf⟩ := ya_ob hf
            refine g_iald Γ e12 2 0 rfl rfl dX4_of_104 ?_
            cases hf
            exact g_iret Γ hr dX4_of_105 [7, 8, 0, 1, 2, 3, 4, 5, 6] rfl rfl
          · have hf := ya_if2 c11_3 hf
            by_cases c11_4 : x2 = 4
            · have hf := ya_if1 c11_4 hf
              refine g_tableIn (v := 4) (off := 95) Γ 106 dX4_of_11 c11_4 (by decide) (by decide) (by decide +kernel) (by decide) ?_
              refine g_aload_n Γ 0 dX4_of_106 rfl ?_
              refine g_get Γ fX4_of_10 7 rfl rfl dX4_of_107 ?_
              refine g_get Γ fX4_of_85 8 rfl rfl dX4_of_110 ?_
              refine g_iload_n Γ 1 dX4_of_113 rfl ?_
              obtain ⟨v13, e14, hf⟩ := ya_ob hf
              refine g_iald Γ e14 3 0 rfl rfl dX4_of_114 ?_
              cases hf
              exact g_iret Γ hr dX4_of_115 [7, 8, 0, 1, 2, 3, 4, 5, 6] rfl rfl
            · have hf := ya_if2 c11_4 hf
              by_cases c11_5 : x2 = 5
              · have hf := ya_if1 c11_5 hf
                refine g_tableIn (v := 5) (off := 105) Γ 116 dX4_of_11 c11_5 (by decide) (by decide) (by decide +kernel) (by decide) ?_
                refine g_aload_n Γ 0 dX4_of_116 rfl ?_
                refine g_get Γ fX4_of_10 7 rfl rfl dX4_of_117 ?_
                refine g_get Γ fX4_of_88 8 rfl rfl dX4_of_120 ?_
                refine g_iload_n Γ 1 dX4_of_123 rfl ?_
                obtain ⟨v15, e16, hf⟩ := ya_ob hf
                refine g_iald Γ e16 4 0 rfl rfl dX4_of_124 ?_
                cases hf
                exact g_iret Γ hr dX4_of_125 [7, 8, 0, 1, 2, 3, 4, 5, 6] rfl rfl
              · have hf := ya_if2 c11_5 hf
                by_cases c11_6 : x2 = 6
                · have hf := ya_if1 c11_6 hf
                  refine g_tableIn (v := 6) (off := 115) Γ 126 dX4_of_11 c11_6 (by decide) (by decide) (by decide +kernel) (by decide) ?_
                  refine g_aload_n Γ 0 dX4_of_126 rfl ?_
                  refine g_get Γ fX4_of_10 7 rfl rfl dX4_of_127 ?_
                  refine g_get Γ fX4_of_91 8 rfl rfl dX4_of_130 ?_
                  refine g_iload_n Γ 1 dX4_of_133 rfl ?_
                  obtain ⟨v17, e18, hf⟩ := ya_ob hf
                  refine g_iald Γ e18 5 0 rfl rfl dX4_of_134 ?_
                  cases hf
                  exact g_iret Γ hr dX4_of_135 [7, 8, 0, 1, 2, 3, 4, 5, 6] rfl rfl
                · have hf := ya_if2 c11_6 hf
                  by_cases c11_7 : x2 = 7
                  · have hf := ya_if1 c11_7 hf
                    refine g_tableIn (v := 7) (off := 125) Γ 136 dX4_of_11 c11_7 (by decide) (by decide) (by decide +kernel) (by decide) ?_
                    refine g_aload_n Γ 0 dX4_of_136 rfl ?_
                    refine g_get Γ fX4_of_10 7 rfl rfl dX4_of_137 ?_
                    refine g_get Γ fX4_of_94 8 rfl rfl dX4_of_140 ?_
                    refine g_iload_n Γ 1 dX4_of_143 rfl ?_
                    obtain ⟨v19, e20, hf⟩ := ya_ob hf
                    refine g_iald Γ e20 6 0 rfl rfl dX4_of_144 ?_
                    cases hf
                    exact g_iret Γ hr dX4_of_145 [7, 8, 0, 1, 2, 3, 4, 5, 6] rfl rfl
                  · have hf := ya_if2 c11_7 hf
                    refine g_tableOut Γ 146 dX4_of_11 (ya_out7 c11_0 c11_1 c11_2 c11_3 c11_4 c11_5 c11_6 c11_7) (by decide) ?_
                    refine g_iconst (v := (-1)) Γ dX4_of_146 (by decide) ?_
                    cases hf
                    exact g_iret Γ hr dX4_of_147 [7, 8, 0, 1, 2, 3, 4, 5, 6] rfl rfl
  · have hf := ya_if1 c3 hf
    refine g_iconst (v := (-1)) Γ dX4_of_8 (by decide) ?_
    cases hf
    exact g_iret Γ hr dX4_of_9 [7, 8, 0, 1, 2, 3, 4, 5, 6] rfl rfl

set_option maxRecDepth 20000 in
theorem ggX4_heap_X4_isKnot : GoodIn wsX4_heap wsX4_isKnot := goodIn_r _ [8, 2, 9, 49, 50, 51, 52, 53, 54, 55, 57, 58, 59, 60, 61, 62, 63, 64, 65, 66, 67] rfl (by decide +kernel)
set_option maxRecDepth 20000 in
theorem gX4_heap_X4_isKnot : GoodIn wsX4_heap (wsV RX4 56 RX4 yX4_isKnot wsX4_isKnot) := goodIn_app (goodIn_of _ (by decide +kernel)) ggX4_heap_X4_isKnot
set_option maxRecDepth 20000 in
theorem ggX4_heap_X3_unreadSet : GoodIn wsX4_heap wsX3_unreadSet := goodIn_r _ [14, 15, 16, 17, 18, 13, 19, 20, 21, 7, 22, 57, 58, 59, 60, 61, 62, 63, 64, 65, 66, 67] rfl (by decide +kernel)
set_option maxRecDepth 20000 in
theorem gX4_heap_X3_unreadSet : GoodIn wsX4_heap (wsV RX4 120 RX3 yX3_unreadSet wsX3_unreadSet) := goodIn_app (goodIn_of _ (by decide +kernel)) ggX4_heap_X3_unreadSet
set_option maxRecDepth 20000 in
theorem ggX4_heap_X1_gather : GoodIn wsX4_heap wsX1_gather := goodIn_r _ [27, 28, 29, 30, 31, 32, 7, 33, 34, 35, 36, 26, 37, 38, 39, 40, 41, 42, 43, 44, 45, 46, 47, 48, 56, 57, 58, 59, 60, 61, 62, 63, 64, 65, 66, 67] rfl (by decide +kernel)
set_option maxRecDepth 20000 in
theorem gX4_heap_X1_gather : GoodIn wsX4_heap (wsV RX4 124 RX1 yX1_gather wsX1_gather) := goodIn_app (goodIn_of _ (by decide +kernel)) ggX4_heap_X1_gather
theorem dX4_heap_0 : decode cX4_heap 0 = .ok (.aload_n 0, 1) := by decide +kernel
theorem dX4_heap_1 : decode cX4_heap 1 = .ok (.iload_n 1, 1) := by decide +kernel
theorem dX4_heap_2 : decode cX4_heap 2 = .ok (.invokevirtual 56, 3) := by decide +kernel
theorem dX4_heap_5 : decode cX4_heap 5 = .ok (.ifCond .ne 5, 3) := by decide +kernel
theorem dX4_heap_8 : decode cX4_heap 8 = .ok (.iconst (-1), 1) := by decide +kernel
theorem dX4_heap_9 : decode cX4_heap 9 = .ok (.ireturn, 1) := by decide +kernel
theorem dX4_heap_10 : decode cX4_heap 10 = .ok (.aload_n 0, 1) := by decide +kernel
theorem dX4_heap_11 : decode cX4_heap 11 = .ok (.getfield 26, 3) := by decide +kernel
theorem dX4_heap_14 : decode cX4_heap 14 = .ok (.aload_n 0, 1) := by decide +kernel
theorem dX4_heap_15 : decode cX4_heap 15 = .ok (.getfield 10, 3) := by decide +kernel
theorem dX4_heap_18 : decode cX4_heap 18 = .ok (.aload_n 0, 1) := by decide +kernel
theorem dX4_heap_19 : decode cX4_heap 19 = .ok (.getfield 10, 3) := by decide +kernel
theorem dX4_heap_22 : decode cX4_heap 22 = .ok (.invokevirtual 120, 3) := by decide +kernel
theorem dX4_heap_25 : decode cX4_heap 25 = .ok (.invokevirtual 124, 3) := by decide +kernel
theorem dX4_heap_28 : decode cX4_heap 28 = .ok (.pop, 1) := by decide +kernel
theorem dX4_heap_29 : decode cX4_heap 29 = .ok (.aload_n 0, 1) := by decide +kernel
theorem dX4_heap_30 : decode cX4_heap 30 = .ok (.getfield 26, 3) := by decide +kernel
theorem dX4_heap_33 : decode cX4_heap 33 = .ok (.getfield 149, 3) := by decide +kernel
theorem dX4_heap_36 : decode cX4_heap 36 = .ok (.iload_n 1, 1) := by decide +kernel
theorem dX4_heap_37 : decode cX4_heap 37 = .ok (.iaload, 1) := by decide +kernel
theorem dX4_heap_38 : decode cX4_heap 38 = .ok (.ireturn, 1) := by decide +kernel
/-! ===== FlowMeters.heap(I)I ===== -/
def fX4_heap (N : Nat) (c_t_now_knots : Int32) (c_t_now_flows : Int32) (c_t_now_readSet : Int32) (c_t_now_from : Nat → Int32) (c_t_now_to : Nat → Int32) (c_t_groups_least : Nat → Int32) (x1 : Int32) : Option (Int32 × (Nat → Int32)) :=
  (fX4_isKnot c_t_now_knots x1).bind fun v1 =>
  (if v1 = 0 then
    some ((-1), c_t_groups_least)
  else
    (fX3_unreadSet c_t_now_flows c_t_now_readSet).bind fun v4 =>
    (fX1_gather N c_t_groups_least c_t_now_flows c_t_now_from c_t_now_to v4).bind fun (v6, v7) =>
    (ya_rd v7 6 x1).bind fun v9 =>
    some (v9, v7))
theorem fX4_heap_26 : yF wsX4_heap RX4 26 4 2 RX4 TX4 7 := ⟨rfl, by decide, by decide +kernel, by decide +kernel⟩
theorem fX4_heap_10 : yF wsX4_heap RX4 10 4 0 RX4 TX4 7 := ⟨rfl, by decide, by decide +kernel, by decide +kernel⟩
theorem fX4_heap_149 : yF wsX4_heap RX4 149 1 0 RX1 TX1 1 := ⟨rfl, by decide, by decide +kernel, by decide +kernel⟩
abbrev rmX4_heap : Room := { frames := 3, cells := 0, slots := 0, locals := 97 }
theorem eX4_heap : yY yX4_heap wsX4_heap cX4_heap 2 (some .int) rmX4_heap 1 := ⟨⟨_, rfl⟩, rfl, rfl, by decide, by decide, by decide +kernel⟩
set_option maxHeartbeats 4000000 in
set_option maxRecDepth 100000 in
theorem mX4_heap {l : Launch} {D : va_G} {sz : Nat} {cI cJ cZ cW cR : ClassId} {N : Nat} {h_t : Nat} {A_t : Nat → Nat} {A_t_now : Nat → Nat} {A_t_groups : Nat → Nat} {c_t_now_knots : Int32} {c_t_now_flows : Int32} {c_t_now_readSet : Int32} {c_t_now_from : Nat → Int32} {c_t_now_to : Nat → Int32} {c_t_groups_least : Nat → Int32} {x1 : Int32} {r : Int32} {zc_t_groups_least : Nat → Int32} (hf : fX4_heap N c_t_now_knots c_t_now_flows c_t_now_readSet c_t_now_from c_t_now_to c_t_groups_least x1 = some (r, zc_t_groups_least)) : Met l yX4_heap wsX4_heap rmX4_heap (yP D (yT cI cJ cZ cW cR) [(h_t, oM A_t), (A_t 0, oW A_t_now c_t_now_knots c_t_now_flows c_t_now_readSet), (A_t_now 0, eI cI 10 c_t_now_from), (A_t_now 1, eI cI 10 c_t_now_to), (A_t 2, oG A_t_groups), (A_t_groups 0, eI cI 6 c_t_groups_least)] sz [.ref h_t, .int x1]) (yQi D (yT cI cJ cZ cW cR) r [(h_t, oM A_t), (A_t 0, oW A_t_now c_t_now_knots c_t_now_flows c_t_now_readSet), (A_t_now 0, eI cI 10 c_t_now_from), (A_t_now 1, eI cI 10 c_t_now_to), (A_t 2, oG A_t_groups), (A_t_groups 0, eI cI 6 zc_t_groups_least)] (va_A [(h_t, oM A_t), (A_t 0, oW A_t_now c_t_now_knots c_t_now_flows c_t_now_readSet), (A_t_now 0, eI cI 10 c_t_now_from), (A_t_now 1, eI cI 10 c_t_now_to), (A_t 2, oG A_t_groups), (A_t_groups 0, eI cI 6 c_t_groups_least)] sz)) 0 0 (va_A [(h_t, oM A_t), (A_t 0, oW A_t_now c_t_now_knots c_t_now_flows c_t_now_readSet), (A_t_now 0, eI cI 10 c_t_now_from), (A_t_now 1, eI cI 10 c_t_now_to), (A_t 2, oG A_t_groups), (A_t_groups 0, eI cI 6 c_t_groups_least)] sz) := by
  refine yM (cc := cX4_heap) (maxL := 2) (ret := (some .int)) RX4 (by decide) rfl rfl (Nat.le_of_ble_eq_true rfl) ?_
  intro p e s m below meth c Γ hr
  show yG p l e (headSpec wsX4_heap rmX4_heap).room s m (List.toArray [.ref h_t, .int x1]) below meth c D (va_A [(h_t, oM A_t), (A_t 0, oW A_t_now c_t_now_knots c_t_now_flows c_t_now_readSet), (A_t_now 0, eI cI 10 c_t_now_from), (A_t_now 1, eI cI 10 c_t_now_to), (A_t 2, oG A_t_groups), (A_t_groups 0, eI cI 6 c_t_groups_least)] sz) 2 0 0 (MQ below (yQi D (yT cI cJ cZ cW cR) r [(h_t, oM A_t), (A_t 0, oW A_t_now c_t_now_knots c_t_now_flows c_t_now_readSet), (A_t_now 0, eI cI 10 c_t_now_from), (A_t_now 1, eI cI 10 c_t_now_to), (A_t 2, oG A_t_groups), (A_t_groups 0, eI cI 6 zc_t_groups_least)] (va_A [(h_t, oM A_t), (A_t 0, oW A_t_now c_t_now_knots c_t_now_flows c_t_now_readSet), (A_t_now 0, eI cI 10 c_t_now_from), (A_t_now 1, eI cI 10 c_t_now_to), (A_t 2, oG A_t_groups), (A_t_groups 0, eI cI 6 c_t_groups_least)] sz)) (List.toArray [.ref h_t, .int x1]) s 0 0 (va_A [(h_t, oM A_t), (A_t 0, oW A_t_now c_t_now_knots c_t_now_flows c_t_now_readSet), (A_t_now 0, eI cI 10 c_t_now_from), (A_t_now 1, eI cI 10 c_t_now_to), (A_t 2, oG A_t_groups), (A_t_groups 0, eI cI 6 c_t_groups_least)] sz)) 0 [(0, .ref h_t), (1, .int x1)] [] [(h_t, oM A_t), (A_t 0, oW A_t_now c_t_now_knots c_t_now_flows c_t_now_readSet), (A_t_now 0, eI cI 10 c_t_now_from), (A_t_now 1, eI cI 10 c_t_now_to), (A_t 2, oG A_t_groups), (A_t_groups 0, eI cI 6 c_t_groups_least)]
  unfold fX4_heap at hf
  refine g_aload_n Γ 0 dX4_heap_0 rfl ?_
  refine g_iload_n Γ 1 dX4_heap_1 rfl ?_
  obtain ⟨v1, e2, hf⟩ := ya_ob hf
  refine g_vi (q := (RX4, TX4, 7)) (wr := [(A_t_now 0, eI cI 10 c_t_now_from), (A_t_now 1, eI cI 10 c_t_now_to), (A_t 2, oG A_t_groups), (A_t_groups 0, eI cI 6 c_t_groups_least)]) (ws' := [(A_t_now 0, eI cI 10 c_t_now_from), (A_t_now 1, eI cI 10 c_t_now_to), (A_t 2, oG A_t_groups), (A_t_groups 0, eI cI 6 c_t_groups_least), (h_t, oM A_t), (A_t 0, oW A_t_now c_t_now_knots c_t_now_flows c_t_now_readSet)]) Γ (fun sz => mX4_isKnot (l := l) (D := D) (sz := sz) (cI := cI) (cJ := cJ) (cZ := cZ) (cW := cW) (cR := cR) (h_t := h_t) (A_t := A_t) (A_t_now := A_t_now) (hf := e2)) eX4_isKnot gX4_heap_X4_isKnot rfl rfl 0 rfl rfl rfl (Nat.le_of_ble_eq_true rfl) ⟨Nat.le_of_ble_eq_true rfl, Nat.le_of_ble_eq_true rfl⟩ dX4_heap_2 [0, 1] [2, 3, 4, 5] rfl rfl rfl rfl (by decide) rfl ?_
  refine g_if_ne Γ 10 dX4_heap_5 (by decide) (fun c3 => ?_) (fun c3 => ?_)
  · have hf := ya_if2 c3 hf
    refine g_aload_n Γ 0 dX4_heap_10 rfl ?_
    refine g_get Γ fX4_heap_26 4 rfl rfl dX4_heap_11 ?_
    refine g_aload_n Γ 0 dX4_heap_14 rfl ?_
    refine g_get Γ fX4_heap_10 4 rfl rfl dX4_heap_15 ?_
    refine g_aload_n Γ 0 dX4_heap_18 rfl ?_
    refine g_get Γ fX4_heap_10 4 rfl rfl dX4_heap_19 ?_
    obtain ⟨v4, e5, hf⟩ := ya_ob hf
    refine g_vi (q := (RX3, TX3, 11)) (wr := [(A_t_now 0, eI cI 10 c_t_now_from), (A_t_now 1, eI cI 10 c_t_now_to), (A_t 2, oG A_t_groups), (A_t_groups 0, eI cI 6 c_t_groups_least), (h_t, oM A_t)]) (ws' := [(A_t_now 0, eI cI 10 c_t_now_from), (A_t_now 1, eI cI 10 c_t_now_to), (A_t 2, oG A_t_groups), (A_t_groups 0, eI cI 6 c_t_groups_least), (h_t, oM A_t), (A_t 0, oW A_t_now c_t_now_knots c_t_now_flows c_t_now_readSet)]) Γ (fun sz => mX3_unreadSet (l := l) (D := D) (sz := sz) (cI := cI) (cJ := cJ) (cZ := cZ) (cW := cW) (cR := cR) (h_t := A_t 0) (A_t := A_t_now) (hf := e5)) eX3_unreadSet gX4_heap_X3_unreadSet rfl rfl 0 rfl rfl rfl (Nat.le_of_ble_eq_true rfl) ⟨Nat.le_of_ble_eq_true rfl, Nat.le_of_ble_eq_true rfl⟩ dX4_heap_22 [5] [0, 1, 2, 3, 4] rfl rfl rfl rfl (by decide) rfl ?_
    obtain ⟨⟨v6, v7⟩, e8, hf⟩ := ya_ob hf
    refine g_vi (q := (RX1, TX1, 1)) (wr := [(h_t, oM A_t)]) (ws' := [(h_t, oM A_t), (A_t 2, oG A_t_groups), (A_t_groups 0, eI cI 6 v7), (A_t 0, oW A_t_now c_t_now_knots c_t_now_flows c_t_now_readSet), (A_t_now 0, eI cI 10 c_t_now_from), (A_t_now 1, eI cI 10 c_t_now_to)]) Γ (fun sz => mX1_gather (l := l) (D := D) (sz := sz) (cI := cI) (cJ := cJ) (cZ := cZ) (cW := cW) (cR := cR) (h_t := A_t 2) (h_w := A_t 0) (A_t := A_t_groups) (A_w := A_t_now) (hf := e8)) eX1_gather gX4_heap_X1_gather rfl rfl 0 rfl rfl rfl (Nat.le_of_ble_eq_true rfl) ⟨Nat.le_of_ble_eq_true rfl, Nat.le_of_ble_eq_true rfl⟩ dX4_heap_25 [2, 3, 5, 0, 1] [4] rfl rfl rfl rfl (by decide) rfl ?_
    refine g_pop Γ dX4_heap_28 rfl ?_
    refine g_aload_n Γ 0 dX4_heap_29 rfl ?_
    refine g_get Γ fX4_heap_26 0 rfl rfl dX4_heap_30 ?_
    refine g_get Γ fX4_heap_149 1 rfl rfl dX4_heap_33 ?_
    refine g_iload_n Γ 1 dX4_heap_36 rfl ?_
    obtain ⟨v9, e10, hf⟩ := ya_ob hf
    refine g_iald Γ e10 2 0 rfl rfl dX4_heap_37 ?_
    cases hf
    exact g_iret Γ hr dX4_heap_38 [0, 3, 4, 5, 1, 2] rfl rfl
  · have hf := ya_if1 c3 hf
    refine g_iconst (v := (-1)) Γ dX4_heap_8 (by decide) ?_
    cases hf
    exact g_iret Γ hr dX4_heap_9 [4, 5, 0, 1, 2, 3] rfl rfl

set_option maxRecDepth 20000 in
theorem ggX4_seen_X4_isFlow : GoodIn wsX4_seen wsX4_isFlow := goodIn_r _ [5, 6, 7, 56, 57, 58, 59, 60, 61, 62, 63, 64, 65, 66, 67, 68, 69, 70, 71, 72, 73] rfl (by decide +kernel)
set_option maxRecDepth 20000 in
theorem gX4_seen_X4_isFlow : GoodIn wsX4_seen (wsV RX4 68 RX4 yX4_isFlow wsX4_isFlow) := goodIn_app (goodIn_of _ (by decide +kernel)) ggX4_seen_X4_isFlow
set_option maxRecDepth 20000 in
theorem ggX4_seen_X4_isSeen : GoodIn wsX4_seen wsX4_isSeen := goodIn_r _ [11, 6, 12, 13, 14, 15, 4, 16, 17, 18, 19, 20, 21, 22, 23, 24, 25, 26, 27, 28, 29, 30, 31, 32, 33, 34, 35, 36, 37, 38, 39, 40, 41, 42, 43, 44, 45, 46, 47, 48, 49, 50, 51, 52, 53, 54, 55, 56, 57, 58, 59, 60, 61, 62, 63, 64, 65, 66, 67, 68, 69, 70, 71, 72, 73, 74] rfl (by decide +kernel)
set_option maxRecDepth 20000 in
theorem gX4_seen_X4_isSeen : GoodIn wsX4_seen (wsV RX4 152 RX4 yX4_isSeen wsX4_isSeen) := goodIn_app (goodIn_of _ (by decide +kernel)) ggX4_seen_X4_isSeen
theorem dX4_seen_0 : decode cX4_seen 0 = .ok (.aload_n 0, 1) := by decide +kernel
theorem dX4_seen_1 : decode cX4_seen 1 = .ok (.iload_n 1, 1) := by decide +kernel
theorem dX4_seen_2 : decode cX4_seen 2 = .ok (.invokevirtual 68, 3) := by decide +kernel
theorem dX4_seen_5 : decode cX4_seen 5 = .ok (.ifCond .ne 5, 3) := by decide +kernel
theorem dX4_seen_8 : decode cX4_seen 8 = .ok (.iconst (-1), 1) := by decide +kernel
theorem dX4_seen_9 : decode cX4_seen 9 = .ok (.ireturn, 1) := by decide +kernel
theorem dX4_seen_10 : decode cX4_seen 10 = .ok (.aload_n 0, 1) := by decide +kernel
theorem dX4_seen_11 : decode cX4_seen 11 = .ok (.iload_n 1, 1) := by decide +kernel
theorem dX4_seen_12 : decode cX4_seen 12 = .ok (.invokevirtual 152, 3) := by decide +kernel
theorem dX4_seen_15 : decode cX4_seen 15 = .ok (.ifCond .eq 7, 3) := by decide +kernel
theorem dX4_seen_18 : decode cX4_seen 18 = .ok (.iconst 1, 1) := by decide +kernel
theorem dX4_seen_19 : decode cX4_seen 19 = .ok (.goto 4, 3) := by decide +kernel
theorem dX4_seen_22 : decode cX4_seen 22 = .ok (.iconst 0, 1) := by decide +kernel
theorem dX4_seen_23 : decode cX4_seen 23 = .ok (.ireturn, 1) := by decide +kernel
/-! ===== FlowMeters.seen(I)I ===== -/
def fX4_seen (N : Nat) (c_t_now_flows : Int32) (c_t_now_readSet : Int32) (c_t_now_from : Nat → Int32) (c_t_now_to : Nat → Int32) (c_t_groups_least : Nat → Int32) (x1 : Int32) : Option (Int32 × (Nat → Int32)) :=
  (fX4_isFlow c_t_now_flows x1).bind fun v1 =>
  (if v1 = 0 then
    some ((-1), c_t_groups_least)
  else
    (fX4_isSeen N c_t_now_flows c_t_now_readSet c_t_now_from c_t_now_to c_t_groups_least x1).bind fun (v4, v5) =>
    (if v4 = 0 then
      some (0, v5)
    else
      some (1, v5)))
abbrev rmX4_seen : Room := { frames := 4, cells := 0, slots := 0, locals := 118 }
theorem eX4_seen : yY yX4_seen wsX4_seen cX4_seen 2 (some .int) rmX4_seen 1 := ⟨⟨_, rfl⟩, rfl, rfl, by decide, by decide, by decide +kernel⟩
set_option maxHeartbeats 4000000 in
set_option maxRecDepth 100000 in
theorem mX4_seen {l : Launch} {D : va_G} {sz : Nat} {cI cJ cZ cW cR : ClassId} {N : Nat} {h_t : Nat} {A_t : Nat → Nat} {A_t_now : Nat → Nat} {A_t_groups : Nat → Nat} {c_t_now_knots : Int32} {c_t_now_flows : Int32} {c_t_now_readSet : Int32} {c_t_now_from : Nat → Int32} {c_t_now_to : Nat → Int32} {c_t_groups_least : Nat → Int32} {x1 : Int32} {r : Int32} {zc_t_groups_least : Nat → Int32} (hf : fX4_seen N c_t_now_flows c_t_now_readSet c_t_now_from c_t_now_to c_t_groups_least x1 = some (r, zc_t_groups_least)) : Met l yX4_seen wsX4_seen rmX4_seen (yP D (yT cI cJ cZ cW cR) [(h_t, oM A_t), (A_t 0, oW A_t_now c_t_now_knots c_t_now_flows c_t_now_readSet), (A_t_now 0, eI cI 10 c_t_now_from), (A_t_now 1, eI cI 10 c_t_now_to), (A_t 2, oG A_t_groups), (A_t_groups 0, eI cI 6 c_t_groups_least)] sz [.ref h_t, .int x1]) (yQi D (yT cI cJ cZ cW cR) r [(h_t, oM A_t), (A_t 0, oW A_t_now c_t_now_knots c_t_now_flows c_t_now_readSet), (A_t_now 0, eI cI 10 c_t_now_from), (A_t_now 1, eI cI 10 c_t_now_to), (A_t 2, oG A_t_groups), (A_t_groups 0, eI cI 6 zc_t_groups_least)] (va_A [(h_t, oM A_t), (A_t 0, oW A_t_now c_t_now_knots c_t_now_flows c_t_now_readSet), (A_t_now 0, eI cI 10 c_t_now_from), (A_t_now 1, eI cI 10 c_t_now_to), (A_t 2, oG A_t_groups), (A_t_groups 0, eI cI 6 c_t_groups_least)] sz)) 0 0 (va_A [(h_t, oM A_t), (A_t 0, oW A_t_now c_t_now_knots c_t_now_flows c_t_now_readSet), (A_t_now 0, eI cI 10 c_t_now_from), (A_t_now 1, eI cI 10 c_t_now_to), (A_t 2, oG A_t_groups), (A_t_groups 0, eI cI 6 c_t_groups_least)] sz) := by
  refine yM (cc := cX4_seen) (maxL := 2) (ret := (some .int)) RX4 (by decide) rfl rfl (Nat.le_of_ble_eq_true rfl) ?_
  intro p e s m below meth c Γ hr
  show yG p l e (headSpec wsX4_seen rmX4_seen).room s m (List.toArray [.ref h_t, .int x1]) below meth c D (va_A [(h_t, oM A_t), (A_t 0, oW A_t_now c_t_now_knots c_t_now_flows c_t_now_readSet), (A_t_now 0, eI cI 10 c_t_now_from), (A_t_now 1, eI cI 10 c_t_now_to), (A_t 2, oG A_t_groups), (A_t_groups 0, eI cI 6 c_t_groups_least)] sz) 2 0 0 (MQ below (yQi D (yT cI cJ cZ cW cR) r [(h_t, oM A_t), (A_t 0, oW A_t_now c_t_now_knots c_t_now_flows c_t_now_readSet), (A_t_now 0, eI cI 10 c_t_now_from), (A_t_now 1, eI cI 10 c_t_now_to), (A_t 2, oG A_t_groups), (A_t_groups 0, eI cI 6 zc_t_groups_least)] (va_A [(h_t, oM A_t), (A_t 0, oW A_t_now c_t_now_knots c_t_now_flows c_t_now_readSet), (A_t_now 0, eI cI 10 c_t_now_from), (A_t_now 1, eI cI 10 c_t_now_to), (A_t 2, oG A_t_groups), (A_t_groups 0, eI cI 6 c_t_groups_least)] sz)) (List.toArray [.ref h_t, .int x1]) s 0 0 (va_A [(h_t, oM A_t), (A_t 0, oW A_t_now c_t_now_knots c_t_now_flows c_t_now_readSet), (A_t_now 0, eI cI 10 c_t_now_from), (A_t_now 1, eI cI 10 c_t_now_to), (A_t 2, oG A_t_groups), (A_t_groups 0, eI cI 6 c_t_groups_least)] sz)) 0 [(0, .ref h_t), (1, .int x1)] [] [(h_t, oM A_t), (A_t 0, oW A_t_now c_t_now_knots c_t_now_flows c_t_now_readSet), (A_t_now 0, eI cI 10 c_t_now_from), (A_t_now 1, eI cI 10 c_t_now_to), (A_t 2, oG A_t_groups), (A_t_groups 0, eI cI 6 c_t_groups_least)]
  unfold fX4_seen at hf
  refine g_aload_n Γ 0 dX4_seen_0 rfl ?_
  refine g_iload_n Γ 1 dX4_seen_1 rfl ?_
  obtain ⟨v1, e2, hf⟩ := ya_ob hf
  refine g_vi (q := (RX4, TX4, 7)) (wr := [(A_t_now 0, eI cI 10 c_t_now_from), (A_t_now 1, eI cI 10 c_t_now_to), (A_t 2, oG A_t_groups), (A_t_groups 0, eI cI 6 c_t_groups_least)]) (ws' := [(A_t_now 0, eI cI 10 c_t_now_from), (A_t_now 1, eI cI 10 c_t_now_to), (A_t 2, oG A_t_groups), (A_t_groups 0, eI cI 6 c_t_groups_least), (h_t, oM A_t), (A_t 0, oW A_t_now c_t_now_knots c_t_now_flows c_t_now_readSet)]) Γ (fun sz => mX4_isFlow (l := l) (D := D) (sz := sz) (cI := cI) (cJ := cJ) (cZ := cZ) (cW := cW) (cR := cR) (h_t := h_t) (A_t := A_t) (A_t_now := A_t_now) (hf := e2)) eX4_isFlow gX4_seen_X4_isFlow rfl rfl 0 rfl rfl rfl (Nat.le_of_ble_eq_true rfl) ⟨Nat.le_of_ble_eq_true rfl, Nat.le_of_ble_eq_true rfl⟩ dX4_seen_2 [0, 1] [2, 3, 4, 5] rfl rfl rfl rfl (by decide) rfl ?_
  refine g_if_ne Γ 10 dX4_seen_5 (by decide) (fun c3 => ?_) (fun c3 => ?_)
  · have hf := ya_if2 c3 hf
    refine g_aload_n Γ 0 dX4_seen_10 rfl ?_
    refine g_iload_n Γ 1 dX4_seen_11 rfl ?_
    obtain ⟨⟨v4, v5⟩, e6, hf⟩ := ya_ob hf
    refine g_vi (q := (RX4, TX4, 7)) (wr := []) (ws' := [(h_t, oM A_t), (A_t 0, oW A_t_now c_t_now_knots c_t_now_flows c_t_now_readSet), (A_t_now 0, eI cI 10 c_t_now_from), (A_t_now 1, eI cI 10 c_t_now_to), (A_t 2, oG A_t_groups), (A_t_groups 0, eI cI 6 v5)]) Γ (fun sz => mX4_isSeen (l := l) (D := D) (sz := sz) (cI := cI) (cJ := cJ) (cZ := cZ) (cW := cW) (cR := cR) (h_t := h_t) (A_t := A_t) (A_t_now := A_t_now) (A_t_groups := A_t_groups) (hf := e6)) eX4_isSeen gX4_seen_X4_isSeen rfl rfl 0 rfl rfl rfl (Nat.le_of_ble_eq_true rfl) ⟨Nat.le_of_ble_eq_true rfl, Nat.le_of_ble_eq_true rfl⟩ dX4_seen_12 [4, 5, 0, 1, 2, 3] [] rfl rfl rfl rfl (by decide) rfl ?_
    refine g_if_eq Γ 22 dX4_seen_15 (by decide) (fun c7 => ?_) (fun c7 => ?_)
    · have hf := ya_if1 c7 hf
      refine g_iconst (v := 0) Γ dX4_seen_22 (by decide) ?_
      cases hf
      exact g_iret Γ hr dX4_seen_23 [0, 1, 2, 3, 4, 5] rfl rfl
    · have hf := ya_if2 c7 hf
      refine g_iconst (v := 1) Γ dX4_seen_18 (by decide) ?_
      refine g_goto Γ 23 dX4_seen_19 (by decide) ?_
      cases hf
      exact g_iret Γ hr dX4_seen_23 [0, 1, 2, 3, 4, 5] rfl rfl
  · have hf := ya_if1 c3 hf
    refine g_iconst (v := (-1)) Γ dX4_seen_8 (by decide) ?_
    cases hf
    exact g_iret Γ hr dX4_seen_9 [4, 5, 0, 1, 2, 3] rfl rfl

theorem dX4_reachOver_0 : decode cX4_reachOver 0 = .ok (.aload_n 0, 1) := by decide +kernel
theorem dX4_reachOver_1 : decode cX4_reachOver 1 = .ok (.getfield 37, 3) := by decide +kernel
theorem dX4_reachOver_4 : decode cX4_reachOver 4 = .ok (.iload_n 1, 1) := by decide +kernel
theorem dX4_reachOver_5 : decode cX4_reachOver 5 = .ok (.iaload, 1) := by decide +kernel
theorem dX4_reachOver_6 : decode cX4_reachOver 6 = .ok (.iload_n 3, 1) := by decide +kernel
theorem dX4_reachOver_7 : decode cX4_reachOver 7 = .ok (.if_icmp .ne 22, 3) := by decide +kernel
theorem dX4_reachOver_10 : decode cX4_reachOver 10 = .ok (.aload_n 0, 1) := by decide +kernel
theorem dX4_reachOver_11 : decode cX4_reachOver 11 = .ok (.getfield 37, 3) := by decide +kernel
theorem dX4_reachOver_14 : decode cX4_reachOver 14 = .ok (.iload_n 2, 1) := by decide +kernel
theorem dX4_reachOver_15 : decode cX4_reachOver 15 = .ok (.iaload, 1) := by decide +kernel
theorem dX4_reachOver_16 : decode cX4_reachOver 16 = .ok (.iconst (-1), 1) := by decide +kernel
theorem dX4_reachOver_17 : decode cX4_reachOver 17 = .ok (.if_icmp .ne 12, 3) := by decide +kernel
theorem dX4_reachOver_20 : decode cX4_reachOver 20 = .ok (.aload_n 0, 1) := by decide +kernel
theorem dX4_reachOver_21 : decode cX4_reachOver 21 = .ok (.getfield 37, 3) := by decide +kernel
theorem dX4_reachOver_24 : decode cX4_reachOver 24 = .ok (.iload_n 2, 1) := by decide +kernel
theorem dX4_reachOver_25 : decode cX4_reachOver 25 = .ok (.iload_n 3, 1) := by decide +kernel
theorem dX4_reachOver_26 : decode cX4_reachOver 26 = .ok (.iconst 1, 1) := by decide +kernel
theorem dX4_reachOver_27 : decode cX4_reachOver 27 = .ok (.iadd, 1) := by decide +kernel
theorem dX4_reachOver_28 : decode cX4_reachOver 28 = .ok (.iastore, 1) := by decide +kernel
theorem dX4_reachOver_29 : decode cX4_reachOver 29 = .ok (.return_, 1) := by decide +kernel
/-! ===== FlowMeters.reachOver(III)V ===== -/
def fX4_reachOver (c_t_away : Nat → Int32) (x1 : Int32) (x2 : Int32) (x3 : Int32) : Option (Nat → Int32) :=
  (ya_rd c_t_away 6 x1).bind fun v1 =>
  (if v1 = x3 then
    (ya_rd c_t_away 6 x2).bind fun v4 =>
    (if v4 = (-1) then
      (ya_wr c_t_away 6 x2 (x3 + 1)).bind fun v7 =>
      some v7
    else
      some c_t_away)
  else
    some c_t_away)
theorem fX4_reachOver_37 : yF wsX4_reachOver RX4 37 4 4 RX4 TX4 7 := ⟨rfl, by decide, by decide +kernel, by decide +kernel⟩
abbrev rmX4_reachOver : Room := { frames := 0, cells := 0, slots := 0, locals := 0 }
theorem eX4_reachOver : yY yX4_reachOver wsX4_reachOver cX4_reachOver 4 none rmX4_reachOver 3 := ⟨⟨_, rfl⟩, rfl, rfl, by decide, by decide, by decide +kernel⟩
set_option maxHeartbeats 4000000 in
set_option maxRecDepth 100000 in
theorem mX4_reachOver {l : Launch} {D : va_G} {sz : Nat} {cI cJ cZ cW cR : ClassId} {h_t : Nat} {A_t : Nat → Nat} {c_t_away : Nat → Int32} {x1 : Int32} {x2 : Int32} {x3 : Int32} {zc_t_away : Nat → Int32} (hf : fX4_reachOver c_t_away x1 x2 x3 = some zc_t_away) : Met l yX4_reachOver wsX4_reachOver rmX4_reachOver (yP D (yT cI cJ cZ cW cR) [(h_t, oM A_t), (A_t 4, eI cI 6 c_t_away)] sz [.ref h_t, .int x1, .int x2, .int x3]) (yQv D (yT cI cJ cZ cW cR) [(h_t, oM A_t), (A_t 4, eI cI 6 zc_t_away)] (va_A [(h_t, oM A_t), (A_t 4, eI cI 6 c_t_away)] sz)) 0 0 (va_A [(h_t, oM A_t), (A_t 4, eI cI 6 c_t_away)] sz) := by
  refine yM (cc := cX4_reachOver) (maxL := 4) (ret := none) RX4 (by decide) rfl rfl (Nat.le_of_ble_eq_true rfl) ?_
  intro p e s m below meth c Γ hr
  show yG p l e (headSpec wsX4_reachOver rmX4_reachOver).room s m (List.toArray [.ref h_t, .int x1, .int x2, .int x3]) below meth c D (va_A [(h_t, oM A_t), (A_t 4, eI cI 6 c_t_away)] sz) 4 0 0 (MQ below (yQv D (yT cI cJ cZ cW cR) [(h_t, oM A_t), (A_t 4, eI cI 6 zc_t_away)] (va_A [(h_t, oM A_t), (A_t 4, eI cI 6 c_t_away)] sz)) (List.toArray [.ref h_t, .int x1, .int x2, .int x3]) s 0 0 (va_A [(h_t, oM A_t), (A_t 4, eI cI 6 c_t_away)] sz)) 0 [(0, .ref h_t), (1, .int x1), (2, .int x2), (3, .int x3)] [] [(h_t, oM A_t), (A_t 4, eI cI 6 c_t_away)]
  unfold fX4_reachOver at hf
  refine g_aload_n Γ 0 dX4_reachOver_0 rfl ?_
  refine g_get Γ fX4_reachOver_37 0 rfl rfl dX4_reachOver_1 ?_
  refine g_iload_n Γ 1 dX4_reachOver_4 rfl ?_
  obtain ⟨v1, e2, hf⟩ := ya_ob hf
  refine g_iald Γ e2 1 0 rfl rfl dX4_reachOver_5 ?_
  refine g_iload_n Γ 3 dX4_reachOver_6 rfl ?_
  refine g_icmp_ne Γ 29 dX4_reachOver_7 (by decide) (fun c3 => ?_) (fun c3 => ?_)
  · have hf := ya_if2 c3 hf
    cases hf
    exact g_vret Γ hr dX4_reachOver_29 [0, 1] rfl rfl
  · have hf := ya_if1 c3 hf
    refine g_aload_n Γ 0 dX4_reachOver_10 rfl ?_
    refine g_get Γ fX4_reachOver_37 0 rfl rfl dX4_reachOver_11 ?_
    refine g_iload_n Γ 2 dX4_reachOver_14 rfl ?_
    obtain ⟨v4, e5, hf⟩ := ya_ob hf
    refine g_iald Γ e5 1 0 rfl rfl dX4_reachOver_15 ?_
    refine g_iconst (v := (-1)) Γ dX4_reachOver_16 (by decide) ?_
    refine g_icmp_ne Γ 29 dX4_reachOver_17 (by decide) (fun c6 => ?_) (fun c6 => ?_)
    · have hf := ya_if2 c6 hf
      cases hf
      exact g_vret Γ hr dX4_reachOver_29 [0, 1] rfl rfl
    · have hf := ya_if1 c6 hf
      refine g_aload_n Γ 0 dX4_reachOver_20 rfl ?_
      refine g_get Γ fX4_reachOver_37 0 rfl rfl dX4_reachOver_21 ?_
      refine g_iload_n Γ 2 dX4_reachOver_24 rfl ?_
      refine g_iload_n Γ 3 dX4_reachOver_25 rfl ?_
      refine g_iconst (v := 1) Γ dX4_reachOver_26 (by decide) ?_
      refine g_iadd Γ dX4_reachOver_27 ?_
      obtain ⟨v7, e8, hf⟩ := ya_ob hf
      refine g_iast (ws' := [(h_t, oM A_t), (A_t 4, eI cI 6 v7)]) Γ e8 1 0 rfl rfl dX4_reachOver_28 rfl ?_
      cases hf
      exact g_vret Γ hr dX4_reachOver_29 [0, 1] rfl rfl

set_option maxRecDepth 20000 in
theorem ggX4_measureAway_X4_holds : GoodIn wsX4_measureAway wsX4_holds := goodIn_r _ [9] rfl (by decide +kernel)
set_option maxRecDepth 20000 in
theorem gX4_measureAway_X4_holds : GoodIn wsX4_measureAway (va_wsS RX4 78 yX4_holds wsX4_holds) := goodIn_app (goodIn_of _ (by decide +kernel)) ggX4_measureAway_X4_holds
set_option maxRecDepth 20000 in
theorem ggX4_measureAway_X4_reachOver : GoodIn wsX4_measureAway wsX4_reachOver := goodIn_r _ [13, 1, 14, 15, 16, 17, 18, 19, 20] rfl (by decide +kernel)
set_option maxRecDepth 20000 in
theorem gX4_measureAway_X4_reachOver : GoodIn wsX4_measureAway (wsV RX4 232 RX4 yX4_reachOver wsX4_reachOver) := goodIn_app (goodIn_of _ (by decide +kernel)) ggX4_measureAway_X4_reachOver
theorem dX4_measureAway_0 : decode cX4_measureAway 0 = .ok (.iconst 0, 1) := by decide +kernel
theorem dX4_measureAway_1 : decode cX4_measureAway 1 = .ok (.istore_n 3, 1) := by decide +kernel
theorem dX4_measureAway_2 : decode cX4_measureAway 2 = .ok (.iload_n 3, 1) := by decide +kernel
theorem dX4_measureAway_3 : decode cX4_measureAway 3 = .ok (.bipush 6, 2) := by decide +kernel
theorem dX4_measureAway_5 : decode cX4_measureAway 5 = .ok (.if_icmp .ge 16, 3) := by decide +kernel
theorem dX4_measureAway_8 : decode cX4_measureAway 8 = .ok (.aload_n 0, 1) := by decide +kernel
theorem dX4_measureAway_9 : decode cX4_measureAway 9 = .ok (.getfield 37, 3) := by decide +kernel
theorem dX4_measureAway_12 : decode cX4_measureAway 12 = .ok (.iload_n 3, 1) := by decide +kernel
theorem dX4_measureAway_13 : decode cX4_measureAway 13 = .ok (.iconst (-1), 1) := by decide +kernel
theorem dX4_measureAway_14 : decode cX4_measureAway 14 = .ok (.iastore, 1) := by decide +kernel
theorem dX4_measureAway_15 : decode cX4_measureAway 15 = .ok (.iinc 3 1, 3) := by decide +kernel
theorem dX4_measureAway_18 : decode cX4_measureAway 18 = .ok (.goto (-16), 3) := by decide +kernel
theorem dX4_measureAway_21 : decode cX4_measureAway 21 = .ok (.aload_n 0, 1) := by decide +kernel
theorem dX4_measureAway_22 : decode cX4_measureAway 22 = .ok (.getfield 37, 3) := by decide +kernel
theorem dX4_measureAway_25 : decode cX4_measureAway 25 = .ok (.iload_n 1, 1) := by decide +kernel
theorem dX4_measureAway_26 : decode cX4_measureAway 26 = .ok (.iconst 0, 1) := by decide +kernel
theorem dX4_measureAway_27 : decode cX4_measureAway 27 = .ok (.iastore, 1) := by decide +kernel
theorem dX4_measureAway_28 : decode cX4_measureAway 28 = .ok (.iconst 0, 1) := by decide +kernel
theorem dX4_measureAway_29 : decode cX4_measureAway 29 = .ok (.istore_n 3, 1) := by decide +kernel
theorem dX4_measureAway_30 : decode cX4_measureAway 30 = .ok (.iload_n 3, 1) := by decide +kernel
theorem dX4_measureAway_31 : decode cX4_measureAway 31 = .ok (.bipush 6, 2) := by decide +kernel
theorem dX4_measureAway_33 : decode cX4_measureAway 33 = .ok (.if_icmp .ge 89, 3) := by decide +kernel
theorem dX4_measureAway_36 : decode cX4_measureAway 36 = .ok (.iconst 0, 1) := by decide +kernel
theorem dX4_measureAway_37 : decode cX4_measureAway 37 = .ok (.istore 4, 2) := by decide +kernel
theorem dX4_measureAway_39 : decode cX4_measureAway 39 = .ok (.iload 4, 2) := by decide +kernel
theorem dX4_measureAway_41 : decode cX4_measureAway 41 = .ok (.aload_n 0, 1) := by decide +kernel
theorem dX4_measureAway_42 : decode cX4_measureAway 42 = .ok (.getfield 10, 3) := by decide +kernel
theorem dX4_measureAway_45 : decode cX4_measureAway 45 = .ok (.getfield 60, 3) := by decide +kernel
theorem dX4_measureAway_48 : decode cX4_measureAway 48 = .ok (.if_icmp .ge 68, 3) := by decide +kernel
theorem dX4_measureAway_51 : decode cX4_measureAway 51 = .ok (.iload_n 2, 1) := by decide +kernel
theorem dX4_measureAway_52 : decode cX4_measureAway 52 = .ok (.iload 4, 2) := by decide +kernel
theorem dX4_measureAway_54 : decode cX4_measureAway 54 = .ok (.invokestatic 78, 3) := by decide +kernel
theorem dX4_measureAway_57 : decode cX4_measureAway 57 = .ok (.ifCond .eq 53, 3) := by decide +kernel
theorem dX4_measureAway_60 : decode cX4_measureAway 60 = .ok (.aload_n 0, 1) := by decide +kernel
theorem dX4_measureAway_61 : decode cX4_measureAway 61 = .ok (.aload_n 0, 1) := by decide +kernel
theorem dX4_measureAway_62 : decode cX4_measureAway 62 = .ok (.getfield 10, 3) := by decide +kernel
theorem dX4_measureAway_65 : decode cX4_measureAway 65 = .ok (.getfield 140, 3) := by decide +kernel
theorem dX4_measureAway_68 : decode cX4_measureAway 68 = .ok (.iload 4, 2) := by decide +kernel
theorem dX4_measureAway_70 : decode cX4_measureAway 70 = .ok (.iaload, 1) := by decide +kernel
theorem dX4_measureAway_71 : decode cX4_measureAway 71 = .ok (.aload_n 0, 1) := by decide +kernel
theorem dX4_measureAway_72 : decode cX4_measureAway 72 = .ok (.getfield 10, 3) := by decide +kernel
theorem dX4_measureAway_75 : decode cX4_measureAway 75 = .ok (.getfield 143, 3) := by decide +kernel
theorem dX4_measureAway_78 : decode cX4_measureAway 78 = .ok (.iload 4, 2) := by decide +kernel
theorem dX4_measureAway_80 : decode cX4_measureAway 80 = .ok (.iaload, 1) := by decide +kernel
theorem dX4_measureAway_81 : decode cX4_measureAway 81 = .ok (.iload_n 3, 1) := by decide +kernel
theorem dX4_measureAway_82 : decode cX4_measureAway 82 = .ok (.invokevirtual 232, 3) := by decide +kernel
theorem dX4_measureAway_85 : decode cX4_measureAway 85 = .ok (.aload_n 0, 1) := by decide +kernel
theorem dX4_measureAway_86 : decode cX4_measureAway 86 = .ok (.aload_n 0, 1) := by decide +kernel
theorem dX4_measureAway_87 : decode cX4_measureAway 87 = .ok (.getfield 10, 3) := by decide +kernel
theorem dX4_measureAway_90 : decode cX4_measureAway 90 = .ok (.getfield 143, 3) := by decide +kernel
theorem dX4_measureAway_93 : decode cX4_measureAway 93 = .ok (.iload 4, 2) := by decide +kernel
theorem dX4_measureAway_95 : decode cX4_measureAway 95 = .ok (.iaload, 1) := by decide +kernel
theorem dX4_measureAway_96 : decode cX4_measureAway 96 = .ok (.aload_n 0, 1) := by decide +kernel
theorem dX4_measureAway_97 : decode cX4_measureAway 97 = .ok (.getfield 10, 3) := by decide +kernel
theorem dX4_measureAway_100 : decode cX4_measureAway 100 = .ok (.getfield 140, 3) := by decide +kernel
theorem dX4_measureAway_103 : decode cX4_measureAway 103 = .ok (.iload 4, 2) := by decide +kernel
theorem dX4_measureAway_105 : decode cX4_measureAway 105 = .ok (.iaload, 1) := by decide +kernel
theorem dX4_measureAway_106 : decode cX4_measureAway 106 = .ok (.iload_n 3, 1) := by decide +kernel
theorem dX4_measureAway_107 : decode cX4_measureAway 107 = .ok (.invokevirtual 232, 3) := by decide +kernel
theorem dX4_measureAway_110 : decode cX4_measureAway 110 = .ok (.iinc 4 1, 3) := by decide +kernel
theorem dX4_measureAway_113 : decode cX4_measureAway 113 = .ok (.goto (-74), 3) := by decide +kernel
theorem dX4_measureAway_116 : decode cX4_measureAway 116 = .ok (.iinc 3 1, 3) := by decide +kernel
theorem dX4_measureAway_119 : decode cX4_measureAway 119 = .ok (.goto (-89), 3) := by decide +kernel
theorem dX4_measureAway_122 : decode cX4_measureAway 122 = .ok (.return_, 1) := by decide +kernel
/-! ===== FlowMeters.measureAway(II)V ===== -/
def fX4_measureAway_L2 (N : Nat) (n : Nat) (y1 : Int32) (y2 : Int32) (y3 : Int32) (d_t_away : Nat → Int32) : Option (Nat → Int32) := match n with
  | 0 => none
  | n + 1 =>
    (if 6 ≤ y3 then
        some d_t_away
      else
        (ya_wr d_t_away 6 y3 (-1)).bind fun v2 =>
        ya_lt (y3 + 1) fun v4 =>
        fX4_measureAway_L2 N n y1 y2 v4 v2)
def fX4_measureAway_L39 (N : Nat) (n : Nat) (y2 : Int32) (y3 : Int32) (y4 : Int32) (d_t_now_flows : Int32) (d_t_now_from : Nat → Int32) (d_t_now_to : Nat → Int32) (d_t_away : Nat → Int32) : Option (Nat → Int32) := match n with
  | 0 => none
  | n + 1 =>
    (if d_t_now_flows ≤ y4 then
        some d_t_away
      else
        (fX4_holds y2 y4).bind fun v12 =>
        (if v12 = 0 then
          ya_lt (y4 + 1) fun v15 =>
          fX4_measureAway_L39 N n y2 y3 v15 d_t_now_flows d_t_now_from d_t_now_to d_t_away
        else
          (ya_rd d_t_now_from 10 y4).bind fun v17 =>
          (ya_rd d_t_now_to 10 y4).bind fun v19 =>
          (fX4_reachOver d_t_away v17 v19 y3).bind fun v21 =>
          (ya_rd d_t_now_to 10 y4).bind fun v23 =>
          (ya_rd d_t_now_from 10 y4).bind fun v25 =>
          (fX4_reachOver v21 v23 v25 y3).bind fun v27 =>
          ya_lt (y4 + 1) fun v29 =>
          fX4_measureAway_L39 N n y2 y3 v29 d_t_now_flows d_t_now_from d_t_now_to v27))
def fX4_measureAway_L30 (N : Nat) (n : Nat) (y2 : Int32) (y3 : Int32) (d_t_now_flows : Int32) (d_t_now_from : Nat → Int32) (d_t_now_to : Nat → Int32) (d_t_away : Nat → Int32) : Option (Nat → Int32) := match n with
  | 0 => none
  | n + 1 =>
    (if 6 ≤ y3 then
        some d_t_away
      else
        (fX4_measureAway_L39 N N y2 y3 0 d_t_now_flows d_t_now_from d_t_now_to d_t_away).bind fun v31 =>
        ya_lt (y3 + 1) fun v33 =>
        fX4_measureAway_L30 N n y2 v33 d_t_now_flows d_t_now_from d_t_now_to v31)
def fX4_measureAway (N : Nat) (c_t_now_flows : Int32) (c_t_now_from : Nat → Int32) (c_t_now_to : Nat → Int32) (c_t_away : Nat → Int32) (x1 : Int32) (x2 : Int32) : Option (Nat → Int32) :=
  (fX4_measureAway_L2 N N x1 x2 0 c_t_away).bind fun v6 =>
  (ya_wr v6 6 x1 0).bind fun v8 =>
  (fX4_measureAway_L30 N N x2 0 c_t_now_flows c_t_now_from c_t_now_to v8).bind fun v35 =>
  some v35
theorem fX4_measureAway_37 : yF wsX4_measureAway RX4 37 4 4 RX4 TX4 7 := ⟨rfl, by decide, by decide +kernel, by decide +kernel⟩
theorem fX4_measureAway_10 : yF wsX4_measureAway RX4 10 4 0 RX4 TX4 7 := ⟨rfl, by decide, by decide +kernel, by decide +kernel⟩
theorem fX4_measureAway_60 : yF wsX4_measureAway RX4 60 3 1 RX3 TX3 11 := ⟨rfl, by decide, by decide +kernel, by decide +kernel⟩
theorem fX4_measureAway_140 : yF wsX4_measureAway RX4 140 3 3 RX3 TX3 11 := ⟨rfl, by decide, by decide +kernel, by decide +kernel⟩
theorem fX4_measureAway_143 : yF wsX4_measureAway RX4 143 3 4 RX3 TX3 11 := ⟨rfl, by decide, by decide +kernel, by decide +kernel⟩
abbrev rmX4_measureAway : Room := { frames := 1, cells := 0, slots := 0, locals := 23 }
theorem eX4_measureAway : yY yX4_measureAway wsX4_measureAway cX4_measureAway 5 none rmX4_measureAway 2 := ⟨⟨_, rfl⟩, rfl, rfl, by decide, by decide, by decide +kernel⟩
set_option maxHeartbeats 4000000 in
set_option maxRecDepth 100000 in
theorem mX4_measureAway {l : Launch} {D : va_G} {sz : Nat} {cI cJ cZ cW cR : ClassId} {N : Nat} {h_t : Nat} {A_t : Nat → Nat} {A_t_now : Nat → Nat} {c_t_now_knots : Int32} {c_t_now_flows : Int32} {c_t_now_readSet : Int32} {c_t_now_from : Nat → Int32} {c_t_now_to : Nat → Int32} {c_t_away : Nat → Int32} {x1 : Int32} {x2 : Int32} {zc_t_away : Nat → Int32} (hf : fX4_measureAway N c_t_now_flows c_t_now_from c_t_now_to c_t_away x1 x2 = some zc_t_away) : Met l yX4_measureAway wsX4_measureAway rmX4_measureAway (yP D (yT cI cJ cZ cW cR) [(h_t, oM A_t), (A_t 0, oW A_t_now c_t_now_knots c_t_now_flows c_t_now_readSet), (A_t_now 0, eI cI 10 c_t_now_from), (A_t_now 1, eI cI 10 c_t_now_to), (A_t 4, eI cI 6 c_t_away)] sz [.ref h_t, .int x1, .int x2]) (yQv D (yT cI cJ cZ cW cR) [(h_t, oM A_t), (A_t 0, oW A_t_now c_t_now_knots c_t_now_flows c_t_now_readSet), (A_t_now 0, eI cI 10 c_t_now_from), (A_t_now 1, eI cI 10 c_t_now_to), (A_t 4, eI cI 6 zc_t_away)] (va_A [(h_t, oM A_t), (A_t 0, oW A_t_now c_t_now_knots c_t_now_flows c_t_now_readSet), (A_t_now 0, eI cI 10 c_t_now_from), (A_t_now 1, eI cI 10 c_t_now_to), (A_t 4, eI cI 6 c_t_away)] sz)) 0 0 (va_A [(h_t, oM A_t), (A_t 0, oW A_t_now c_t_now_knots c_t_now_flows c_t_now_readSet), (A_t_now 0, eI cI 10 c_t_now_from), (A_t_now 1, eI cI 10 c_t_now_to), (A_t 4, eI cI 6 c_t_away)] sz) := by
  refine yM (cc := cX4_measureAway) (maxL := 5) (ret := none) RX4 (by decide) rfl rfl (Nat.le_of_ble_eq_true rfl) ?_
  intro p e s m below meth c Γ hr
  have loop2 : ∀ (n : Nat) (y1 : Int32) (y2 : Int32) (y3 : Int32) (d_t_now_knots : Int32) (d_t_now_flows : Int32) (d_t_now_readSet : Int32) (d_t_now_from : Nat → Int32) (d_t_now_to : Nat → Int32) (d_t_away : Nat → Int32) (w0 : Nat → Int32), fX4_measureAway_L2 N n y1 y2 y3 d_t_away = some w0 → yG p l e (headSpec wsX4_measureAway rmX4_measureAway).room s m (List.toArray [.ref h_t, .int x1, .int x2]) below meth c D (va_A [(h_t, oM A_t), (A_t 0, oW A_t_now c_t_now_knots c_t_now_flows c_t_now_readSet), (A_t_now 0, eI cI 10 c_t_now_from), (A_t_now 1, eI cI 10 c_t_now_to), (A_t 4, eI cI 6 c_t_away)] sz) 5 0 0 (MQ below (yQv D (yT cI cJ cZ cW cR) [(h_t, oM A_t), (A_t 0, oW A_t_now c_t_now_knots c_t_now_flows c_t_now_readSet), (A_t_now 0, eI cI 10 c_t_now_from), (A_t_now 1, eI cI 10 c_t_now_to), (A_t 4, eI cI 6 zc_t_away)] (va_A [(h_t, oM A_t), (A_t 0, oW A_t_now c_t_now_knots c_t_now_flows c_t_now_readSet), (A_t_now 0, eI cI 10 c_t_now_from), (A_t_now 1, eI cI 10 c_t_now_to), (A_t 4, eI cI 6 c_t_away)] sz)) (List.toArray [.ref h_t, .int x1, .int x2]) s 0 0 (va_A [(h_t, oM A_t), (A_t 0, oW A_t_now c_t_now_knots c_t_now_flows c_t_now_readSet), (A_t_now 0, eI cI 10 c_t_now_from), (A_t_now 1, eI cI 10 c_t_now_to), (A_t 4, eI cI 6 c_t_away)] sz)) 21 [(0, .ref h_t), (1, .int y1), (2, .int y2)] [] [(h_t, oM A_t), (A_t 0, oW A_t_now d_t_now_knots d_t_now_flows d_t_now_readSet), (A_t_now 0, eI cI 10 d_t_now_from), (A_t_now 1, eI cI 10 d_t_now_to), (A_t 4, eI cI 6 w0)] → yG p l e (headSpec wsX4_measureAway rmX4_measureAway).room s m (List.toArray [.ref h_t, .int x1, .int x2]) below meth c D (va_A [(h_t, oM A_t), (A_t 0, oW A_t_now c_t_now_knots c_t_now_flows c_t_now_readSet), (A_t_now 0, eI cI 10 c_t_now_from), (A_t_now 1, eI cI 10 c_t_now_to), (A_t 4, eI cI 6 c_t_away)] sz) 5 0 0 (MQ below (yQv D (yT cI cJ cZ cW cR) [(h_t, oM A_t), (A_t 0, oW A_t_now c_t_now_knots c_t_now_flows c_t_now_readSet), (A_t_now 0, eI cI 10 c_t_now_from), (A_t_now 1, eI cI 10 c_t_now_to), (A_t 4, eI cI 6 zc_t_away)] (va_A [(h_t, oM A_t), (A_t 0, oW A_t_now c_t_now_knots c_t_now_flows c_t_now_readSet), (A_t_now 0, eI cI 10 c_t_now_from), (A_t_now 1, eI cI 10 c_t_now_to), (A_t 4, eI cI 6 c_t_away)] sz)) (List.toArray [.ref h_t, .int x1, .int x2]) s 0 0 (va_A [(h_t, oM A_t), (A_t 0, oW A_t_now c_t_now_knots c_t_now_flows c_t_now_readSet), (A_t_now 0, eI cI 10 c_t_now_from), (A_t_now 1, eI cI 10 c_t_now_to), (A_t 4, eI cI 6 c_t_away)] sz)) 2 [(0, .ref h_t), (1, .int y1), (2, .int y2), (3, .int y3)] [] [(h_t, oM A_t), (A_t 0, oW A_t_now d_t_now_knots d_t_now_flows d_t_now_readSet), (A_t_now 0, eI cI 10 d_t_now_from), (A_t_now 1, eI cI 10 d_t_now_to), (A_t 4, eI cI 6 d_t_away)] := by
    intro n
    induction n with
    | zero =>
      intro y1 y2 y3 d_t_now_knots d_t_now_flows d_t_now_readSet d_t_now_from d_t_now_to d_t_away w0 hf
      cases hf
    | succ n ih =>
      intro y1 y2 y3 d_t_now_knots d_t_now_flows d_t_now_readSet d_t_now_from d_t_now_to d_t_away w0 hf hk
      unfold fX4_measureAway_L2 at hf
      refine g_iload_n Γ 3 dX4_measureAway_2 rfl ?_
      refine g_bipush (v := 6) Γ dX4_measureAway_3 (by decide) ?_
      refine g_icmp_ge Γ 21 dX4_measureAway_5 (by decide) (fun c1 => ?_) (fun c1 => ?_)
      · have hf := ya_if1 c1 hf
        cases hf
        refine g_lv [0, 1, 2] rfl ?_
        exact hk
      · have hf := ya_if2 c1 hf
        refine g_aload_n Γ 0 dX4_measureAway_8 rfl ?_
        refine g_get Γ fX4_measureAway_37 0 rfl rfl dX4_measureAway_9 ?_
        refine g_iload_n Γ 3 dX4_measureAway_12 rfl ?_
        refine g_iconst (v := (-1)) Γ dX4_measureAway_13 (by decide) ?_
        obtain ⟨v2, e3, hf⟩ := ya_ob hf
        refine g_iast (ws' := [(h_t, oM A_t), (A_t 0, oW A_t_now d_t_now_knots d_t_now_flows d_t_now_readSet), (A_t_now 0, eI cI 10 d_t_now_from), (A_t_now 1, eI cI 10 d_t_now_to), (A_t 4, eI cI 6 v2)]) Γ e3 4 0 rfl rfl dX4_measureAway_14 rfl ?_
        obtain ⟨v4, e5, hf⟩ := ya_lt_inv hf
        refine g_iinc (lv' := [(3, .int v4), (0, .ref h_t), (1, .int y1), (2, .int y2)]) Γ 3 dX4_measureAway_15 rfl (by rw [e5]; rfl) (by decide) rfl ?_
        refine g_goto Γ 2 dX4_measureAway_18 (by decide) ?_
        refine g_lv [1, 2, 3, 0] rfl ?_
        exact ih _ _ _ _ _ _ _ _ _ _ hf hk
  have loop39 : ∀ (n : Nat) (y2 : Int32) (y3 : Int32) (y4 : Int32) (d_t_now_knots : Int32) (d_t_now_flows : Int32) (d_t_now_readSet : Int32) (d_t_now_from : Nat → Int32) (d_t_now_to : Nat → Int32) (d_t_away : Nat → Int32) (w0 : Nat → Int32), fX4_measureAway_L39 N n y2 y3 y4 d_t_now_flows d_t_now_from d_t_now_to d_t_away = some w0 → yG p l e (headSpec wsX4_measureAway rmX4_measureAway).room s m (List.toArray [.ref h_t, .int x1, .int x2]) below meth c D (va_A [(h_t, oM A_t), (A_t 0, oW A_t_now c_t_now_knots c_t_now_flows c_t_now_readSet), (A_t_now 0, eI cI 10 c_t_now_from), (A_t_now 1, eI cI 10 c_t_now_to), (A_t 4, eI cI 6 c_t_away)] sz) 5 0 0 (MQ below (yQv D (yT cI cJ cZ cW cR) [(h_t, oM A_t), (A_t 0, oW A_t_now c_t_now_knots c_t_now_flows c_t_now_readSet), (A_t_now 0, eI cI 10 c_t_now_from), (A_t_now 1, eI cI 10 c_t_now_to), (A_t 4, eI cI 6 zc_t_away)] (va_A [(h_t, oM A_t), (A_t 0, oW A_t_now c_t_now_knots c_t_now_flows c_t_now_readSet), (A_t_now 0, eI cI 10 c_t_now_from), (A_t_now 1, eI cI 10 c_t_now_to), (A_t 4, eI cI 6 c_t_away)] sz)) (List.toArray [.ref h_t, .int x1, .int x2]) s 0 0 (va_A [(h_t, oM A_t), (A_t 0, oW A_t_now c_t_now_knots c_t_now_flows c_t_now_readSet), (A_t_now 0, eI cI 10 c_t_now_from), (A_t_now 1, eI cI 10 c_t_now_to), (A_t 4, eI cI 6 c_t_away)] sz)) 116 [(0, .ref h_t), (2, .int y2), (3, .int y3)] [] [(h_t, oM A_t), (A_t 0, oW A_t_now d_t_now_knots d_t_now_flows d_t_now_readSet), (A_t_now 0, eI cI 10 d_t_now_from), (A_t_now 1, eI cI 10 d_t_now_to), (A_t 4, eI cI 6 w0)] → yG p l e (headSpec wsX4_measureAway rmX4_measureAway).room s m (List.toArray [.ref h_t, .int x1, .int x2]) below meth c D (va_A [(h_t, oM A_t), (A_t 0, oW A_t_now c_t_now_knots c_t_now_flows c_t_now_readSet), (A_t_now 0, eI cI 10 c_t_now_from), (A_t_now 1, eI cI 10 c_t_now_to), (A_t 4, eI cI 6 c_t_away)] sz) 5 0 0 (MQ below (yQv D (yT cI cJ cZ cW cR) [(h_t, oM A_t), (A_t 0, oW A_t_now c_t_now_knots c_t_now_flows c_t_now_readSet), (A_t_now 0, eI cI 10 c_t_now_from), (A_t_now 1, eI cI 10 c_t_now_to), (A_t 4, eI cI 6 zc_t_away)] (va_A [(h_t, oM A_t), (A_t 0, oW A_t_now c_t_now_knots c_t_now_flows c_t_now_readSet), (A_t_now 0, eI cI 10 c_t_now_from), (A_t_now 1, eI cI 10 c_t_now_to), (A_t 4, eI cI 6 c_t_away)] sz)) (List.toArray [.ref h_t, .int x1, .int x2]) s 0 0 (va_A [(h_t, oM A_t), (A_t 0, oW A_t_now c_t_now_knots c_t_now_flows c_t_now_readSet), (A_t_now 0, eI cI 10 c_t_now_from), (A_t_now 1, eI cI 10 c_t_now_to), (A_t 4, eI cI 6 c_t_away)] sz)) 39 [(0, .ref h_t), (2, .int y2), (3, .int y3), (4, .int y4)] [] [(h_t, oM A_t), (A_t 0, oW A_t_now d_t_now_knots d_t_now_flows d_t_now_readSet), (A_t_now 0, eI cI 10 d_t_now_from), (A_t_now 1, eI cI 10 d_t_now_to), (A_t 4, eI cI 6 d_t_away)] := by
    intro n
    induction n with
    | zero =>
      intro y2 y3 y4 d_t_now_knots d_t_now_flows d_t_now_readSet d_t_now_from d_t_now_to d_t_away w0 hf
      cases hf
    | succ n ih =>
      intro y2 y3 y4 d_t_now_knots d_t_now_flows d_t_now_readSet d_t_now_from d_t_now_to d_t_away w0 hf hk
      unfold fX4_measureAway_L39 at hf
      refine g_iload Γ 3 dX4_measureAway_39 rfl ?_
      refine g_aload_n Γ 0 dX4_measureAway_41 rfl ?_
      refine g_get Γ fX4_measureAway_10 0 rfl rfl dX4_measureAway_42 ?_
      refine g_get Γ fX4_measureAway_60 1 rfl rfl dX4_measureAway_45 ?_
      refine g_icmp_ge Γ 116 dX4_measureAway_48 (by decide) (fun c11 => ?_) (fun c11 => ?_)
      · have hf := ya_if1 c11 hf
        cases hf
        refine g_lv [0, 1, 2] rfl ?_
        exact hk
      · have hf := ya_if2 c11 hf
        refine g_iload_n Γ 1 dX4_measureAway_51 rfl ?_
        refine g_iload Γ 3 dX4_measureAway_52 rfl ?_
        obtain ⟨v12, e13, hf⟩ := ya_ob hf
        refine g_si (wr := [(h_t, oM A_t), (A_t 0, oW A_t_now d_t_now_knots d_t_now_flows d_t_now_readSet), (A_t_now 0, eI cI 10 d_t_now_from), (A_t_now 1, eI cI 10 d_t_now_to), (A_t 4, eI cI 6 d_t_away)]) (ws' := [(h_t, oM A_t), (A_t 0, oW A_t_now d_t_now_knots d_t_now_flows d_t_now_readSet), (A_t_now 0, eI cI 10 d_t_now_from), (A_t_now 1, eI cI 10 d_t_now_to), (A_t 4, eI cI 6 d_t_away)]) Γ (fun sz => mX4_holds (l := l) (D := D) (sz := sz) (cI := cI) (cJ := cJ) (cZ := cZ) (cW := cW) (cR := cR)  (hf := e13)) eX4_holds ggX4_measureAway_X4_holds (by decide +kernel) (by decide +kernel) (by decide +kernel) rfl rfl (Nat.le_of_ble_eq_true rfl) ⟨Nat.le_of_ble_eq_true rfl, Nat.le_of_ble_eq_true rfl⟩ dX4_measureAway_54 [] [0, 1, 2, 3, 4] rfl rfl rfl rfl (by decide) rfl ?_
        refine g_if_eq Γ 110 dX4_measureAway_57 (by decide) (fun c14 => ?_) (fun c14 => ?_)
        · have hf := ya_if1 c14 hf
          obtain ⟨v15, e16, hf⟩ := ya_lt_inv hf
          refine g_iinc (lv' := [(4, .int v15), (0, .ref h_t), (2, .int y2), (3, .int y3)]) Γ 3 dX4_measureAway_110 rfl (by rw [e16]; rfl) (by decide) rfl ?_
          refine g_goto Γ 39 dX4_measureAway_113 (by decide) ?_
          refine g_lv [1, 2, 3, 0] rfl ?_
          exact ih _ _ _ _ _ _ _ _ _ _ hf hk
        · have hf := ya_if2 c14 hf
          refine g_aload_n Γ 0 dX4_measureAway_60 rfl ?_
          refine g_aload_n Γ 0 dX4_measureAway_61 rfl ?_
          refine g_get Γ fX4_measureAway_10 0 rfl rfl dX4_measureAway_62 ?_
          refine g_get Γ fX4_measureAway_140 1 rfl rfl dX4_measureAway_65 ?_
          refine g_iload Γ 3 dX4_measureAway_68 rfl ?_
          obtain ⟨v17, e18, hf⟩ := ya_ob hf
          refine g_iald Γ e18 2 0 rfl rfl dX4_measureAway_70 ?_
          refine g_aload_n Γ 0 dX4_measureAway_71 rfl ?_
          refine g_get Γ fX4_measureAway_10 0 rfl rfl dX4_measureAway_72 ?_
          refine g_get Γ fX4_measureAway_143 1 rfl rfl dX4_measureAway_75 ?_
          refine g_iload Γ 3 dX4_measureAway_78 rfl ?_
          obtain ⟨v19, e20, hf⟩ := ya_ob hf
          refine g_iald Γ e20 3 0 rfl rfl dX4_measureAway_80 ?_
          refine g_iload_n Γ 2 dX4_measureAway_81 rfl ?_
          obtain ⟨v21, e22, hf⟩ := ya_ob hf
          refine g_vv (q := (RX4, TX4, 7)) (wr := [(A_t 0, oW A_t_now d_t_now_knots d_t_now_flows d_t_now_readSet), (A_t_now 0, eI cI 10 d_t_now_from), (A_t_now 1, eI cI 10 d_t_now_to)]) (ws' := [(A_t 0, oW A_t_now d_t_now_knots d_t_now_flows d_t_now_readSet), (A_t_now 0, eI cI 10 d_t_now_from), (A_t_now 1, eI cI 10 d_t_now_to), (h_t, oM A_t), (A_t 4, eI cI 6 v21)]) Γ (fun sz => mX4_reachOver (l := l) (D := D) (sz := sz) (cI := cI) (cJ := cJ) (cZ := cZ) (cW := cW) (cR := cR) (h_t := h_t) (A_t := A_t) (hf := e22)) eX4_reachOver gX4_measureAway_X4_reachOver rfl rfl 0 rfl rfl rfl (Nat.le_of_ble_eq_true rfl) ⟨Nat.le_of_ble_eq_true rfl, Nat.le_of_ble_eq_true rfl⟩ dX4_measureAway_82 [0, 4] [1, 2, 3] rfl rfl rfl rfl (by decide) rfl ?_
          refine g_aload_n Γ 0 dX4_measureAway_85 rfl ?_
          refine g_aload_n Γ 0 dX4_measureAway_86 rfl ?_
          refine g_get Γ fX4_measureAway_10 3 rfl rfl dX4_measureAway_87 ?_
          refine g_get Γ fX4_measureAway_143 0 rfl rfl dX4_measureAway_90 ?_
          refine g_iload Γ 3 dX4_measureAway_93 rfl ?_
          obtain ⟨v23, e24, hf⟩ := ya_ob hf
          refine g_iald Γ e24 2 0 rfl rfl dX4_measureAway_95 ?_
          refine g_aload_n Γ 0 dX4_measureAway_96 rfl ?_
          refine g_get Γ fX4_measureAway_10 3 rfl rfl dX4_measureAway_97 ?_
          refine g_get Γ fX4_measureAway_140 0 rfl rfl dX4_measureAway_100 ?_
          refine g_iload Γ 3 dX4_measureAway_103 rfl ?_
          obtain ⟨v25, e26, hf⟩ := ya_ob hf
          refine g_iald Γ e26 1 0 rfl rfl dX4_measureAway_105 ?_
          refine g_iload_n Γ 2 dX4_measureAway_106 rfl ?_
          obtain ⟨v27, e28, hf⟩ := ya_ob hf
          refine g_vv (q := (RX4, TX4, 7)) (wr := [(A_t 0, oW A_t_now d_t_now_knots d_t_now_flows d_t_now_readSet), (A_t_now 0, eI cI 10 d_t_now_from), (A_t_now 1, eI cI 10 d_t_now_to)]) (ws' := [(A_t 0, oW A_t_now d_t_now_knots d_t_now_flows d_t_now_readSet), (A_t_now 0, eI cI 10 d_t_now_from), (A_t_now 1, eI cI 10 d_t_now_to), (h_t, oM A_t), (A_t 4, eI cI 6 v27)]) Γ (fun sz => mX4_reachOver (l := l) (D := D) (sz := sz) (cI := cI) (cJ := cJ) (cZ := cZ) (cW := cW) (cR := cR) (h_t := h_t) (A_t := A_t) (hf := e28)) eX4_reachOver gX4_measureAway_X4_reachOver rfl rfl 0 rfl rfl rfl (Nat.le_of_ble_eq_true rfl) ⟨Nat.le_of_ble_eq_true rfl, Nat.le_of_ble_eq_true rfl⟩ dX4_measureAway_107 [3, 4] [0, 1, 2] rfl rfl rfl rfl (by decide) rfl ?_
          obtain ⟨v29, e30, hf⟩ := ya_lt_inv hf
          refine g_iinc (lv' := [(4, .int v29), (0, .ref h_t), (2, .int y2), (3, .int y3)]) Γ 3 dX4_measureAway_110 rfl (by rw [e30]; rfl) (by decide) rfl ?_
          refine g_goto Γ 39 dX4_measureAway_113 (by decide) ?_
          refine g_lv [1, 2, 3, 0] rfl ?_
          refine g_ws (ws' := [(h_t, oM A_t), (A_t 0, oW A_t_now d_t_now_knots d_t_now_flows d_t_now_readSet), (A_t_now 0, eI cI 10 d_t_now_from), (A_t_now 1, eI cI 10 d_t_now_to), (A_t 4, eI cI 6 v27)]) [3, 0, 1, 2, 4] rfl rfl ?_
          exact ih _ _ _ _ _ _ _ _ _ _ hf hk
  have loop30 : ∀ (n : Nat) (y2 : Int32) (y3 : Int32) (d_t_now_knots : Int32) (d_t_now_flows : Int32) (d_t_now_readSet : Int32) (d_t_now_from : Nat → Int32) (d_t_now_to : Nat → Int32) (d_t_away : Nat → Int32) (w0 : Nat → Int32), fX4_measureAway_L30 N n y2 y3 d_t_now_flows d_t_now_from d_t_now_to d_t_away = some w0 → yG p l e (headSpec wsX4_measureAway rmX4_measureAway).room s m (List.toArray [.ref h_t, .int x1, .int x2]) below meth c D (va_A [(h_t, oM A_t), (A_t 0, oW A_t_now c_t_now_knots c_t_now_flows c_t_now_readSet), (A_t_now 0, eI cI 10 c_t_now_from), (A_t_now 1, eI cI 10 c_t_now_to), (A_t 4, eI cI 6 c_t_away)] sz) 5 0 0 (MQ below (yQv D (yT cI cJ cZ cW cR) [(h_t, oM A_t), (A_t 0, oW A_t_now c_t_now_knots c_t_now_flows c_t_now_readSet), (A_t_now 0, eI cI 10 c_t_now_from), (A_t_now 1, eI cI 10 c_t_now_to), (A_t 4, eI cI 6 zc_t_away)] (va_A [(h_t, oM A_t), (A_t 0, oW A_t_now c_t_now_knots c_t_now_flows c_t_now_readSet), (A_t_now 0, eI cI 10 c_t_now_from), (A_t_now 1, eI cI 10 c_t_now_to), (A_t 4, eI cI 6 c_t_away)] sz)) (List.toArray [.ref h_t, .int x1, .int x2]) s 0 0 (va_A [(h_t, oM A_t), (A_t 0, oW A_t_now c_t_now_knots c_t_now_flows c_t_now_readSet), (A_t_now 0, eI cI 10 c_t_now_from), (A_t_now 1, eI cI 10 c_t_now_to), (A_t 4, eI cI 6 c_t_away)] sz)) 122 [] [] [(h_t, oM A_t), (A_t 0, oW A_t_now d_t_now_knots d_t_now_flows d_t_now_readSet), (A_t_now 0, eI cI 10 d_t_now_from), (A_t_now 1, eI cI 10 d_t_now_to), (A_t 4, eI cI 6 w0)] → yG p l e (headSpec wsX4_measureAway rmX4_measureAway).room s m (List.toArray [.ref h_t, .int x1, .int x2]) below meth c D (va_A [(h_t, oM A_t), (A_t 0, oW A_t_now c_t_now_knots c_t_now_flows c_t_now_readSet), (A_t_now 0, eI cI 10 c_t_now_from), (A_t_now 1, eI cI 10 c_t_now_to), (A_t 4, eI cI 6 c_t_away)] sz) 5 0 0 (MQ below (yQv D (yT cI cJ cZ cW cR) [(h_t, oM A_t), (A_t 0, oW A_t_now c_t_now_knots c_t_now_flows c_t_now_readSet), (A_t_now 0, eI cI 10 c_t_now_from), (A_t_now 1, eI cI 10 c_t_now_to), (A_t 4, eI cI 6 zc_t_away)] (va_A [(h_t, oM A_t), (A_t 0, oW A_t_now c_t_now_knots c_t_now_flows c_t_now_readSet), (A_t_now 0, eI cI 10 c_t_now_from), (A_t_now 1, eI cI 10 c_t_now_to), (A_t 4, eI cI 6 c_t_away)] sz)) (List.toArray [.ref h_t, .int x1, .int x2]) s 0 0 (va_A [(h_t, oM A_t), (A_t 0, oW A_t_now c_t_now_knots c_t_now_flows c_t_now_readSet), (A_t_now 0, eI cI 10 c_t_now_from), (A_t_now 1, eI cI 10 c_t_now_to), (A_t 4, eI cI 6 c_t_away)] sz)) 30 [(0, .ref h_t), (2, .int y2), (3, .int y3)] [] [(h_t, oM A_t), (A_t 0, oW A_t_now d_t_now_knots d_t_now_flows d_t_now_readSet), (A_t_now 0, eI cI 10 d_t_now_from), (A_t_now 1, eI cI 10 d_t_now_to), (A_t 4, eI cI 6 d_t_away)] := by
    intro n
    induction n with
    | zero =>
      intro y2 y3 d_t_now_knots d_t_now_flows d_t_now_readSet d_t_now_from d_t_now_to d_t_away w0 hf
      cases hf
    | succ n ih =>
      intro y2 y3 d_t_now_knots d_t_now_flows d_t_now_readSet d_t_now_from d_t_now_to d_t_away w0 hf hk
      unfold fX4_measureAway_L30 at hf
      refine g_iload_n Γ 2 dX4_measureAway_30 rfl ?_
      refine g_bipush (v := 6) Γ dX4_measureAway_31 (by decide) ?_
      refine g_icmp_ge Γ 122 dX4_measureAway_33 (by decide) (fun c10 => ?_) (fun c10 => ?_)
      · have hf := ya_if1 c10 hf
        cases hf
        refine g_lv [] rfl ?_
        exact hk
      · have hf := ya_if2 c10 hf
        refine g_iconst (v := 0) Γ dX4_measureAway_36 (by decide) ?_
        refine g_istore (lv' := [(4, .int 0), (0, .ref h_t), (2, .int y2), (3, .int y3)]) Γ dX4_measureAway_37 (by decide) rfl ?_
        obtain ⟨v31, e32, hf⟩ := ya_ob hf
        refine g_lv [1, 2, 3, 0] rfl ?_
        refine loop39 N _ _ _ _ _ _ _ _ _ _ e32  ?_
        obtain ⟨v33, e34, hf⟩ := ya_lt_inv hf
        refine g_iinc (lv' := [(3, .int v33), (0, .ref h_t), (2, .int y2)]) Γ 2 dX4_measureAway_116 rfl (by rw [e34]; rfl) (by decide) rfl ?_
        refine g_goto Γ 30 dX4_measureAway_119 (by decide) ?_
        refine g_lv [1, 2, 0] rfl ?_
        exact ih _ _ _ _ _ _ _ _ _ hf hk
  show yG p l e (headSpec wsX4_measureAway rmX4_measureAway).room s m (List.toArray [.ref h_t, .int x1, .int x2]) below meth c D (va_A [(h_t, oM A_t), (A_t 0, oW A_t_now c_t_now_knots c_t_now_flows c_t_now_readSet), (A_t_now 0, eI cI 10 c_t_now_from), (A_t_now 1, eI cI 10 c_t_now_to), (A_t 4, eI cI 6 c_t_away)] sz) 5 0 0 (MQ below (yQv D (yT cI cJ cZ cW cR) [(h_t, oM A_t), (A_t 0, oW A_t_now c_t_now_knots c_t_now_flows c_t_now_readSet), (A_t_now 0, eI cI 10 c_t_now_from), (A_t_now 1, eI cI 10 c_t_now_to), (A_t 4, eI cI 6 zc_t_away)] (va_A [(h_t, oM A_t), (A_t 0, oW A_t_now c_t_now_knots c_t_now_flows c_t_now_readSet), (A_t_now 0, eI cI 10 c_t_now_from), (A_t_now 1, eI cI 10 c_t_now_to), (A_t 4, eI cI 6 c_t_away)] sz)) (List.toArray [.ref h_t, .int x1, .int x2]) s 0 0 (va_A [(h_t, oM A_t), (A_t 0, oW A_t_now c_t_now_knots c_t_now_flows c_t_now_readSet), (A_t_now 0, eI cI 10 c_t_now_from), (A_t_now 1, eI cI 10 c_t_now_to), (A_t 4, eI cI 6 c_t_away)] sz)) 0 [(0, .ref h_t), (1, .int x1), (2, .int x2)] [] [(h_t, oM A_t), (A_t 0, oW A_t_now c_t_now_knots c_t_now_flows c_t_now_readSet), (A_t_now 0, eI cI 10 c_t_now_from), (A_t_now 1, eI cI 10 c_t_now_to), (A_t 4, eI cI 6 c_t_away)]
  unfold fX4_measureAway at hf
  refine g_iconst (v := 0) Γ dX4_measureAway_0 (by decide) ?_
  refine g_istore_n (lv' := [(3, .int 0), (0, .ref h_t), (1, .int x1), (2, .int x2)]) Γ dX4_measureAway_1 (by decide) rfl ?_
  obtain ⟨v6, e7, hf⟩ := ya_ob hf
  refine g_lv [1, 2, 3, 0] rfl ?_
  refine loop2 N _ _ _ _ _ _ _ _ _ _ e7  ?_
  refine g_aload_n Γ 0 dX4_measureAway_21 rfl ?_
  refine g_get Γ fX4_measureAway_37 0 rfl rfl dX4_measureAway_22 ?_
  refine g_iload_n Γ 1 dX4_measureAway_25 rfl ?_
  refine g_iconst (v := 0) Γ dX4_measureAway_26 (by decide) ?_
  obtain ⟨v8, e9, hf⟩ := ya_ob hf
  refine g_iast (ws' := [(h_t, oM A_t), (A_t 0, oW A_t_now c_t_now_knots c_t_now_flows c_t_now_readSet), (A_t_now 0, eI cI 10 c_t_now_from), (A_t_now 1, eI cI 10 c_t_now_to), (A_t 4, eI cI 6 v8)]) Γ e9 4 0 rfl rfl dX4_measureAway_27 rfl ?_
  refine g_iconst (v := 0) Γ dX4_measureAway_28 (by decide) ?_
  refine g_istore_n (lv' := [(3, .int 0), (0, .ref h_t), (1, .int x1), (2, .int x2)]) Γ dX4_measureAway_29 (by decide) rfl ?_
  obtain ⟨v35, e36, hf⟩ := ya_ob hf
  refine g_lv [1, 3, 0] rfl ?_
  refine loop30 N _ _ _ _ _ _ _ _ _ e36  ?_
  cases hf
  exact g_vret Γ hr dX4_measureAway_122 [0, 1, 2, 3, 4] rfl rfl

set_option maxRecDepth 20000 in
theorem ggX4_firstFlowNearer_X4_holds : GoodIn wsX4_firstFlowNearer wsX4_holds := goodIn_r _ [7] rfl (by decide +kernel)
set_option maxRecDepth 20000 in
theorem gX4_firstFlowNearer_X4_holds : GoodIn wsX4_firstFlowNearer (va_wsS RX4 78 yX4_holds wsX4_holds) := goodIn_app (goodIn_of _ (by decide +kernel)) ggX4_firstFlowNearer_X4_holds
set_option maxRecDepth 20000 in
theorem ggX4_firstFlowNearer_X3_touches : GoodIn wsX4_firstFlowNearer wsX3_touches := goodIn_r _ [12, 13, 14, 26, 27, 28, 29, 30, 31, 32, 33, 34, 35, 36] rfl (by decide +kernel)
set_option maxRecDepth 20000 in
theorem gX4_firstFlowNearer_X3_touches : GoodIn wsX4_firstFlowNearer (wsV RX4 235 RX3 yX3_touches wsX3_touches) := goodIn_app (goodIn_of _ (by decide +kernel)) ggX4_firstFlowNearer_X3_touches
set_option maxRecDepth 20000 in
theorem ggX4_firstFlowNearer_X3_otherEnd : GoodIn wsX4_firstFlowNearer wsX3_otherEnd := goodIn_r _ [18, 13, 14, 26, 27, 28, 29, 30, 31, 32, 33, 34, 35, 36] rfl (by decide +kernel)
set_option maxRecDepth 20000 in
theorem gX4_firstFlowNearer_X3_otherEnd : GoodIn wsX4_firstFlowNearer (wsV RX4 194 RX3 yX3_otherEnd wsX3_otherEnd) := goodIn_app (goodIn_of _ (by decide +kernel)) ggX4_firstFlowNearer_X3_otherEnd
theorem dX4_firstFlowNearer_0 : decode cX4_firstFlowNearer 0 = .ok (.iconst 0, 1) := by decide +kernel
theorem dX4_firstFlowNearer_1 : decode cX4_firstFlowNearer 1 = .ok (.istore_n 3, 1) := by decide +kernel
theorem dX4_firstFlowNearer_2 : decode cX4_firstFlowNearer 2 = .ok (.iload_n 3, 1) := by decide +kernel
theorem dX4_firstFlowNearer_3 : decode cX4_firstFlowNearer 3 = .ok (.aload_n 0, 1) := by decide +kernel
theorem dX4_firstFlowNearer_4 : decode cX4_firstFlowNearer 4 = .ok (.getfield 10, 3) := by decide +kernel
theorem dX4_firstFlowNearer_7 : decode cX4_firstFlowNearer 7 = .ok (.getfield 60, 3) := by decide +kernel
theorem dX4_firstFlowNearer_10 : decode cX4_firstFlowNearer 10 = .ok (.if_icmp .ge 65, 3) := by decide +kernel
theorem dX4_firstFlowNearer_13 : decode cX4_firstFlowNearer 13 = .ok (.iload_n 2, 1) := by decide +kernel
theorem dX4_firstFlowNearer_14 : decode cX4_firstFlowNearer 14 = .ok (.iload_n 3, 1) := by decide +kernel
theorem dX4_firstFlowNearer_15 : decode cX4_firstFlowNearer 15 = .ok (.invokestatic 78, 3) := by decide +kernel
theorem dX4_firstFlowNearer_18 : decode cX4_firstFlowNearer 18 = .ok (.ifCond .eq 51, 3) := by decide +kernel
theorem dX4_firstFlowNearer_21 : decode cX4_firstFlowNearer 21 = .ok (.aload_n 0, 1) := by decide +kernel
theorem dX4_firstFlowNearer_22 : decode cX4_firstFlowNearer 22 = .ok (.getfield 10, 3) := by decide +kernel
theorem dX4_firstFlowNearer_25 : decode cX4_firstFlowNearer 25 = .ok (.iload_n 3, 1) := by decide +kernel
theorem dX4_firstFlowNearer_26 : decode cX4_firstFlowNearer 26 = .ok (.iload_n 1, 1) := by decide +kernel
theorem dX4_firstFlowNearer_27 : decode cX4_firstFlowNearer 27 = .ok (.invokevirtual 235, 3) := by decide +kernel
theorem dX4_firstFlowNearer_30 : decode cX4_firstFlowNearer 30 = .ok (.ifCond .eq 39, 3) := by decide +kernel
theorem dX4_firstFlowNearer_33 : decode cX4_firstFlowNearer 33 = .ok (.aload_n 0, 1) := by decide +kernel
theorem dX4_firstFlowNearer_34 : decode cX4_firstFlowNearer 34 = .ok (.getfield 37, 3) := by decide +kernel
theorem dX4_firstFlowNearer_37 : decode cX4_firstFlowNearer 37 = .ok (.iload_n 1, 1) := by decide +kernel
theorem dX4_firstFlowNearer_38 : decode cX4_firstFlowNearer 38 = .ok (.iaload, 1) := by decide +kernel
theorem dX4_firstFlowNearer_39 : decode cX4_firstFlowNearer 39 = .ok (.ifCond .le 30, 3) := by decide +kernel
theorem dX4_firstFlowNearer_42 : decode cX4_firstFlowNearer 42 = .ok (.aload_n 0, 1) := by decide +kernel
theorem dX4_firstFlowNearer_43 : decode cX4_firstFlowNearer 43 = .ok (.getfield 37, 3) := by decide +kernel
theorem dX4_firstFlowNearer_46 : decode cX4_firstFlowNearer 46 = .ok (.aload_n 0, 1) := by decide +kernel
theorem dX4_firstFlowNearer_47 : decode cX4_firstFlowNearer 47 = .ok (.getfield 10, 3) := by decide +kernel
theorem dX4_firstFlowNearer_50 : decode cX4_firstFlowNearer 50 = .ok (.iload_n 3, 1) := by decide +kernel
theorem dX4_firstFlowNearer_51 : decode cX4_firstFlowNearer 51 = .ok (.iload_n 1, 1) := by decide +kernel
theorem dX4_firstFlowNearer_52 : decode cX4_firstFlowNearer 52 = .ok (.invokevirtual 194, 3) := by decide +kernel
theorem dX4_firstFlowNearer_55 : decode cX4_firstFlowNearer 55 = .ok (.iaload, 1) := by decide +kernel
theorem dX4_firstFlowNearer_56 : decode cX4_firstFlowNearer 56 = .ok (.aload_n 0, 1) := by decide +kernel
theorem dX4_firstFlowNearer_57 : decode cX4_firstFlowNearer 57 = .ok (.getfield 37, 3) := by decide +kernel
theorem dX4_firstFlowNearer_60 : decode cX4_firstFlowNearer 60 = .ok (.iload_n 1, 1) := by decide +kernel
theorem dX4_firstFlowNearer_61 : decode cX4_firstFlowNearer 61 = .ok (.iaload, 1) := by decide +kernel
theorem dX4_firstFlowNearer_62 : decode cX4_firstFlowNearer 62 = .ok (.iconst 1, 1) := by decide +kernel
theorem dX4_firstFlowNearer_63 : decode cX4_firstFlowNearer 63 = .ok (.isub, 1) := by decide +kernel
theorem dX4_firstFlowNearer_64 : decode cX4_firstFlowNearer 64 = .ok (.if_icmp .ne 5, 3) := by decide +kernel
theorem dX4_firstFlowNearer_67 : decode cX4_firstFlowNearer 67 = .ok (.iload_n 3, 1) := by decide +kernel
theorem dX4_firstFlowNearer_68 : decode cX4_firstFlowNearer 68 = .ok (.ireturn, 1) := by decide +kernel
theorem dX4_firstFlowNearer_69 : decode cX4_firstFlowNearer 69 = .ok (.iinc 3 1, 3) := by decide +kernel
theorem dX4_firstFlowNearer_72 : decode cX4_firstFlowNearer 72 = .ok (.goto (-70), 3) := by decide +kernel
theorem dX4_firstFlowNearer_75 : decode cX4_firstFlowNearer 75 = .ok (.iconst (-1), 1) := by decide +kernel
theorem dX4_firstFlowNearer_76 : decode cX4_firstFlowNearer 76 = .ok (.ireturn, 1) := by decide +kernel
/-! ===== FlowMeters.firstFlowNearer(II)I ===== -/
def fX4_firstFlowNearer_L2 (N : Nat) (n : Nat) (y1 : Int32) (y2 : Int32) (y3 : Int32) (d_t_now_flows : Int32) (d_t_now_from : Nat → Int32) (d_t_now_to : Nat → Int32) (d_t_away : Nat → Int32) : Option ((Int32) ⊕ (Unit)) := match n with
  | 0 => none
  | n + 1 =>
    (if d_t_now_flows ≤ y3 then
        some (.inr ())
      else
        (fX4_holds y2 y3).bind fun v2 =>
        (if v2 = 0 then
          ya_lt (y3 + 1) fun v5 =>
          fX4_firstFlowNearer_L2 N n y1 y2 v5 d_t_now_flows d_t_now_from d_t_now_to d_t_away
        else
          (fX3_touches d_t_now_from d_t_now_to y3 y1).bind fun v7 =>
          (if v7 = 0 then
            ya_lt (y3 + 1) fun v10 =>
            fX4_firstFlowNearer_L2 N n y1 y2 v10 d_t_now_flows d_t_now_from d_t_now_to d_t_away
          else
            (ya_rd d_t_away 6 y1).bind fun v12 =>
            (if v12 ≤ 0 then
              ya_lt (y3 + 1) fun v15 =>
              fX4_firstFlowNearer_L2 N n y1 y2 v15 d_t_now_flows d_t_now_from d_t_now_to d_t_away
            else
              (fX3_otherEnd d_t_now_from d_t_now_to y3 y1).bind fun v17 =>
              (ya_rd d_t_away 6 v17).bind fun v19 =>
              (ya_rd d_t_away 6 y1).bind fun v21 =>
              (if v19 = (v21 - 1) then
                some (.inl y3)
              else
                ya_lt (y3 + 1) fun v24 =>
                fX4_firstFlowNearer_L2 N n y1 y2 v24 d_t_now_flows d_t_now_from d_t_now_to d_t_away)))))
def fX4_firstFlowNearer (N : Nat) (c_t_now_flows : Int32) (c_t_now_from : Nat → Int32) (c_t_now_to : Nat → Int32) (c_t_away : Nat → Int32) (x1 : Int32) (x2 : Int32) : Option (Int32) :=
  (fX4_firstFlowNearer_L2 N N x1 x2 0 c_t_now_flows c_t_now_from c_t_now_to c_t_away).bind fun o26 => match o26 with
    | .inl v28 => some v28
    | .inr _ => some (-1)
theorem fX4_firstFlowNearer_10 : yF wsX4_firstFlowNearer RX4 10 4 0 RX4 TX4 7 := ⟨rfl, by decide, by decide +kernel, by decide +kernel⟩
theorem fX4_firstFlowNearer_60 : yF wsX4_firstFlowNearer RX4 60 3 1 RX3 TX3 11 := ⟨rfl, by decide, by decide +kernel, by decide +kernel⟩
theorem fX4_firstFlowNearer_37 : yF wsX4_firstFlowNearer RX4 37 4 4 RX4 TX4 7 := ⟨rfl, by decide, by decide +kernel, by decide +kernel⟩
abbrev rmX4_firstFlowNearer : Room := { frames := 1, cells := 0, slots := 0, locals := 22 }
theorem eX4_firstFlowNearer : yY yX4_firstFlowNearer wsX4_firstFlowNearer cX4_firstFlowNearer 4 (some .int) rmX4_firstFlowNearer 2 := ⟨⟨_, rfl⟩, rfl, rfl, by decide, by decide, by decide +kernel⟩
set_option maxHeartbeats 4000000 in
set_option maxRecDepth 100000 in
theorem mX4_firstFlowNearer {l : Launch} {D : va_G} {sz : Nat} {cI cJ cZ cW cR : ClassId} {N : Nat} {h_t : Nat} {A_t : Nat → Nat} {A_t_now : Nat → Nat} {c_t_now_knots : Int32} {c_t_now_flows : Int32} {c_t_now_readSet : Int32} {c_t_now_from : Nat → Int32} {c_t_now_to : Nat → Int32} {c_t_away : Nat → Int32} {x1 : Int32} {x2 : Int32} {r : Int32} (hf : fX4_firstFlowNearer N c_t_now_flows c_t_now_from c_t_now_to c_t_away x1 x2 = some r) : Met l yX4_firstFlowNearer wsX4_firstFlowNearer rmX4_firstFlowNearer (yP D (yT cI cJ cZ cW cR) [(h_t, oM A_t), (A_t 0, oW A_t_now c_t_now_knots c_t_now_flows c_t_now_readSet), (A_t_now 0, eI cI 10 c_t_now_from), (A_t_now 1, eI cI 10 c_t_now_to), (A_t 4, eI cI 6 c_t_away)] sz [.ref h_t, .int x1, .int x2]) (yQi D (yT cI cJ cZ cW cR) r [(h_t, oM A_t), (A_t 0, oW A_t_now c_t_now_knots c_t_now_flows c_t_now_readSet), (A_t_now 0, eI cI 10 c_t_now_from), (A_t_now 1, eI cI 10 c_t_now_to), (A_t 4, eI cI 6 c_t_away)] (va_A [(h_t, oM A_t), (A_t 0, oW A_t_now c_t_now_knots c_t_now_flows c_t_now_readSet), (A_t_now 0, eI cI 10 c_t_now_from), (A_t_now 1, eI cI 10 c_t_now_to), (A_t 4, eI cI 6 c_t_away)] sz)) 0 0 (va_A [(h_t, oM A_t), (A_t 0, oW A_t_now c_t_now_knots c_t_now_flows c_t_now_readSet), (A_t_now 0, eI cI 10 c_t_now_from), (A_t_now 1, eI cI 10 c_t_now_to), (A_t 4, eI cI 6 c_t_away)] sz) := by
  refine yM (cc := cX4_firstFlowNearer) (maxL := 4) (ret := (some .int)) RX4 (by decide) rfl rfl (Nat.le_of_ble_eq_true rfl) ?_
  intro p e s m below meth c Γ hr
  have loop2 : ∀ (n : Nat) (y1 : Int32) (y2 : Int32) (y3 : Int32) (d_t_now_knots : Int32) (d_t_now_flows : Int32) (d_t_now_readSet : Int32) (d_t_now_from : Nat → Int32) (d_t_now_to : Nat → Int32) (d_t_away : Nat → Int32) (o : (Int32) ⊕ (Unit)), fX4_firstFlowNearer_L2 N n y1 y2 y3 d_t_now_flows d_t_now_from d_t_now_to d_t_away = some o → (∀ (w0 : Int32), o = .inl w0 → yG p l e (headSpec wsX4_firstFlowNearer rmX4_firstFlowNearer).room s m (List.toArray [.ref h_t, .int x1, .int x2]) below meth c D (va_A [(h_t, oM A_t), (A_t 0, oW A_t_now c_t_now_knots c_t_now_flows c_t_now_readSet), (A_t_now 0, eI cI 10 c_t_now_from), (A_t_now 1, eI cI 10 c_t_now_to), (A_t 4, eI cI 6 c_t_away)] sz) 4 0 0 (MQ below (yQi D (yT cI cJ cZ cW cR) r [(h_t, oM A_t), (A_t 0, oW A_t_now c_t_now_knots c_t_now_flows c_t_now_readSet), (A_t_now 0, eI cI 10 c_t_now_from), (A_t_now 1, eI cI 10 c_t_now_to), (A_t 4, eI cI 6 c_t_away)] (va_A [(h_t, oM A_t), (A_t 0, oW A_t_now c_t_now_knots c_t_now_flows c_t_now_readSet), (A_t_now 0, eI cI 10 c_t_now_from), (A_t_now 1, eI cI 10 c_t_now_to), (A_t 4, eI cI 6 c_t_away)] sz)) (List.toArray [.ref h_t, .int x1, .int x2]) s 0 0 (va_A [(h_t, oM A_t), (A_t 0, oW A_t_now c_t_now_knots c_t_now_flows c_t_now_readSet), (A_t_now 0, eI cI 10 c_t_now_from), (A_t_now 1, eI cI 10 c_t_now_to), (A_t 4, eI cI 6 c_t_away)] sz)) 67 [(3, .int w0)] [] [(h_t, oM A_t), (A_t 0, oW A_t_now d_t_now_knots d_t_now_flows d_t_now_readSet), (A_t_now 0, eI cI 10 d_t_now_from), (A_t_now 1, eI cI 10 d_t_now_to), (A_t 4, eI cI 6 d_t_away)]) → (∀ (w : Unit), o = .inr w → yG p l e (headSpec wsX4_firstFlowNearer rmX4_firstFlowNearer).room s m (List.toArray [.ref h_t, .int x1, .int x2]) below meth c D (va_A [(h_t, oM A_t), (A_t 0, oW A_t_now c_t_now_knots c_t_now_flows c_t_now_readSet), (A_t_now 0, eI cI 10 c_t_now_from), (A_t_now 1, eI cI 10 c_t_now_to), (A_t 4, eI cI 6 c_t_away)] sz) 4 0 0 (MQ below (yQi D (yT cI cJ cZ cW cR) r [(h_t, oM A_t), (A_t 0, oW A_t_now c_t_now_knots c_t_now_flows c_t_now_readSet), (A_t_now 0, eI cI 10 c_t_now_from), (A_t_now 1, eI cI 10 c_t_now_to), (A_t 4, eI cI 6 c_t_away)] (va_A [(h_t, oM A_t), (A_t 0, oW A_t_now c_t_now_knots c_t_now_flows c_t_now_readSet), (A_t_now 0, eI cI 10 c_t_now_from), (A_t_now 1, eI cI 10 c_t_now_to), (A_t 4, eI cI 6 c_t_away)] sz)) (List.toArray [.ref h_t, .int x1, .int x2]) s 0 0 (va_A [(h_t, oM A_t), (A_t 0, oW A_t_now c_t_now_knots c_t_now_flows c_t_now_readSet), (A_t_now 0, eI cI 10 c_t_now_from), (A_t_now 1, eI cI 10 c_t_now_to), (A_t 4, eI cI 6 c_t_away)] sz)) 75 [] [] [(h_t, oM A_t), (A_t 0, oW A_t_now d_t_now_knots d_t_now_flows d_t_now_readSet), (A_t_now 0, eI cI 10 d_t_now_from), (A_t_now 1, eI cI 10 d_t_now_to), (A_t 4, eI cI 6 d_t_away)]) → yG p l e (headSpec wsX4_firstFlowNearer rmX4_firstFlowNearer).room s m (List.toArray [.ref h_t, .int x1, .int x2]) below meth c D (va_A [(h_t, oM A_t), (A_t 0, oW A_t_now c_t_now_knots c_t_now_flows c_t_now_readSet), (A_t_now 0, eI cI 10 c_t_now_from), (A_t_now 1, eI cI 10 c_t_now_to), (A_t 4, eI cI 6 c_t_away)] sz) 4 0 0 (MQ below (yQi D (yT cI cJ cZ cW cR) r [(h_t, oM A_t), (A_t 0, oW A_t_now c_t_now_knots c_t_now_flows c_t_now_readSet), (A_t_now 0, eI cI 10 c_t_now_from), (A_t_now 1, eI cI 10 c_t_now_to), (A_t 4, eI cI 6 c_t_away)] (va_A [(h_t, oM A_t), (A_t 0, oW A_t_now c_t_now_knots c_t_now_flows c_t_now_readSet), (A_t_now 0, eI cI 10 c_t_now_from), (A_t_now 1, eI cI 10 c_t_now_to), (A_t 4, eI cI 6 c_t_away)] sz)) (List.toArray [.ref h_t, .int x1, .int x2]) s 0 0 (va_A [(h_t, oM A_t), (A_t 0, oW A_t_now c_t_now_knots c_t_now_flows c_t_now_readSet), (A_t_now 0, eI cI 10 c_t_now_from), (A_t_now 1, eI cI 10 c_t_now_to), (A_t 4, eI cI 6 c_t_away)] sz)) 2 [(0, .ref h_t), (1, .int y1), (2, .int y2), (3, .int y3)] [] [(h_t, oM A_t), (A_t 0, oW A_t_now d_t_now_knots d_t_now_flows d_t_now_readSet), (A_t_now 0, eI cI 10 d_t_now_from), (A_t_now 1, eI cI 10 d_t_now_to), (A_t 4, eI cI 6 d_t_away)] := by
    intro n
    induction n with
    | zero =>
      intro y1 y2 y3 d_t_now_knots d_t_now_flows d_t_now_readSet d_t_now_from d_t_now_to d_t_away o hf
      cases hf
    | succ n ih =>
      intro y1 y2 y3 d_t_now_knots d_t_now_flows d_t_now_readSet d_t_now_from d_t_now_to d_t_away o hf hk1 hk2
      unfold fX4_firstFlowNearer_L2 at hf
      refine g_iload_n Γ 3 dX4_firstFlowNearer_2 rfl ?_
      refine g_aload_n Γ 0 dX4_firstFlowNearer_3 rfl ?_
      refine g_get Γ fX4_firstFlowNearer_10 0 rfl rfl dX4_firstFlowNearer_4 ?_
      refine g_get Γ fX4_firstFlowNearer_60 1 rfl rfl dX4_firstFlowNearer_7 ?_
      refine g_icmp_ge Γ 75 dX4_firstFlowNearer_10 (by decide) (fun c1 => ?_) (fun c1 => ?_)
      · have hf := ya_if1 c1 hf
        cases hf
        refine g_lv [] rfl ?_
        exact hk2 _ rfl
      · have hf := ya_if2 c1 hf
        refine g_iload_n Γ 2 dX4_firstFlowNearer_13 rfl ?_
        refine g_iload_n Γ 3 dX4_firstFlowNearer_14 rfl ?_
        obtain ⟨v2, e3, hf⟩ := ya_ob hf
        refine g_si (wr := [(h_t, oM A_t), (A_t 0, oW A_t_now d_t_now_knots d_t_now_flows d_t_now_readSet), (A_t_now 0, eI cI 10 d_t_now_from), (A_t_now 1, eI cI 10 d_t_now_to), (A_t 4, eI cI 6 d_t_away)]) (ws' := [(h_t, oM A_t), (A_t 0, oW A_t_now d_t_now_knots d_t_now_flows d_t_now_readSet), (A_t_now 0, eI cI 10 d_t_now_from), (A_t_now 1, eI cI 10 d_t_now_to), (A_t 4, eI cI 6 d_t_away)]) Γ (fun sz => mX4_holds (l := l) (D := D) (sz := sz) (cI := cI) (cJ := cJ) (cZ := cZ) (cW := cW) (cR := cR)  (hf := e3)) eX4_holds ggX4_firstFlowNearer_X4_holds (by decide +kernel) (by decide +kernel) (by decide +kernel) rfl rfl (Nat.le_of_ble_eq_true rfl) ⟨Nat.le_of_ble_eq_true rfl, Nat.le_of_ble_eq_true rfl⟩ dX4_firstFlowNearer_15 [] [0, 1, 2, 3, 4] rfl rfl rfl rfl (by decide) rfl ?_
        refine g_if_eq Γ 69 dX4_firstFlowNearer_18 (by decide) (fun c4 => ?_) (fun c4 => ?_)
        · have hf := ya_if1 c4 hf
          obtain ⟨v5, e6, hf⟩ := ya_lt_inv hf
          refine g_iinc (lv' := [(3, .int v5), (0, .ref h_t), (1, .int y1), (2, .int y2)]) Γ 3 dX4_firstFlowNearer_69 rfl (by rw [e6]; rfl) (by decide) rfl ?_
          refine g_goto Γ 2 dX4_firstFlowNearer_72 (by decide) ?_
          refine g_lv [1, 2, 3, 0] rfl ?_
          exact ih _ _ _ _ _ _ _ _ _ _ hf hk1 hk2
        · have hf := ya_if2 c4 hf
          refine g_aload_n Γ 0 dX4_firstFlowNearer_21 rfl ?_
          refine g_get Γ fX4_firstFlowNearer_10 0 rfl rfl dX4_firstFlowNearer_22 ?_
          refine g_iload_n Γ 3 dX4_firstFlowNearer_25 rfl ?_
          refine g_iload_n Γ 1 dX4_firstFlowNearer_26 rfl ?_
          obtain ⟨v7, e8, hf⟩ := ya_ob hf
          refine g_vi (q := (RX3, TX3, 11)) (wr := [(h_t, oM A_t), (A_t 4, eI cI 6 d_t_away)]) (ws' := [(h_t, oM A_t), (A_t 4, eI cI 6 d_t_away), (A_t 0, oW A_t_now d_t_now_knots d_t_now_flows d_t_now_readSet), (A_t_now 0, eI cI 10 d_t_now_from), (A_t_now 1, eI cI 10 d_t_now_to)]) Γ (fun sz => mX3_touches (l := l) (D := D) (sz := sz) (cI := cI) (cJ := cJ) (cZ := cZ) (cW := cW) (cR := cR) (h_t := A_t 0) (A_t := A_t_now) (hf := e8)) eX3_touches gX4_firstFlowNearer_X3_touches rfl rfl 0 rfl rfl rfl (Nat.le_of_ble_eq_true rfl) ⟨Nat.le_of_ble_eq_true rfl, Nat.le_of_ble_eq_true rfl⟩ dX4_firstFlowNearer_27 [1, 2, 3] [0, 4] rfl rfl rfl rfl (by decide) rfl ?_
          refine g_if_eq Γ 69 dX4_firstFlowNearer_30 (by decide) (fun c9 => ?_) (fun c9 => ?_)
          · have hf := ya_if1 c9 hf
            obtain ⟨v10, e11, hf⟩ := ya_lt_inv hf
            refine g_iinc (lv' := [(3, .int v10), (0, .ref h_t), (1, .int y1), (2, .int y2)]) Γ 3 dX4_firstFlowNearer_69 rfl (by rw [e11]; rfl) (by decide) rfl ?_
            refine g_goto Γ 2 dX4_firstFlowNearer_72 (by decide) ?_
            refine g_lv [1, 2, 3, 0] rfl ?_
            refine g_ws (ws' := [(h_t, oM A_t), (A_t 0, oW A_t_now d_t_now_knots d_t_now_flows d_t_now_readSet), (A_t_now 0, eI cI 10 d_t_now_from), (A_t_now 1, eI cI 10 d_t_now_to), (A_t 4, eI cI 6 d_t_away)]) [0, 2, 3, 4, 1] rfl rfl ?_
            exact ih _ _ _ _ _ _ _ _ _ _ hf hk1 hk2
          · have hf := ya_if2 c9 hf
            refine g_aload_n Γ 0 dX4_firstFlowNearer_33 rfl ?_
            refine g_get Γ fX4_firstFlowNearer_37 0 rfl rfl dX4_firstFlowNearer_34 ?_
            refine g_iload_n Γ 1 dX4_firstFlowNearer_37 rfl ?_
            obtain ⟨v12, e13, hf⟩ := ya_ob hf
            refine g_iald Γ e13 1 0 rfl rfl dX4_firstFlowNearer_38 ?_
            refine g_if_le Γ 69 dX4_firstFlowNearer_39 (by decide) (fun c14 => ?_) (fun c14 => ?_)
            · have hf := ya_if1 c14 hf
              obtain ⟨v15, e16, hf⟩ := ya_lt_inv hf
              refine g_iinc (lv' := [(3, .int v15), (0, .ref h_t), (1, .int y1), (2, .int y2)]) Γ 3 dX4_firstFlowNearer_69 rfl (by rw [e16]; rfl) (by decide) rfl ?_
              refine g_goto Γ 2 dX4_firstFlowNearer_72 (by decide) ?_
              refine g_lv [1, 2, 3, 0] rfl ?_
              refine g_ws (ws' := [(h_t, oM A_t), (A_t 0, oW A_t_now d_t_now_knots d_t_now_flows d_t_now_readSet), (A_t_now 0, eI cI 10 d_t_now_from), (A_t_now 1, eI cI 10 d_t_now_to), (A_t 4, eI cI 6 d_t_away)]) [0, 2, 3, 4, 1] rfl rfl ?_
              exact ih _ _ _ _ _ _ _ _ _ _ hf hk1 hk2
            · have hf := ya_if2 c14 hf
              refine g_aload_n Γ 0 dX4_firstFlowNearer_42 rfl ?_
              refine g_get Γ fX4_firstFlowNearer_37 0 rfl rfl dX4_firstFlowNearer_43 ?_
              refine g_aload_n Γ 0 dX4_firstFlowNearer_46 rfl ?_
              refine g_get Γ fX4_firstFlowNearer_10 0 rfl rfl dX4_firstFlowNearer_47 ?_
              refine g_iload_n Γ 3 dX4_firstFlowNearer_50 rfl ?_
              refine g_iload_n Γ 1 dX4_firstFlowNearer_51 rfl ?_
              obtain ⟨v17, e18, hf⟩ := ya_ob hf
              refine g_vi (q := (RX3, TX3, 11)) (wr := [(h_t, oM A_t), (A_t 4, eI cI 6 d_t_away)]) (ws' := [(h_t, oM A_t), (A_t 4, eI cI 6 d_t_away), (A_t 0, oW A_t_now d_t_now_knots d_t_now_flows d_t_now_readSet), (A_t_now 0, eI cI 10 d_t_now_from), (A_t_now 1, eI cI 10 d_t_now_to)]) Γ (fun sz => mX3_otherEnd (l := l) (D := D) (sz := sz) (cI := cI) (cJ := cJ) (cZ := cZ) (cW := cW) (cR := cR) (h_t := A_t 0) (A_t := A_t_now) (hf := e18)) eX3_otherEnd gX4_firstFlowNearer_X3_otherEnd rfl rfl 0 rfl rfl rfl (Nat.le_of_ble_eq_true rfl) ⟨Nat.le_of_ble_eq_true rfl, Nat.le_of_ble_eq_true rfl⟩ dX4_firstFlowNearer_52 [2, 3, 4] [0, 1] rfl rfl rfl rfl (by decide) rfl ?_
              obtain ⟨v19, e20, hf⟩ := ya_ob hf
              refine g_iald Γ e20 1 0 rfl rfl dX4_firstFlowNearer_55 ?_
              refine g_aload_n Γ 0 dX4_firstFlowNearer_56 rfl ?_
              refine g_get Γ fX4_firstFlowNearer_37 0 rfl rfl dX4_firstFlowNearer_57 ?_
              refine g_iload_n Γ 1 dX4_firstFlowNearer_60 rfl ?_
              obtain ⟨v21, e22, hf⟩ := ya_ob hf
              refine g_iald Γ e22 1 0 rfl rfl dX4_firstFlowNearer_61 ?_
              refine g_iconst (v := 1) Γ dX4_firstFlowNearer_62 (by decide) ?_
              refine g_isub Γ dX4_firstFlowNearer_63 ?_
              refine g_icmp_ne Γ 69 dX4_firstFlowNearer_64 (by decide) (fun c23 => ?_) (fun c23 => ?_)
              · have hf := ya_if2 c23 hf
                obtain ⟨v24, e25, hf⟩ := ya_lt_inv hf
                refine g_iinc (lv' := [(3, .int v24), (0, .ref h_t), (1, .int y1), (2, .int y2)]) Γ 3 dX4_firstFlowNearer_69 rfl (by rw [e25]; rfl) (by decide) rfl ?_
                refine g_goto Γ 2 dX4_firstFlowNearer_72 (by decide) ?_
                refine g_lv [1, 2, 3, 0] rfl ?_
                refine g_ws (ws' := [(h_t, oM A_t), (A_t 0, oW A_t_now d_t_now_knots d_t_now_flows d_t_now_readSet), (A_t_now 0, eI cI 10 d_t_now_from), (A_t_now 1, eI cI 10 d_t_now_to), (A_t 4, eI cI 6 d_t_away)]) [0, 2, 3, 4, 1] rfl rfl ?_
                exact ih _ _ _ _ _ _ _ _ _ _ hf hk1 hk2
              · have hf := ya_if1 c23 hf
                cases hf
                refine g_lv [3] rfl ?_
                refine g_ws (ws' := [(h_t, oM A_t), (A_t 0, oW A_t_now d_t_now_knots d_t_now_flows d_t_now_readSet), (A_t_now 0, eI cI 10 d_t_now_from), (A_t_now 1, eI cI 10 d_t_now_to), (A_t 4, eI cI 6 d_t_away)]) [0, 2, 3, 4, 1] rfl rfl ?_
                exact hk1 _ rfl
  show yG p l e (headSpec wsX4_firstFlowNearer rmX4_firstFlowNearer).room s m (List.toArray [.ref h_t, .int x1, .int x2]) below meth c D (va_A [(h_t, oM A_t), (A_t 0, oW A_t_now c_t_now_knots c_t_now_flows c_t_now_readSet), (A_t_now 0, eI cI 10 c_t_now_from), (A_t_now 1, eI cI 10 c_t_now_to), (A_t 4, eI cI 6 c_t_away)] sz) 4 0 0 (MQ below (yQi D (yT cI cJ cZ cW cR) r [(h_t, oM A_t), (A_t 0, oW A_t_now c_t_now_knots c_t_now_flows c_t_now_readSet), (A_t_now 0, eI cI 10 c_t_now_from), (A_t_now 1, eI cI 10 c_t_now_to), (A_t 4, eI cI 6 c_t_away)] (va_A [(h_t, oM A_t), (A_t 0, oW A_t_now c_t_now_knots c_t_now_flows c_t_now_readSet), (A_t_now 0, eI cI 10 c_t_now_from), (A_t_now 1, eI cI 10 c_t_now_to), (A_t 4, eI cI 6 c_t_away)] sz)) (List.toArray [.ref h_t, .int x1, .int x2]) s 0 0 (va_A [(h_t, oM A_t), (A_t 0, oW A_t_now c_t_now_knots c_t_now_flows c_t_now_readSet), (A_t_now 0, eI cI 10 c_t_now_from), (A_t_now 1, eI cI 10 c_t_now_to), (A_t 4, eI cI 6 c_t_away)] sz)) 0 [(0, .ref h_t), (1, .int x1), (2, .int x2)] [] [(h_t, oM A_t), (A_t 0, oW A_t_now c_t_now_knots c_t_now_flows c_t_now_readSet), (A_t_now 0, eI cI 10 c_t_now_from), (A_t_now 1, eI cI 10 c_t_now_to), (A_t 4, eI cI 6 c_t_away)]
  unfold fX4_firstFlowNearer at hf
  refine g_iconst (v := 0) Γ dX4_firstFlowNearer_0 (by decide) ?_
  refine g_istore_n (lv' := [(3, .int 0), (0, .ref h_t), (1, .int x1), (2, .int x2)]) Γ dX4_firstFlowNearer_1 (by decide) rfl ?_
  obtain ⟨o26, e27, hf⟩ := ya_ob hf
  refine g_lv [1, 2, 3, 0] rfl ?_
  refine loop2 N _ _ _ _ _ _ _ _ _ o26 e27 ?_ ?_
  · intro v28 ho; subst ho
    refine g_iload_n Γ 0 dX4_firstFlowNearer_67 rfl ?_
    cases hf
    exact g_iret Γ hr dX4_firstFlowNearer_68 [0, 1, 2, 3, 4] rfl rfl
  · intro _ ho; subst ho
    refine g_iconst (v := (-1)) Γ dX4_firstFlowNearer_75 (by decide) ?_
    cases hf
    exact g_iret Γ hr dX4_firstFlowNearer_76 [0, 1, 2, 3, 4] rfl rfl

set_option maxRecDepth 20000 in
theorem ggX4_round_X4_isFlow : GoodIn wsX4_round wsX4_isFlow := goodIn_r _ [8, 1, 9, 81, 82, 83, 84, 85, 86, 87, 88, 89, 90, 91, 92, 93, 94, 95, 96, 97, 98] rfl (by decide +kernel)
set_option maxRecDepth 20000 in
theorem gX4_round_X4_isFlow : GoodIn wsX4_round (wsV RX4 68 RX4 yX4_isFlow wsX4_isFlow) := goodIn_app (goodIn_of _ (by decide +kernel)) ggX4_round_X4_isFlow
set_option maxRecDepth 20000 in
theorem ggX4_round_X4_isSeen : GoodIn wsX4_round wsX4_isSeen := goodIn_r _ [13, 1, 14, 15, 16, 17, 7, 18, 19, 20, 21, 22, 23, 24, 25, 26, 27, 28, 29, 30, 31, 32, 33, 34, 35, 36, 37, 38, 39, 40, 41, 42, 43, 44, 45, 46, 47, 48, 49, 50, 51, 52, 53, 54, 55, 56, 57, 81, 82, 83, 84, 85, 86, 87, 88, 89, 90, 91, 92, 93, 94, 95, 96, 97, 98, 99] rfl (by decide +kernel)
set_option maxRecDepth 20000 in
theorem gX4_round_X4_isSeen : GoodIn wsX4_round (wsV RX4 152 RX4 yX4_isSeen wsX4_isSeen) := goodIn_app (goodIn_of _ (by decide +kernel)) ggX4_round_X4_isSeen
set_option maxRecDepth 20000 in
theorem ggX4_round_X3_unreadSet : GoodIn wsX4_round wsX3_unreadSet := goodIn_r _ [23, 24, 25, 26, 27, 22, 28, 29, 30, 7, 31, 88, 89, 90, 91, 92, 93, 94, 95, 96, 97, 98] rfl (by decide +kernel)
set_option maxRecDepth 20000 in
theorem gX4_round_X3_unreadSet : GoodIn wsX4_round (wsV RX4 120 RX3 yX3_unreadSet wsX3_unreadSet) := goodIn_app (goodIn_of _ (by decide +kernel)) ggX4_round_X3_unreadSet
set_option maxRecDepth 20000 in
theorem ggX4_round_X4_bit : GoodIn wsX4_round wsX4_bit := goodIn_r _ [31] rfl (by decide +kernel)
set_option maxRecDepth 20000 in
theorem gX4_round_X4_bit : GoodIn wsX4_round (va_wsS RX4 185 yX4_bit wsX4_bit) := goodIn_app (goodIn_of _ (by decide +kernel)) ggX4_round_X4_bit
set_option maxRecDepth 20000 in
theorem ggX4_round_X4_measureAway : GoodIn wsX4_round wsX4_measureAway := goodIn_r _ [61, 62, 1, 9, 2, 3, 16, 17, 7, 18, 63, 64, 65, 66, 81, 82, 83, 84, 85, 86, 87, 88, 89, 90, 91, 92, 93, 94, 95, 96, 97, 98] rfl (by decide +kernel)
set_option maxRecDepth 20000 in
theorem gX4_round_X4_measureAway : GoodIn wsX4_round (wsV RX4 188 RX4 yX4_measureAway wsX4_measureAway) := goodIn_app (goodIn_of _ (by decide +kernel)) ggX4_round_X4_measureAway
set_option maxRecDepth 20000 in
theorem ggX4_round_X4_firstFlowNearer : GoodIn wsX4_round wsX4_firstFlowNearer := goodIn_r _ [70, 1, 9, 62, 16, 17, 7, 18, 71, 72, 73, 22, 74, 75, 76, 77, 78, 79, 80, 81, 82, 83, 84, 85, 86, 87, 88, 89, 90, 91, 92, 93, 94, 95, 96, 97, 98] rfl (by decide +kernel)
set_option maxRecDepth 20000 in
theorem gX4_round_X4_firstFlowNearer : GoodIn wsX4_round (wsV RX4 191 RX4 yX4_firstFlowNearer wsX4_firstFlowNearer) := goodIn_app (goodIn_of _ (by decide +kernel)) ggX4_round_X4_firstFlowNearer
set_option maxRecDepth 20000 in
theorem ggX4_round_X3_otherEnd : GoodIn wsX4_round wsX3_otherEnd := goodIn_r _ [80, 75, 76, 88, 89, 90, 91, 92, 93, 94, 95, 96, 97, 98] rfl (by decide +kernel)
set_option maxRecDepth 20000 in
theorem gX4_round_X3_otherEnd : GoodIn wsX4_round (wsV RX4 194 RX3 yX3_otherEnd wsX3_otherEnd) := goodIn_app (goodIn_of _ (by decide +kernel)) ggX4_round_X3_otherEnd
theorem dX4_round_0 : decode cX4_round 0 = .ok (.aload_n 0, 1) := by decide +kernel
theorem dX4_round_1 : decode cX4_round 1 = .ok (.iload_n 1, 1) := by decide +kernel
theorem dX4_round_2 : decode cX4_round 2 = .ok (.invokevirtual 68, 3) := by decide +kernel
theorem dX4_round_5 : decode cX4_round 5 = .ok (.ifCond .eq 21, 3) := by decide +kernel
theorem dX4_round_8 : decode cX4_round 8 = .ok (.iload_n 2, 1) := by decide +kernel
theorem dX4_round_9 : decode cX4_round 9 = .ok (.ifCond .lt 17, 3) := by decide +kernel
theorem dX4_round_12 : decode cX4_round 12 = .ok (.iload_n 2, 1) := by decide +kernel
theorem dX4_round_13 : decode cX4_round 13 = .ok (.bipush 6, 2) := by decide +kernel
theorem dX4_round_15 : decode cX4_round 15 = .ok (.if_icmp .ge 11, 3) := by decide +kernel
theorem dX4_round_18 : decode cX4_round 18 = .ok (.aload_n 0, 1) := by decide +kernel
theorem dX4_round_19 : decode cX4_round 19 = .ok (.iload_n 1, 1) := by decide +kernel
theorem dX4_round_20 : decode cX4_round 20 = .ok (.invokevirtual 152, 3) := by decide +kernel
theorem dX4_round_23 : decode cX4_round 23 = .ok (.ifCond .eq 5, 3) := by decide +kernel
theorem dX4_round_26 : decode cX4_round 26 = .ok (.iconst (-1), 1) := by decide +kernel
theorem dX4_round_27 : decode cX4_round 27 = .ok (.ireturn, 1) := by decide +kernel
theorem dX4_round_28 : decode cX4_round 28 = .ok (.aload_n 0, 1) := by decide +kernel
theorem dX4_round_29 : decode cX4_round 29 = .ok (.getfield 10, 3) := by decide +kernel
theorem dX4_round_32 : decode cX4_round 32 = .ok (.invokevirtual 120, 3) := by decide +kernel
theorem dX4_round_35 : decode cX4_round 35 = .ok (.iload_n 1, 1) := by decide +kernel
theorem dX4_round_36 : decode cX4_round 36 = .ok (.invokestatic 185, 3) := by decide +kernel
theorem dX4_round_39 : decode cX4_round 39 = .ok (.iconst (-1), 1) := by decide +kernel
theorem dX4_round_40 : decode cX4_round 40 = .ok (.ixor, 1) := by decide +kernel
theorem dX4_round_41 : decode cX4_round 41 = .ok (.iand, 1) := by decide +kernel
theorem dX4_round_42 : decode cX4_round 42 = .ok (.istore_n 3, 1) := by decide +kernel
theorem dX4_round_43 : decode cX4_round 43 = .ok (.aload_n 0, 1) := by decide +kernel
theorem dX4_round_44 : decode cX4_round 44 = .ok (.aload_n 0, 1) := by decide +kernel
theorem dX4_round_45 : decode cX4_round 45 = .ok (.getfield 10, 3) := by decide +kernel
theorem dX4_round_48 : decode cX4_round 48 = .ok (.getfield 140, 3) := by decide +kernel
theorem dX4_round_51 : decode cX4_round 51 = .ok (.iload_n 1, 1) := by decide +kernel
theorem dX4_round_52 : decode cX4_round 52 = .ok (.iaload, 1) := by decide +kernel
theorem dX4_round_53 : decode cX4_round 53 = .ok (.iload_n 3, 1) := by decide +kernel
theorem dX4_round_54 : decode cX4_round 54 = .ok (.invokevirtual 188, 3) := by decide +kernel
theorem dX4_round_57 : decode cX4_round 57 = .ok (.iload_n 1, 1) := by decide +kernel
theorem dX4_round_58 : decode cX4_round 58 = .ok (.istore 4, 2) := by decide +kernel
theorem dX4_round_60 : decode cX4_round 60 = .ok (.aload_n 0, 1) := by decide +kernel
theorem dX4_round_61 : decode cX4_round 61 = .ok (.getfield 10, 3) := by decide +kernel
theorem dX4_round_64 : decode cX4_round 64 = .ok (.getfield 143, 3) := by decide +kernel
theorem dX4_round_67 : decode cX4_round 67 = .ok (.iload_n 1, 1) := by decide +kernel
theorem dX4_round_68 : decode cX4_round 68 = .ok (.iaload, 1) := by decide +kernel
theorem dX4_round_69 : decode cX4_round 69 = .ok (.istore 5, 2) := by decide +kernel
theorem dX4_round_71 : decode cX4_round 71 = .ok (.iconst 0, 1) := by decide +kernel
theorem dX4_round_72 : decode cX4_round 72 = .ok (.istore 6, 2) := by decide +kernel
theorem dX4_round_74 : decode cX4_round 74 = .ok (.iload 6, 2) := by decide +kernel
theorem dX4_round_76 : decode cX4_round 76 = .ok (.iload_n 2, 1) := by decide +kernel
theorem dX4_round_77 : decode cX4_round 77 = .ok (.if_icmp .ge 43, 3) := by decide +kernel
theorem dX4_round_80 : decode cX4_round 80 = .ok (.iload 4, 2) := by decide +kernel
theorem dX4_round_82 : decode cX4_round 82 = .ok (.iconst (-1), 1) := by decide +kernel
theorem dX4_round_83 : decode cX4_round 83 = .ok (.if_icmp .eq 37, 3) := by decide +kernel
theorem dX4_round_86 : decode cX4_round 86 = .ok (.aload_n 0, 1) := by decide +kernel
theorem dX4_round_87 : decode cX4_round 87 = .ok (.iload 5, 2) := by decide +kernel
theorem dX4_round_89 : decode cX4_round 89 = .ok (.iload_n 3, 1) := by decide +kernel
theorem dX4_round_90 : decode cX4_round 90 = .ok (.invokevirtual 191, 3) := by decide +kernel
theorem dX4_round_93 : decode cX4_round 93 = .ok (.istore 4, 2) := by decide +kernel
theorem dX4_round_95 : decode cX4_round 95 = .ok (.iload 4, 2) := by decide +kernel
theorem dX4_round_97 : decode cX4_round 97 = .ok (.iconst (-1), 1) := by decide +kernel
theorem dX4_round_98 : decode cX4_round 98 = .ok (.if_icmp .eq 16, 3) := by decide +kernel
theorem dX4_round_101 : decode cX4_round 101 = .ok (.aload_n 0, 1) := by decide +kernel
theorem dX4_round_102 : decode cX4_round 102 = .ok (.getfield 10, 3) := by decide +kernel
theorem dX4_round_105 : decode cX4_round 105 = .ok (.iload 4, 2) := by decide +kernel
theorem dX4_round_107 : decode cX4_round 107 = .ok (.iload 5, 2) := by decide +kernel
theorem dX4_round_109 : decode cX4_round 109 = .ok (.invokevirtual 194, 3) := by decide +kernel
theorem dX4_round_112 : decode cX4_round 112 = .ok (.istore 5, 2) := by decide +kernel
theorem dX4_round_114 : decode cX4_round 114 = .ok (.iinc 6 1, 3) := by decide +kernel
theorem dX4_round_117 : decode cX4_round 117 = .ok (.goto (-43), 3) := by decide +kernel
theorem dX4_round_120 : decode cX4_round 120 = .ok (.iload 4, 2) := by decide +kernel
theorem dX4_round_122 : decode cX4_round 122 = .ok (.ireturn, 1) := by decide +kernel
/-! ===== FlowMeters.round(II)I ===== -/
def fX4_round_L74 (N : Nat) (n : Nat) (y2 : Int32) (y3 : Int32) (y4 : Int32) (y5 : Int32) (y6 : Int32) (d_t_now_flows : Int32) (d_t_now_from : Nat → Int32) (d_t_now_to : Nat → Int32) (d_t_away : Nat → Int32) : Option (Int32) := match n with
  | 0 => none
  | n + 1 =>
    (if y2 ≤ y6 then
        some y4
      else
        (if y4 = (-1) then
          some y4
        else
          (fX4_firstFlowNearer N d_t_now_flows d_t_now_from d_t_now_to d_t_away y5 y3).bind fun v24 =>
          (if v24 = (-1) then
            ya_lt (y6 + 1) fun v27 =>
            fX4_round_L74 N n y2 y3 v24 y5 v27 d_t_now_flows d_t_now_from d_t_now_to d_t_away
          else
            (fX3_otherEnd d_t_now_from d_t_now_to v24 y5).bind fun v29 =>
            ya_lt (y6 + 1) fun v31 =>
            fX4_round_L74 N n y2 y3 v24 v29 v31 d_t_now_flows d_t_now_from d_t_now_to d_t_away)))
def fX4_round (N : Nat) (c_t_now_flows : Int32) (c_t_now_readSet : Int32) (c_t_now_from : Nat → Int32) (c_t_now_to : Nat → Int32) (c_t_groups_least : Nat → Int32) (c_t_away : Nat → Int32) (x1 : Int32) (x2 : Int32) : Option (Int32 × (Nat → Int32) × (Nat → Int32)) :=
  (fX4_isFlow c_t_now_flows x1).bind fun v1 =>
  (if v1 = 0 then
    some ((-1), c_t_groups_least, c_t_away)
  else
    (if x2 < 0 then
      some ((-1), c_t_groups_least, c_t_away)
    else
      (if 6 ≤ x2 then
        some ((-1), c_t_groups_least, c_t_away)
      else
        (fX4_isSeen N c_t_now_flows c_t_now_readSet c_t_now_from c_t_now_to c_t_groups_least x1).bind fun (v6, v7) =>
        (if v6 = 0 then
          (fX3_unreadSet c_t_now_flows c_t_now_readSet).bind fun v10 =>
          (fX4_bit x1).bind fun v12 =>
          ya_lt (v10 &&& (v12 ^^^ (-1))) fun v14 =>
          (ya_rd c_t_now_from 10 x1).bind fun v16 =>
          (fX4_measureAway N c_t_now_flows c_t_now_from c_t_now_to c_t_away v16 v14).bind fun v18 =>
          (ya_rd c_t_now_to 10 x1).bind fun v20 =>
          (fX4_round_L74 N N x2 v14 x1 v20 0 c_t_now_flows c_t_now_from c_t_now_to v18).bind fun v33 =>
          some (v33, v7, v18)
        else
          some ((-1), v7, c_t_away)))))
theorem fX4_round_10 : yF wsX4_round RX4 10 4 0 RX4 TX4 7 := ⟨rfl, by decide, by decide +kernel, by decide +kernel⟩
theorem fX4_round_140 : yF wsX4_round RX4 140 3 3 RX3 TX3 11 := ⟨rfl, by decide, by decide +kernel, by decide +kernel⟩
theorem fX4_round_143 : yF wsX4_round RX4 143 3 4 RX3 TX3 11 := ⟨rfl, by decide, by decide +kernel, by decide +kernel⟩
abbrev rmX4_round : Room := { frames := 4, cells := 0, slots := 0, locals := 118 }
theorem eX4_round : yY yX4_round wsX4_round cX4_round 7 (some .int) rmX4_round 2 := ⟨⟨_, rfl⟩, rfl, rfl, by decide, by decide, by decide +kernel⟩
set_option maxHeartbeats 4000000 in
set_option maxRecDepth 100000 in
theorem mX4_round {l : Launch} {D : va_G} {sz : Nat} {cI cJ cZ cW cR : ClassId} {N : Nat} {h_t : Nat} {A_t : Nat → Nat} {A_t_now : Nat → Nat} {A_t_groups : Nat → Nat} {c_t_now_knots : Int32} {c_t_now_flows : Int32} {c_t_now_readSet : Int32} {c_t_now_from : Nat → Int32} {c_t_now_to : Nat → Int32} {c_t_groups_least : Nat → Int32} {c_t_away : Nat → Int32} {x1 : Int32} {x2 : Int32} {r : Int32} {zc_t_groups_least : Nat → Int32} {zc_t_away : Nat → Int32} (hf : fX4_round N c_t_now_flows c_t_now_readSet c_t_now_from c_t_now_to c_t_groups_least c_t_away x1 x2 = some (r, zc_t_groups_least, zc_t_away)) : Met l yX4_round wsX4_round rmX4_round (yP D (yT cI cJ cZ cW cR) [(h_t, oM A_t), (A_t 0, oW A_t_now c_t_now_knots c_t_now_flows c_t_now_readSet), (A_t_now 0, eI cI 10 c_t_now_from), (A_t_now 1, eI cI 10 c_t_now_to), (A_t 2, oG A_t_groups), (A_t_groups 0, eI cI 6 c_t_groups_least), (A_t 4, eI cI 6 c_t_away)] sz [.ref h_t, .int x1, .int x2]) (yQi D (yT cI cJ cZ cW cR) r [(h_t, oM A_t), (A_t 0, oW A_t_now c_t_now_knots c_t_now_flows c_t_now_readSet), (A_t_now 0, eI cI 10 c_t_now_from), (A_t_now 1, eI cI 10 c_t_now_to), (A_t 2, oG A_t_groups), (A_t_groups 0, eI cI 6 zc_t_groups_least), (A_t 4, eI cI 6 zc_t_away)] (va_A [(h_t, oM A_t), (A_t 0, oW A_t_now c_t_now_knots c_t_now_flows c_t_now_readSet), (A_t_now 0, eI cI 10 c_t_now_from), (A_t_now 1, eI cI 10 c_t_now_to), (A_t 2, oG A_t_groups), (A_t_groups 0, eI cI 6 c_t_groups_least), (A_t 4, eI cI 6 c_t_away)] sz)) 0 0 (va_A [(h_t, oM A_t), (A_t 0, oW A_t_now c_t_now_knots c_t_now_flows c_t_now_readSet), (A_t_now 0, eI cI 10 c_t_now_from), (A_t_now 1, eI cI 10 c_t_now_to), (A_t 2, oG A_t_groups), (A_t_groups 0, eI cI 6 c_t_groups_least), (A_t 4, eI cI 6 c_t_away)] sz) := by
  refine yM (cc := cX4_round) (maxL := 7) (ret := (some .int)) RX4 (by decide) rfl rfl (Nat.le_of_ble_eq_true rfl) ?_
  intro p e s m below meth c Γ hr
  have loop74 : ∀ (n : Nat) (y2 : Int32) (y3 : Int32) (y4 : Int32) (y5 : Int32) (y6 : Int32) (d_t_now_knots : Int32) (d_t_now_flows : Int32) (d_t_now_readSet : Int32) (d_t_now_from : Nat → Int32) (d_t_now_to : Nat → Int32) (d_t_groups_least : Nat → Int32) (d_t_away : Nat → Int32) (w0 : Int32), fX4_round_L74 N n y2 y3 y4 y5 y6 d_t_now_flows d_t_now_from d_t_now_to d_t_away = some w0 → yG p l e (headSpec wsX4_round rmX4_round).room s m (List.toArray [.ref h_t, .int x1, .int x2]) below meth c D (va_A [(h_t, oM A_t), (A_t 0, oW A_t_now c_t_now_knots c_t_now_flows c_t_now_readSet), (A_t_now 0, eI cI 10 c_t_now_from), (A_t_now 1, eI cI 10 c_t_now_to), (A_t 2, oG A_t_groups), (A_t_groups 0, eI cI 6 c_t_groups_least), (A_t 4, eI cI 6 c_t_away)] sz) 7 0 0 (MQ below (yQi D (yT cI cJ cZ cW cR) r [(h_t, oM A_t), (A_t 0, oW A_t_now c_t_now_knots c_t_now_flows c_t_now_readSet), (A_t_now 0, eI cI 10 c_t_now_from), (A_t_now 1, eI cI 10 c_t_now_to), (A_t 2, oG A_t_groups), (A_t_groups 0, eI cI 6 zc_t_groups_least), (A_t 4, eI cI 6 zc_t_away)] (va_A [(h_t, oM A_t), (A_t 0, oW A_t_now c_t_now_knots c_t_now_flows c_t_now_readSet), (A_t_now 0, eI cI 10 c_t_now_from), (A_t_now 1, eI cI 10 c_t_now_to), (A_t 2, oG A_t_groups), (A_t_groups 0, eI cI 6 c_t_groups_least), (A_t 4, eI cI 6 c_t_away)] sz)) (List.toArray [.ref h_t, .int x1, .int x2]) s 0 0 (va_A [(h_t, oM A_t), (A_t 0, oW A_t_now c_t_now_knots c_t_now_flows c_t_now_readSet), (A_t_now 0, eI cI 10 c_t_now_from), (A_t_now 1, eI cI 10 c_t_now_to), (A_t 2, oG A_t_groups), (A_t_groups 0, eI cI 6 c_t_groups_least), (A_t 4, eI cI 6 c_t_away)] sz)) 120 [(4, .int w0)] [] [(h_t, oM A_t), (A_t 0, oW A_t_now d_t_now_knots d_t_now_flows d_t_now_readSet), (A_t_now 0, eI cI 10 d_t_now_from), (A_t_now 1, eI cI 10 d_t_now_to), (A_t 2, oG A_t_groups), (A_t_groups 0, eI cI 6 d_t_groups_least), (A_t 4, eI cI 6 d_t_away)] → yG p l e (headSpec wsX4_round rmX4_round).room s m (List.toArray [.ref h_t, .int x1, .int x2]) below meth c D (va_A [(h_t, oM A_t), (A_t 0, oW A_t_now c_t_now_knots c_t_now_flows c_t_now_readSet), (A_t_now 0, eI cI 10 c_t_now_from), (A_t_now 1, eI cI 10 c_t_now_to), (A_t 2, oG A_t_groups), (A_t_groups 0, eI cI 6 c_t_groups_least), (A_t 4, eI cI 6 c_t_away)] sz) 7 0 0 (MQ below (yQi D (yT cI cJ cZ cW cR) r [(h_t, oM A_t), (A_t 0, oW A_t_now c_t_now_knots c_t_now_flows c_t_now_readSet), (A_t_now 0, eI cI 10 c_t_now_from), (A_t_now 1, eI cI 10 c_t_now_to), (A_t 2, oG A_t_groups), (A_t_groups 0, eI cI 6 zc_t_groups_least), (A_t 4, eI cI 6 zc_t_away)] (va_A [(h_t, oM A_t), (A_t 0, oW A_t_now c_t_now_knots c_t_now_flows c_t_now_readSet), (A_t_now 0, eI cI 10 c_t_now_from), (A_t_now 1, eI cI 10 c_t_now_to), (A_t 2, oG A_t_groups), (A_t_groups 0, eI cI 6 c_t_groups_least), (A_t 4, eI cI 6 c_t_away)] sz)) (List.toArray [.ref h_t, .int x1, .int x2]) s 0 0 (va_A [(h_t, oM A_t), (A_t 0, oW A_t_now c_t_now_knots c_t_now_flows c_t_now_readSet), (A_t_now 0, eI cI 10 c_t_now_from), (A_t_now 1, eI cI 10 c_t_now_to), (A_t 2, oG A_t_groups), (A_t_groups 0, eI cI 6 c_t_groups_least), (A_t 4, eI cI 6 c_t_away)] sz)) 74 [(0, .ref h_t), (2, .int y2), (3, .int y3), (4, .int y4), (5, .int y5), (6, .int y6)] [] [(h_t, oM A_t), (A_t 0, oW A_t_now d_t_now_knots d_t_now_flows d_t_now_readSet), (A_t_now 0, eI cI 10 d_t_now_from), (A_t_now 1, eI cI 10 d_t_now_to), (A_t 2, oG A_t_groups), (A_t_groups 0, eI cI 6 d_t_groups_least), (A_t 4, eI cI 6 d_t_away)] := by
    intro n
    induction n with
    | zero =>
      intro y2 y3 y4 y5 y6 d_t_now_knots d_t_now_flows d_t_now_readSet d_t_now_from d_t_now_to d_t_groups_least d_t_away w0 hf
      cases hf
    | succ n ih =>
      intro y2 y3 y4 y5 y6 d_t_now_knots d_t_now_flows d_t_now_readSet d_t_now_from d_t_now_to d_t_groups_least d_t_away w0 hf hk
      unfold fX4_round_L74 at hf
      refine g_iload Γ 5 dX4_round_74 rfl ?_
      refine g_iload_n Γ 1 dX4_round_76 rfl ?_
      refine g_icmp_ge Γ 120 dX4_round_77 (by decide) (fun c22 => ?_) (fun c22 => ?_)
      · have hf := ya_if1 c22 hf
        cases hf
        refine g_lv [3] rfl ?_
        exact hk
      · have hf := ya_if2 c22 hf
        refine g_iload Γ 3 dX4_round_80 rfl ?_
        refine g_iconst (v := (-1)) Γ dX4_round_82 (by decide) ?_
        refine g_icmp_eq Γ 120 dX4_round_83 (by decide) (fun c23 => ?_) (fun c23 => ?_)
        · have hf := ya_if1 c23 hf
          cases hf
          refine g_lv [3] rfl ?_
          exact hk
        · have hf := ya_if2 c23 hf
          refine g_aload_n Γ 0 dX4_round_86 rfl ?_
          refine g_iload Γ 4 dX4_round_87 rfl ?_
          refine g_iload_n Γ 2 dX4_round_89 rfl ?_
          obtain ⟨v24, e25, hf⟩ := ya_ob hf
          refine g_vi (q := (RX4, TX4, 7)) (wr := [(A_t 2, oG A_t_groups), (A_t_groups 0, eI cI 6 d_t_groups_least)]) (ws' := [(A_t 2, oG A_t_groups), (A_t_groups 0, eI cI 6 d_t_groups_least), (h_t, oM A_t), (A_t 0, oW A_t_now d_t_now_knots d_t_now_flows d_t_now_readSet), (A_t_now 0, eI cI 10 d_t_now_from), (A_t_now 1, eI cI 10 d_t_now_to), (A_t 4, eI cI 6 d_t_away)]) Γ (fun sz => mX4_firstFlowNearer (l := l) (D := D) (sz := sz) (cI := cI) (cJ := cJ) (cZ := cZ) (cW := cW) (cR := cR) (h_t := h_t) (A_t := A_t) (A_t_now := A_t_now) (hf := e25)) eX4_firstFlowNearer gX4_round_X4_firstFlowNearer rfl rfl 0 rfl rfl rfl (Nat.le_of_ble_eq_true rfl) ⟨Nat.le_of_ble_eq_true rfl, Nat.le_of_ble_eq_true rfl⟩ dX4_round_90 [0, 1, 2, 3, 6] [4, 5] rfl rfl rfl rfl (by decide) rfl ?_
          refine g_istore (lv' := [(4, .int v24), (0, .ref h_t), (2, .int y2), (3, .int y3), (5, .int y5), (6, .int y6)]) Γ dX4_round_93 (by decide) rfl ?_
          refine g_iload Γ 0 dX4_round_95 rfl ?_
          refine g_iconst (v := (-1)) Γ dX4_round_97 (by decide) ?_
          refine g_icmp_eq Γ 114 dX4_round_98 (by decide) (fun c26 => ?_) (fun c26 => ?_)
          · have hf := ya_if1 c26 hf
            obtain ⟨v27, e28, hf⟩ := ya_lt_inv hf
            refine g_iinc (lv' := [(6, .int v27), (4, .int v24), (0, .ref h_t), (2, .int y2), (3, .int y3), (5, .int y5)]) Γ 5 dX4_round_114 rfl (by rw [e28]; rfl) (by decide) rfl ?_
            refine g_goto Γ 74 dX4_round_117 (by decide) ?_
            refine g_lv [2, 3, 4, 1, 5, 0] rfl ?_
            refine g_ws (ws' := [(h_t, oM A_t), (A_t 0, oW A_t_now d_t_now_knots d_t_now_flows d_t_now_readSet), (A_t_now 0, eI cI 10 d_t_now_from), (A_t_now 1, eI cI 10 d_t_now_to), (A_t 2, oG A_t_groups), (A_t_groups 0, eI cI 6 d_t_groups_least), (A_t 4, eI cI 6 d_t_away)]) [2, 3, 4, 5, 0, 1, 6] rfl rfl ?_
            exact ih _ _ _ _ _ _ _ _ _ _ _ _ _ hf hk
          · have hf := ya_if2 c26 hf
            refine g_aload_n Γ 1 dX4_round_101 rfl ?_
            refine g_get Γ fX4_round_10 2 rfl rfl dX4_round_102 ?_
            refine g_iload Γ 0 dX4_round_105 rfl ?_
            refine g_iload Γ 4 dX4_round_107 rfl ?_
            obtain ⟨v29, e30, hf⟩ := ya_ob hf
            refine g_vi (q := (RX3, TX3, 11)) (wr := [(A_t 2, oG A_t_groups), (A_t_groups 0, eI cI 6 d_t_groups_least), (h_t, oM A_t), (A_t 4, eI cI 6 d_t_away)]) (ws' := [(A_t 2, oG A_t_groups), (A_t_groups 0, eI cI 6 d_t_groups_least), (h_t, oM A_t), (A_t 4, eI cI 6 d_t_away), (A_t 0, oW A_t_now d_t_now_knots d_t_now_flows d_t_now_readSet), (A_t_now 0, eI cI 10 d_t_now_from), (A_t_now 1, eI cI 10 d_t_now_to)]) Γ (fun sz => mX3_otherEnd (l := l) (D := D) (sz := sz) (cI := cI) (cJ := cJ) (cZ := cZ) (cW := cW) (cR := cR) (h_t := A_t 0) (A_t := A_t_now) (hf := e30)) eX3_otherEnd gX4_round_X3_otherEnd rfl rfl 0 rfl rfl rfl (Nat.le_of_ble_eq_true rfl) ⟨Nat.le_of_ble_eq_true rfl, Nat.le_of_ble_eq_true rfl⟩ dX4_round_109 [3, 4, 5] [0, 1, 2, 6] rfl rfl rfl rfl (by decide) rfl ?_
            refine g_istore (lv' := [(5, .int v29), (4, .int v24), (0, .ref h_t), (2, .int y2), (3, .int y3), (6, .int y6)]) Γ dX4_round_112 (by decide) rfl ?_
            obtain ⟨v31, e32, hf⟩ := ya_lt_inv hf
            refine g_iinc (lv' := [(6, .int v31), (5, .int v29), (4, .int v24), (0, .ref h_t), (2, .int y2), (3, .int y3)]) Γ 5 dX4_round_114 rfl (by rw [e32]; rfl) (by decide) rfl ?_
            refine g_goto Γ 74 dX4_round_117 (by decide) ?_
            refine g_lv [3, 4, 5, 2, 1, 0] rfl ?_
            refine g_ws (ws' := [(h_t, oM A_t), (A_t 0, oW A_t_now d_t_now_knots d_t_now_flows d_t_now_readSet), (A_t_now 0, eI cI 10 d_t_now_from), (A_t_now 1, eI cI 10 d_t_now_to), (A_t 2, oG A_t_groups), (A_t_groups 0, eI cI 6 d_t_groups_least), (A_t 4, eI cI 6 d_t_away)]) [2, 4, 5, 6, 0, 1, 3] rfl rfl ?_
            exact ih _ _ _ _ _ _ _ _ _ _ _ _ _ hf hk
  show yG p l e (headSpec wsX4_round rmX4_round).room s m (List.toArray [.ref h_t, .int x1, .int x2]) below meth c D (va_A [(h_t, oM A_t), (A_t 0, oW A_t_now c_t_now_knots c_t_now_flows c_t_now_readSet), (A_t_now 0, eI cI 10 c_t_now_from), (A_t_now 1, eI cI 10 c_t_now_to), (A_t 2, oG A_t_groups), (A_t_groups 0, eI cI 6 c_t_groups_least), (A_t 4, eI cI 6 c_t_away)] sz) 7 0 0 (MQ below (yQi D (yT cI cJ cZ cW cR) r [(h_t, oM A_t), (A_t 0, oW A_t_now c_t_now_knots c_t_now_flows c_t_now_readSet), (A_t_now 0, eI cI 10 c_t_now_from), (A_t_now 1, eI cI 10 c_t_now_to), (A_t 2, oG A_t_groups), (A_t_groups 0, eI cI 6 zc_t_groups_least), (A_t 4, eI cI 6 zc_t_away)] (va_A [(h_t, oM A_t), (A_t 0, oW A_t_now c_t_now_knots c_t_now_flows c_t_now_readSet), (A_t_now 0, eI cI 10 c_t_now_from), (A_t_now 1, eI cI 10 c_t_now_to), (A_t 2, oG A_t_groups), (A_t_groups 0, eI cI 6 c_t_groups_least), (A_t 4, eI cI 6 c_t_away)] sz)) (List.toArray [.ref h_t, .int x1, .int x2]) s 0 0 (va_A [(h_t, oM A_t), (A_t 0, oW A_t_now c_t_now_knots c_t_now_flows c_t_now_readSet), (A_t_now 0, eI cI 10 c_t_now_from), (A_t_now 1, eI cI 10 c_t_now_to), (A_t 2, oG A_t_groups), (A_t_groups 0, eI cI 6 c_t_groups_least), (A_t 4, eI cI 6 c_t_away)] sz)) 0 [(0, .ref h_t), (1, .int x1), (2, .int x2)] [] [(h_t, oM A_t), (A_t 0, oW A_t_now c_t_now_knots c_t_now_flows c_t_now_readSet), (A_t_now 0, eI cI 10 c_t_now_from), (A_t_now 1, eI cI 10 c_t_now_to), (A_t 2, oG A_t_groups), (A_t_groups 0, eI cI 6 c_t_groups_least), (A_t 4, eI cI 6 c_t_away)]
  unfold fX4_round at hf
  refine g_aload_n Γ 0 dX4_round_0 rfl ?_
  refine g_iload_n Γ 1 dX4_round_1 rfl ?_
  obtain ⟨v1, e2, hf⟩ := ya_ob hf
  refine g_vi (q := (RX4, TX4, 7)) (wr := [(A_t_now 0, eI cI 10 c_t_now_from), (A_t_now 1, eI cI 10 c_t_now_to), (A_t 2, oG A_t_groups), (A_t_groups 0, eI cI 6 c_t_groups_least), (A_t 4, eI cI 6 c_t_away)]) (ws' := [(A_t_now 0, eI cI 10 c_t_now_from), (A_t_now 1, eI cI 10 c_t_now_to), (A_t 2, oG A_t_groups), (A_t_groups 0, eI cI 6 c_t_groups_least), (A_t 4, eI cI 6 c_t_away), (h_t, oM A_t), (A_t 0, oW A_t_now c_t_now_knots c_t_now_flows c_t_now_readSet)]) Γ (fun sz => mX4_isFlow (l := l) (D := D) (sz := sz) (cI := cI) (cJ := cJ) (cZ := cZ) (cW := cW) (cR := cR) (h_t := h_t) (A_t := A_t) (A_t_now := A_t_now) (hf := e2)) eX4_isFlow gX4_round_X4_isFlow rfl rfl 0 rfl rfl rfl (Nat.le_of_ble_eq_true rfl) ⟨Nat.le_of_ble_eq_true rfl, Nat.le_of_ble_eq_true rfl⟩ dX4_round_2 [0, 1] [2, 3, 4, 5, 6] rfl rfl rfl rfl (by decide) rfl ?_
  refine g_if_eq Γ 26 dX4_round_5 (by decide) (fun c3 => ?_) (fun c3 => ?_)
  · have hf := ya_if1 c3 hf
    refine g_iconst (v := (-1)) Γ dX4_round_26 (by decide) ?_
    cases hf
    exact g_iret Γ hr dX4_round_27 [5, 6, 0, 1, 2, 3, 4] rfl rfl
  · have hf := ya_if2 c3 hf
    refine g_iload_n Γ 2 dX4_round_8 rfl ?_
    refine g_if_lt Γ 26 dX4_round_9 (by decide) (fun c4 => ?_) (fun c4 => ?_)
    · have hf := ya_if1 c4 hf
      refine g_iconst (v := (-1)) Γ dX4_round_26 (by decide) ?_
      cases hf
      exact g_iret Γ hr dX4_round_27 [5, 6, 0, 1, 2, 3, 4] rfl rfl
    · have hf := ya_if2 c4 hf
      refine g_iload_n Γ 2 dX4_round_12 rfl ?_
      refine g_bipush (v := 6) Γ dX4_round_13 (by decide) ?_
      refine g_icmp_ge Γ 26 dX4_round_15 (by decide) (fun c5 => ?_) (fun c5 => ?_)
      · have hf := ya_if1 c5 hf
        refine g_iconst (v := (-1)) Γ dX4_round_26 (by decide) ?_
        cases hf
        exact g_iret Γ hr dX4_round_27 [5, 6, 0, 1, 2, 3, 4] rfl rfl
      · have hf := ya_if2 c5 hf
        refine g_aload_n Γ 0 dX4_round_18 rfl ?_
        refine g_iload_n Γ 1 dX4_round_19 rfl ?_
        obtain ⟨⟨v6, v7⟩, e8, hf⟩ := ya_ob hf
        refine g_vi (q := (RX4, TX4, 7)) (wr := [(A_t 4, eI cI 6 c_t_away)]) (ws' := [(A_t 4, eI cI 6 c_t_away), (h_t, oM A_t), (A_t 0, oW A_t_now c_t_now_knots c_t_now_flows c_t_now_readSet), (A_t_now 0, eI cI 10 c_t_now_from), (A_t_now 1, eI cI 10 c_t_now_to), (A_t 2, oG A_t_groups), (A_t_groups 0, eI cI 6 v7)]) Γ (fun sz => mX4_isSeen (l := l) (D := D) (sz := sz) (cI := cI) (cJ := cJ) (cZ := cZ) (cW := cW) (cR := cR) (h_t := h_t) (A_t := A_t) (A_t_now := A_t_now) (A_t_groups := A_t_groups) (hf := e8)) eX4_isSeen gX4_round_X4_isSeen rfl rfl 0 rfl rfl rfl (Nat.le_of_ble_eq_true rfl) ⟨Nat.le_of_ble_eq_true rfl, Nat.le_of_ble_eq_true rfl⟩ dX4_round_20 [5, 6, 0, 1, 2, 3] [4] rfl rfl rfl rfl (by decide) rfl ?_
        refine g_if_eq Γ 28 dX4_round_23 (by decide) (fun c9 => ?_) (fun c9 => ?_)
        · have hf := ya_if1 c9 hf
          refine g_aload_n Γ 0 dX4_round_28 rfl ?_
          refine g_get Γ fX4_round_10 1 rfl rfl dX4_round_29 ?_
          obtain ⟨v10, e11, hf⟩ := ya_ob hf
          refine g_vi (q := (RX3, TX3, 11)) (wr := [(A_t 4, eI cI 6 c_t_away), (h_t, oM A_t), (A_t_now 0, eI cI 10 c_t_now_from), (A_t_now 1, eI cI 10 c_t_now_to), (A_t 2, oG A_t_groups), (A_t_groups 0, eI cI 6 v7)]) (ws' := [(A_t 4, eI cI 6 c_t_away), (h_t, oM A_t), (A_t_now 0, eI cI 10 c_t_now_from), (A_t_now 1, eI cI 10 c_t_now_to), (A_t 2, oG A_t_groups), (A_t_groups 0, eI cI 6 v7), (A_t 0, oW A_t_now c_t_now_knots c_t_now_flows c_t_now_readSet)]) Γ (fun sz => mX3_unreadSet (l := l) (D := D) (sz := sz) (cI := cI) (cJ := cJ) (cZ := cZ) (cW := cW) (cR := cR) (h_t := A_t 0) (A_t := A_t_now) (hf := e11)) eX3_unreadSet gX4_round_X3_unreadSet rfl rfl 0 rfl rfl rfl (Nat.le_of_ble_eq_true rfl) ⟨Nat.le_of_ble_eq_true rfl, Nat.le_of_ble_eq_true rfl⟩ dX4_round_32 [2] [0, 1, 3, 4, 5, 6] rfl rfl rfl rfl (by decide) rfl ?_
          refine g_iload_n Γ 1 dX4_round_35 rfl ?_
          obtain ⟨v12, e13, hf⟩ := ya_ob hf
          refine g_si (wr := [(A_t 4, eI cI 6 c_t_away), (h_t, oM A_t), (A_t_now 0, eI cI 10 c_t_now_from), (A_t_now 1, eI cI 10 c_t_now_to), (A_t 2, oG A_t_groups), (A_t_groups 0, eI cI 6 v7), (A_t 0, oW A_t_now c_t_now_knots c_t_now_flows c_t_now_readSet)]) (ws' := [(A_t 4, eI cI 6 c_t_away), (h_t, oM A_t), (A_t_now 0, eI cI 10 c_t_now_from), (A_t_now 1, eI cI 10 c_t_now_to), (A_t 2, oG A_t_groups), (A_t_groups 0, eI cI 6 v7), (A_t 0, oW A_t_now c_t_now_knots c_t_now_flows c_t_now_readSet)]) Γ (fun sz => mX4_bit (l := l) (D := D) (sz := sz) (cI := cI) (cJ := cJ) (cZ := cZ) (cW := cW) (cR := cR)  (hf := e13)) eX4_bit ggX4_round_X4_bit (by decide +kernel) (by decide +kernel) (by decide +kernel) rfl rfl (Nat.le_of_ble_eq_true rfl) ⟨Nat.le_of_ble_eq_true rfl, Nat.le_of_ble_eq_true rfl⟩ dX4_round_36 [] [0, 1, 2, 3, 4, 5, 6] rfl rfl rfl rfl (by decide) rfl ?_
          refine g_iconst (v := (-1)) Γ dX4_round_39 (by decide) ?_
          refine g_ixor Γ dX4_round_40 ?_
          refine g_iand Γ dX4_round_41 ?_
          obtain ⟨v14, e15, hf⟩ := ya_lt_inv hf
          refine g_nmi e15 ?_
          refine g_istore_n (lv' := [(3, .int v14), (0, .ref h_t), (1, .int x1), (2, .int x2)]) Γ dX4_round_42 (by decide) rfl ?_
          refine g_aload_n Γ 1 dX4_round_43 rfl ?_
          refine g_aload_n Γ 1 dX4_round_44 rfl ?_
          refine g_get Γ fX4_round_10 1 rfl rfl dX4_round_45 ?_
          refine g_get Γ fX4_round_140 6 rfl rfl dX4_round_48 ?_
          refine g_iload_n Γ 2 dX4_round_51 rfl ?_
          obtain ⟨v16, e17, hf⟩ := ya_ob hf
          refine g_iald Γ e17 2 0 rfl rfl dX4_round_52 ?_
          refine g_iload_n Γ 0 dX4_round_53 rfl ?_
          obtain ⟨v18, e19, hf⟩ := ya_ob hf
          refine g_vv (q := (RX4, TX4, 7)) (wr := [(A_t 2, oG A_t_groups), (A_t_groups 0, eI cI 6 v7)]) (ws' := [(A_t 2, oG A_t_groups), (A_t_groups 0, eI cI 6 v7), (h_t, oM A_t), (A_t 0, oW A_t_now c_t_now_knots c_t_now_flows c_t_now_readSet), (A_t_now 0, eI cI 10 c_t_now_from), (A_t_now 1, eI cI 10 c_t_now_to), (A_t 4, eI cI 6 v18)]) Γ (fun sz => mX4_measureAway (l := l) (D := D) (sz := sz) (cI := cI) (cJ := cJ) (cZ := cZ) (cW := cW) (cR := cR) (h_t := h_t) (A_t := A_t) (A_t_now := A_t_now) (hf := e19)) eX4_measureAway gX4_round_X4_measureAway rfl rfl 0 rfl rfl rfl (Nat.le_of_ble_eq_true rfl) ⟨Nat.le_of_ble_eq_true rfl, Nat.le_of_ble_eq_true rfl⟩ dX4_round_54 [1, 6, 2, 3, 0] [4, 5] rfl rfl rfl rfl (by decide) rfl ?_
          refine g_iload_n Γ 2 dX4_round_57 rfl ?_
          refine g_istore (lv' := [(4, .int x1), (3, .int v14), (0, .ref h_t), (1, .int x1), (2, .int x2)]) Γ dX4_round_58 (by decide) rfl ?_
          refine g_aload_n Γ 2 dX4_round_60 rfl ?_
          refine g_get Γ fX4_round_10 2 rfl rfl dX4_round_61 ?_
          refine g_get Γ fX4_round_143 3 rfl rfl dX4_round_64 ?_
          refine g_iload_n Γ 3 dX4_round_67 rfl ?_
          obtain ⟨v20, e21, hf⟩ := ya_ob hf
          refine g_iald Γ e21 5 0 rfl rfl dX4_round_68 ?_
          refine g_istore (lv' := [(5, .int v20), (4, .int x1), (3, .int v14), (0, .ref h_t), (1, .int x1), (2, .int x2)]) Γ dX4_round_69 (by decide) rfl ?_
          refine g_iconst (v := 0) Γ dX4_round_71 (by decide) ?_
          refine g_istore (lv' := [(6, .int 0), (5, .int v20), (4, .int x1), (3, .int v14), (0, .ref h_t), (1, .int x1), (2, .int x2)]) Γ dX4_round_72 (by decide) rfl ?_
          obtain ⟨v33, e34, hf⟩ := ya_ob hf
          refine g_lv [4, 6, 3, 2, 1, 0] rfl ?_
          refine g_ws (ws' := [(h_t, oM A_t), (A_t 0, oW A_t_now c_t_now_knots c_t_now_flows c_t_now_readSet), (A_t_now 0, eI cI 10 c_t_now_from), (A_t_now 1, eI cI 10 c_t_now_to), (A_t 2, oG A_t_groups), (A_t_groups 0, eI cI 6 v7), (A_t 4, eI cI 6 v18)]) [2, 3, 4, 5, 0, 1, 6] rfl rfl ?_
          refine loop74 N _ _ _ _ _ _ _ _ _ _ _ _ _ e34  ?_
          refine g_iload Γ 0 dX4_round_120 rfl ?_
          cases hf
          exact g_iret Γ hr dX4_round_122 [0, 1, 2, 3, 4, 5, 6] rfl rfl
        · have hf := ya_if2 c9 hf
          refine g_iconst (v := (-1)) Γ dX4_round_26 (by decide) ?_
          cases hf
          exact g_iret Γ hr dX4_round_27 [1, 2, 3, 4, 5, 6, 0] rfl rfl

set_option maxRecDepth 20000 in
theorem ggX4_spare_X4_isFlow : GoodIn wsX4_spare wsX4_isFlow := goodIn_r _ [5, 6, 7, 60, 61, 62, 63, 64, 65, 66, 67, 68, 69, 70, 71, 72, 73, 74, 75, 76, 77] rfl (by decide +kernel)
set_option maxRecDepth 20000 in
theorem gX4_spare_X4_isFlow : GoodIn wsX4_spare (wsV RX4 68 RX4 yX4_isFlow wsX4_isFlow) := goodIn_app (goodIn_of _ (by decide +kernel)) ggX4_spare_X4_isFlow
set_option maxRecDepth 20000 in
theorem ggX4_spare_X4_spareSet : GoodIn wsX4_spare wsX4_spareSet := goodIn_r _ [11, 12, 6, 7, 13, 14, 15, 16, 17, 18, 19, 20, 21, 22, 23, 24, 4, 25, 26, 27, 28, 29, 30, 31, 32, 33, 34, 35, 36, 37, 38, 39, 40, 41, 42, 43, 44, 45, 46, 47, 48, 49, 50, 51, 52, 53, 54, 55, 56, 57, 58, 59, 60, 61, 62, 63, 64, 65, 66, 67, 68, 69, 70, 71, 72, 73, 74, 75, 76, 77, 78] rfl (by decide +kernel)
set_option maxRecDepth 20000 in
theorem gX4_spare_X4_spareSet : GoodIn wsX4_spare (wsV RX4 134 RX4 yX4_spareSet wsX4_spareSet) := goodIn_app (goodIn_of _ (by decide +kernel)) ggX4_spare_X4_spareSet
set_option maxRecDepth 20000 in
theorem ggX4_spare_X4_holds : GoodIn wsX4_spare wsX4_holds := goodIn_r _ [36] rfl (by decide +kernel)
set_option maxRecDepth 20000 in
theorem gX4_spare_X4_holds : GoodIn wsX4_spare (va_wsS RX4 78 yX4_holds wsX4_holds) := goodIn_app (goodIn_of _ (by decide +kernel)) ggX4_spare_X4_holds
theorem dX4_spare_0 : decode cX4_spare 0 = .ok (.aload_n 0, 1) := by decide +kernel
theorem dX4_spare_1 : decode cX4_spare 1 = .ok (.iload_n 1, 1) := by decide +kernel
theorem dX4_spare_2 : decode cX4_spare 2 = .ok (.invokevirtual 68, 3) := by decide +kernel
theorem dX4_spare_5 : decode cX4_spare 5 = .ok (.ifCond .ne 5, 3) := by decide +kernel
theorem dX4_spare_8 : decode cX4_spare 8 = .ok (.iconst (-1), 1) := by decide +kernel
theorem dX4_spare_9 : decode cX4_spare 9 = .ok (.ireturn, 1) := by decide +kernel
theorem dX4_spare_10 : decode cX4_spare 10 = .ok (.aload_n 0, 1) := by decide +kernel
theorem dX4_spare_11 : decode cX4_spare 11 = .ok (.invokevirtual 134, 3) := by decide +kernel
theorem dX4_spare_14 : decode cX4_spare 14 = .ok (.iload_n 1, 1) := by decide +kernel
theorem dX4_spare_15 : decode cX4_spare 15 = .ok (.invokestatic 78, 3) := by decide +kernel
theorem dX4_spare_18 : decode cX4_spare 18 = .ok (.ifCond .eq 7, 3) := by decide +kernel
theorem dX4_spare_21 : decode cX4_spare 21 = .ok (.iconst 1, 1) := by decide +kernel
theorem dX4_spare_22 : decode cX4_spare 22 = .ok (.goto 4, 3) := by decide +kernel
theorem dX4_spare_25 : decode cX4_spare 25 = .ok (.iconst 0, 1) := by decide +kernel
theorem dX4_spare_26 : decode cX4_spare 26 = .ok (.ireturn, 1) := by decide +kernel
/-! ===== FlowMeters.spare(I)I ===== -/
def fX4_spare (N : Nat) (c_t_now_flows : Int32) (c_t_now_readSet : Int32) (c_t_now_from : Nat → Int32) (c_t_now_to : Nat → Int32) (c_t_groups_least : Nat → Int32) (x1 : Int32) : Option (Int32 × (Nat → Int32)) :=
  (fX4_isFlow c_t_now_flows x1).bind fun v1 =>
  (if v1 = 0 then
    some ((-1), c_t_groups_least)
  else
    (fX4_spareSet N c_t_now_flows c_t_now_readSet c_t_now_from c_t_now_to c_t_groups_least).bind fun (v4, v5) =>
    (fX4_holds v4 x1).bind fun v7 =>
    (if v7 = 0 then
      some (0, v5)
    else
      some (1, v5)))
abbrev rmX4_spare : Room := { frames := 4, cells := 0, slots := 0, locals := 119 }
theorem eX4_spare : yY yX4_spare wsX4_spare cX4_spare 2 (some .int) rmX4_spare 1 := ⟨⟨_, rfl⟩, rfl, rfl, by decide, by decide, by decide +kernel⟩
set_option maxHeartbeats 4000000 in
set_option maxRecDepth 100000 in
theorem mX4_spare {l : Launch} {D : va_G} {sz : Nat} {cI cJ cZ cW cR : ClassId} {N : Nat} {h_t : Nat} {A_t : Nat → Nat} {A_t_now : Nat → Nat} {A_t_groups : Nat → Nat} {c_t_now_knots : Int32} {c_t_now_flows : Int32} {c_t_now_readSet : Int32} {c_t_now_from : Nat → Int32} {c_t_now_to : Nat → Int32} {c_t_groups_least : Nat → Int32} {x1 : Int32} {r : Int32} {zc_t_groups_least : Nat → Int32} (hf : fX4_spare N c_t_now_flows c_t_now_readSet c_t_now_from c_t_now_to c_t_groups_least x1 = some (r, zc_t_groups_least)) : Met l yX4_spare wsX4_spare rmX4_spare (yP D (yT cI cJ cZ cW cR) [(h_t, oM A_t), (A_t 0, oW A_t_now c_t_now_knots c_t_now_flows c_t_now_readSet), (A_t_now 0, eI cI 10 c_t_now_from), (A_t_now 1, eI cI 10 c_t_now_to), (A_t 2, oG A_t_groups), (A_t_groups 0, eI cI 6 c_t_groups_least)] sz [.ref h_t, .int x1]) (yQi D (yT cI cJ cZ cW cR) r [(h_t, oM A_t), (A_t 0, oW A_t_now c_t_now_knots c_t_now_flows c_t_now_readSet), (A_t_now 0, eI cI 10 c_t_now_from), (A_t_now 1, eI cI 10 c_t_now_to), (A_t 2, oG A_t_groups), (A_t_groups 0, eI cI 6 zc_t_groups_least)] (va_A [(h_t, oM A_t), (A_t 0, oW A_t_now c_t_now_knots c_t_now_flows c_t_now_readSet), (A_t_now 0, eI cI 10 c_t_now_from), (A_t_now 1, eI cI 10 c_t_now_to), (A_t 2, oG A_t_groups), (A_t_groups 0, eI cI 6 c_t_groups_least)] sz)) 0 0 (va_A [(h_t, oM A_t), (A_t 0, oW A_t_now c_t_now_knots c_t_now_flows c_t_now_readSet), (A_t_now 0, eI cI 10 c_t_now_from), (A_t_now 1, eI cI 10 c_t_now_to), (A_t 2, oG A_t_groups), (A_t_groups 0, eI cI 6 c_t_groups_least)] sz) := by
  refine yM (cc := cX4_spare) (maxL := 2) (ret := (some .int)) RX4 (by decide) rfl rfl (Nat.le_of_ble_eq_true rfl) ?_
  intro p e s m below meth c Γ hr
  show yG p l e (headSpec wsX4_spare rmX4_spare).room s m (List.toArray [.ref h_t, .int x1]) below meth c D (va_A [(h_t, oM A_t), (A_t 0, oW A_t_now c_t_now_knots c_t_now_flows c_t_now_readSet), (A_t_now 0, eI cI 10 c_t_now_from), (A_t_now 1, eI cI 10 c_t_now_to), (A_t 2, oG A_t_groups), (A_t_groups 0, eI cI 6 c_t_groups_least)] sz) 2 0 0 (MQ below (yQi D (yT cI cJ cZ cW cR) r [(h_t, oM A_t), (A_t 0, oW A_t_now c_t_now_knots c_t_now_flows c_t_now_readSet), (A_t_now 0, eI cI 10 c_t_now_from), (A_t_now 1, eI cI 10 c_t_now_to), (A_t 2, oG A_t_groups), (A_t_groups 0, eI cI 6 zc_t_groups_least)] (va_A [(h_t, oM A_t), (A_t 0, oW A_t_now c_t_now_knots c_t_now_flows c_t_now_readSet), (A_t_now 0, eI cI 10 c_t_now_from), (A_t_now 1, eI cI 10 c_t_now_to), (A_t 2, oG A_t_groups), (A_t_groups 0, eI cI 6 c_t_groups_least)] sz)) (List.toArray [.ref h_t, .int x1]) s 0 0 (va_A [(h_t, oM A_t), (A_t 0, oW A_t_now c_t_now_knots c_t_now_flows c_t_now_readSet), (A_t_now 0, eI cI 10 c_t_now_from), (A_t_now 1, eI cI 10 c_t_now_to), (A_t 2, oG A_t_groups), (A_t_groups 0, eI cI 6 c_t_groups_least)] sz)) 0 [(0, .ref h_t), (1, .int x1)] [] [(h_t, oM A_t), (A_t 0, oW A_t_now c_t_now_knots c_t_now_flows c_t_now_readSet), (A_t_now 0, eI cI 10 c_t_now_from), (A_t_now 1, eI cI 10 c_t_now_to), (A_t 2, oG A_t_groups), (A_t_groups 0, eI cI 6 c_t_groups_least)]
  unfold fX4_spare at hf
  refine g_aload_n Γ 0 dX4_spare_0 rfl ?_
  refine g_iload_n Γ 1 dX4_spare_1 rfl ?_
  obtain ⟨v1, e2, hf⟩ := ya_ob hf
  refine g_vi (q := (RX4, TX4, 7)) (wr := [(A_t_now 0, eI cI 10 c_t_now_from), (A_t_now 1, eI cI 10 c_t_now_to), (A_t 2, oG A_t_groups), (A_t_groups 0, eI cI 6 c_t_groups_least)]) (ws' := [(A_t_now 0, eI cI 10 c_t_now_from), (A_t_now 1, eI cI 10 c_t_now_to), (A_t 2, oG A_t_groups), (A_t_groups 0, eI cI 6 c_t_groups_least), (h_t, oM A_t), (A_t 0, oW A_t_now c_t_now_knots c_t_now_flows c_t_now_readSet)]) Γ (fun sz => mX4_isFlow (l := l) (D := D) (sz := sz) (cI := cI) (cJ := cJ) (cZ := cZ) (cW := cW) (cR := cR) (h_t := h_t) (A_t := A_t) (A_t_now := A_t_now) (hf := e2)) eX4_isFlow gX4_spare_X4_isFlow rfl rfl 0 rfl rfl rfl (Nat.le_of_ble_eq_true rfl) ⟨Nat.le_of_ble_eq_true rfl, Nat.le_of_ble_eq_true rfl⟩ dX4_spare_2 [0, 1] [2, 3, 4, 5] rfl rfl rfl rfl (by decide) rfl ?_
  refine g_if_ne Γ 10 dX4_spare_5 (by decide) (fun c3 => ?_) (fun c3 => ?_)
  · have hf := ya_if2 c3 hf
    refine g_aload_n Γ 0 dX4_spare_10 rfl ?_
    obtain ⟨⟨v4, v5⟩, e6, hf⟩ := ya_ob hf
    refine g_vi (q := (RX4, TX4, 7)) (wr := []) (ws' := [(h_t, oM A_t), (A_t 0, oW A_t_now c_t_now_knots c_t_now_flows c_t_now_readSet), (A_t_now 0, eI cI 10 c_t_now_from), (A_t_now 1, eI cI 10 c_t_now_to), (A_t 2, oG A_t_groups), (A_t_groups 0, eI cI 6 v5)]) Γ (fun sz => mX4_spareSet (l := l) (D := D) (sz := sz) (cI := cI) (cJ := cJ) (cZ := cZ) (cW := cW) (cR := cR) (h_t := h_t) (A_t := A_t) (A_t_now := A_t_now) (A_t_groups := A_t_groups) (hf := e6)) eX4_spareSet gX4_spare_X4_spareSet rfl rfl 0 rfl rfl rfl (Nat.le_of_ble_eq_true rfl) ⟨Nat.le_of_ble_eq_true rfl, Nat.le_of_ble_eq_true rfl⟩ dX4_spare_11 [4, 5, 0, 1, 2, 3] [] rfl rfl rfl rfl (by decide) rfl ?_
    refine g_iload_n Γ 1 dX4_spare_14 rfl ?_
    obtain ⟨v7, e8, hf⟩ := ya_ob hf
    refine g_si (wr := [(h_t, oM A_t), (A_t 0, oW A_t_now c_t_now_knots c_t_now_flows c_t_now_readSet), (A_t_now 0, eI cI 10 c_t_now_from), (A_t_now 1, eI cI 10 c_t_now_to), (A_t 2, oG A_t_groups), (A_t_groups 0, eI cI 6 v5)]) (ws' := [(h_t, oM A_t), (A_t 0, oW A_t_now c_t_now_knots c_t_now_flows c_t_now_readSet), (A_t_now 0, eI cI 10 c_t_now_from), (A_t_now 1, eI cI 10 c_t_now_to), (A_t 2, oG A_t_groups), (A_t_groups 0, eI cI 6 v5)]) Γ (fun sz => mX4_holds (l := l) (D := D) (sz := sz) (cI := cI) (cJ := cJ) (cZ := cZ) (cW := cW) (cR := cR)  (hf := e8)) eX4_holds ggX4_spare_X4_holds (by decide +kernel) (by decide +kernel) (by decide +kernel) rfl rfl (Nat.le_of_ble_eq_true rfl) ⟨Nat.le_of_ble_eq_true rfl, Nat.le_of_ble_eq_true rfl⟩ dX4_spare_15 [] [0, 1, 2, 3, 4, 5] rfl rfl rfl rfl (by decide) rfl ?_
    refine g_if_eq Γ 25 dX4_spare_18 (by decide) (fun c9 => ?_) (fun c9 => ?_)
    · have hf := ya_if1 c9 hf
      refine g_iconst (v := 0) Γ dX4_spare_25 (by decide) ?_
      cases hf
      exact g_iret Γ hr dX4_spare_26 [0, 1, 2, 3, 4, 5] rfl rfl
    · have hf := ya_if2 c9 hf
      refine g_iconst (v := 1) Γ dX4_spare_21 (by decide) ?_
      refine g_goto Γ 26 dX4_spare_22 (by decide) ?_
      cases hf
      exact g_iret Γ hr dX4_spare_26 [0, 1, 2, 3, 4, 5] rfl rfl
  · have hf := ya_if1 c3 hf
    refine g_iconst (v := (-1)) Γ dX4_spare_8 (by decide) ?_
    cases hf
    exact g_iret Γ hr dX4_spare_9 [4, 5, 0, 1, 2, 3] rfl rfl

set_option maxRecDepth 20000 in
theorem ggX4_alike_X4_isFlow : GoodIn wsX4_alike wsX4_isFlow := goodIn_r _ [10, 2, 11, 58, 59, 60, 61, 62, 63, 64, 66, 67, 68, 69, 70, 71, 72, 73, 74, 75, 76] rfl (by decide +kernel)
set_option maxRecDepth 20000 in
theorem gX4_alike_X4_isFlow : GoodIn wsX4_alike (wsV RX4 68 RX4 yX4_isFlow wsX4_isFlow) := goodIn_app (goodIn_of _ (by decide +kernel)) ggX4_alike_X4_isFlow
set_option maxRecDepth 20000 in
theorem ggX4_alike_X3_unreadSet : GoodIn wsX4_alike wsX3_unreadSet := goodIn_r _ [16, 17, 18, 19, 20, 15, 21, 22, 23, 9, 24, 66, 67, 68, 69, 70, 71, 72, 73, 74, 75, 76] rfl (by decide +kernel)
set_option maxRecDepth 20000 in
theorem gX4_alike_X3_unreadSet : GoodIn wsX4_alike (wsV RX4 120 RX3 yX3_unreadSet wsX3_unreadSet) := goodIn_app (goodIn_of _ (by decide +kernel)) ggX4_alike_X3_unreadSet
set_option maxRecDepth 20000 in
theorem ggX4_alike_X1_gather : GoodIn wsX4_alike wsX1_gather := goodIn_r _ [29, 30, 31, 32, 33, 34, 9, 35, 36, 37, 38, 28, 39, 40, 41, 42, 43, 44, 45, 46, 47, 48, 49, 50, 65, 66, 67, 68, 69, 70, 71, 72, 73, 74, 75, 76] rfl (by decide +kernel)
set_option maxRecDepth 20000 in
theorem gX4_alike_X1_gather : GoodIn wsX4_alike (wsV RX4 124 RX1 yX1_gather wsX1_gather) := goodIn_app (goodIn_of _ (by decide +kernel)) ggX4_alike_X1_gather
set_option maxRecDepth 20000 in
theorem ggX4_alike_X4_isSpareIn : GoodIn wsX4_alike wsX4_isSpareIn := goodIn_r _ [54, 2, 55, 1, 56, 34, 9, 35, 57, 37, 38, 28, 39, 30, 32, 33, 58, 59, 60, 61, 62, 63, 64, 66, 67, 68, 69, 70, 71, 72, 73, 74, 75, 76, 65] rfl (by decide +kernel)
set_option maxRecDepth 20000 in
theorem gX4_alike_X4_isSpareIn : GoodIn wsX4_alike (wsV RX4 203 RX4 yX4_isSpareIn wsX4_isSpareIn) := goodIn_app (goodIn_of _ (by decide +kernel)) ggX4_alike_X4_isSpareIn
theorem dX4_alike_0 : decode cX4_alike 0 = .ok (.aload_n 0, 1) := by decide +kernel
theorem dX4_alike_1 : decode cX4_alike 1 = .ok (.iload_n 1, 1) := by decide +kernel
theorem dX4_alike_2 : decode cX4_alike 2 = .ok (.invokevirtual 68, 3) := by decide +kernel
theorem dX4_alike_5 : decode cX4_alike 5 = .ok (.ifCond .eq 16, 3) := by decide +kernel
theorem dX4_alike_8 : decode cX4_alike 8 = .ok (.aload_n 0, 1) := by decide +kernel
theorem dX4_alike_9 : decode cX4_alike 9 = .ok (.iload_n 2, 1) := by decide +kernel
theorem dX4_alike_10 : decode cX4_alike 10 = .ok (.invokevirtual 68, 3) := by decide +kernel
theorem dX4_alike_13 : decode cX4_alike 13 = .ok (.ifCond .eq 8, 3) := by decide +kernel
theorem dX4_alike_16 : decode cX4_alike 16 = .ok (.iload_n 1, 1) := by decide +kernel
theorem dX4_alike_17 : decode cX4_alike 17 = .ok (.iload_n 2, 1) := by decide +kernel
theorem dX4_alike_18 : decode cX4_alike 18 = .ok (.if_icmp .ne 5, 3) := by decide +kernel
theorem dX4_alike_21 : decode cX4_alike 21 = .ok (.iconst 0, 1) := by decide +kernel
theorem dX4_alike_22 : decode cX4_alike 22 = .ok (.ireturn, 1) := by decide +kernel
theorem dX4_alike_23 : decode cX4_alike 23 = .ok (.aload_n 0, 1) := by decide +kernel
theorem dX4_alike_24 : decode cX4_alike 24 = .ok (.getfield 26, 3) := by decide +kernel
theorem dX4_alike_27 : decode cX4_alike 27 = .ok (.aload_n 0, 1) := by decide +kernel
theorem dX4_alike_28 : decode cX4_alike 28 = .ok (.getfield 10, 3) := by decide +kernel
theorem dX4_alike_31 : decode cX4_alike 31 = .ok (.aload_n 0, 1) := by decide +kernel
theorem dX4_alike_32 : decode cX4_alike 32 = .ok (.getfield 10, 3) := by decide +kernel
theorem dX4_alike_35 : decode cX4_alike 35 = .ok (.invokevirtual 120, 3) := by decide +kernel
theorem dX4_alike_38 : decode cX4_alike 38 = .ok (.invokevirtual 124, 3) := by decide +kernel
theorem dX4_alike_41 : decode cX4_alike 41 = .ok (.pop, 1) := by decide +kernel
theorem dX4_alike_42 : decode cX4_alike 42 = .ok (.aload_n 0, 1) := by decide +kernel
theorem dX4_alike_43 : decode cX4_alike 43 = .ok (.iload_n 1, 1) := by decide +kernel
theorem dX4_alike_44 : decode cX4_alike 44 = .ok (.invokevirtual 203, 3) := by decide +kernel
theorem dX4_alike_47 : decode cX4_alike 47 = .ok (.ifCond .eq 11, 3) := by decide +kernel
theorem dX4_alike_50 : decode cX4_alike 50 = .ok (.aload_n 0, 1) := by decide +kernel
theorem dX4_alike_51 : decode cX4_alike 51 = .ok (.iload_n 2, 1) := by decide +kernel
theorem dX4_alike_52 : decode cX4_alike 52 = .ok (.invokevirtual 203, 3) := by decide +kernel
theorem dX4_alike_55 : decode cX4_alike 55 = .ok (.ifCond .ne 5, 3) := by decide +kernel
theorem dX4_alike_58 : decode cX4_alike 58 = .ok (.iconst 0, 1) := by decide +kernel
theorem dX4_alike_59 : decode cX4_alike 59 = .ok (.ireturn, 1) := by decide +kernel
theorem dX4_alike_60 : decode cX4_alike 60 = .ok (.aload_n 0, 1) := by decide +kernel
theorem dX4_alike_61 : decode cX4_alike 61 = .ok (.getfield 26, 3) := by decide +kernel
theorem dX4_alike_64 : decode cX4_alike 64 = .ok (.getfield 149, 3) := by decide +kernel
theorem dX4_alike_67 : decode cX4_alike 67 = .ok (.aload_n 0, 1) := by decide +kernel
theorem dX4_alike_68 : decode cX4_alike 68 = .ok (.getfield 10, 3) := by decide +kernel
theorem dX4_alike_71 : decode cX4_alike 71 = .ok (.getfield 140, 3) := by decide +kernel
theorem dX4_alike_74 : decode cX4_alike 74 = .ok (.iload_n 1, 1) := by decide +kernel
theorem dX4_alike_75 : decode cX4_alike 75 = .ok (.iaload, 1) := by decide +kernel
theorem dX4_alike_76 : decode cX4_alike 76 = .ok (.iaload, 1) := by decide +kernel
theorem dX4_alike_77 : decode cX4_alike 77 = .ok (.istore_n 3, 1) := by decide +kernel
theorem dX4_alike_78 : decode cX4_alike 78 = .ok (.aload_n 0, 1) := by decide +kernel
theorem dX4_alike_79 : decode cX4_alike 79 = .ok (.getfield 26, 3) := by decide +kernel
theorem dX4_alike_82 : decode cX4_alike 82 = .ok (.getfield 149, 3) := by decide +kernel
theorem dX4_alike_85 : decode cX4_alike 85 = .ok (.aload_n 0, 1) := by decide +kernel
theorem dX4_alike_86 : decode cX4_alike 86 = .ok (.getfield 10, 3) := by decide +kernel
theorem dX4_alike_89 : decode cX4_alike 89 = .ok (.getfield 143, 3) := by decide +kernel
theorem dX4_alike_92 : decode cX4_alike 92 = .ok (.iload_n 1, 1) := by decide +kernel
theorem dX4_alike_93 : decode cX4_alike 93 = .ok (.iaload, 1) := by decide +kernel
theorem dX4_alike_94 : decode cX4_alike 94 = .ok (.iaload, 1) := by decide +kernel
theorem dX4_alike_95 : decode cX4_alike 95 = .ok (.istore 4, 2) := by decide +kernel
theorem dX4_alike_97 : decode cX4_alike 97 = .ok (.aload_n 0, 1) := by decide +kernel
theorem dX4_alike_98 : decode cX4_alike 98 = .ok (.getfield 26, 3) := by decide +kernel
theorem dX4_alike_101 : decode cX4_alike 101 = .ok (.getfield 149, 3) := by decide +kernel
theorem dX4_alike_104 : decode cX4_alike 104 = .ok (.aload_n 0, 1) := by decide +kernel
theorem dX4_alike_105 : decode cX4_alike 105 = .ok (.getfield 10, 3) := by decide +kernel
theorem dX4_alike_108 : decode cX4_alike 108 = .ok (.getfield 140, 3) := by decide +kernel
theorem dX4_alike_111 : decode cX4_alike 111 = .ok (.iload_n 2, 1) := by decide +kernel
theorem dX4_alike_112 : decode cX4_alike 112 = .ok (.iaload, 1) := by decide +kernel
theorem dX4_alike_113 : decode cX4_alike 113 = .ok (.iaload, 1) := by decide +kernel
theorem dX4_alike_114 : decode cX4_alike 114 = .ok (.istore 5, 2) := by decide +kernel
theorem dX4_alike_116 : decode cX4_alike 116 = .ok (.aload_n 0, 1) := by decide +kernel
theorem dX4_alike_117 : decode cX4_alike 117 = .ok (.getfield 26, 3) := by decide +kernel
theorem dX4_alike_120 : decode cX4_alike 120 = .ok (.getfield 149, 3) := by decide +kernel
theorem dX4_alike_123 : decode cX4_alike 123 = .ok (.aload_n 0, 1) := by decide +kernel
theorem dX4_alike_124 : decode cX4_alike 124 = .ok (.getfield 10, 3) := by decide +kernel
theorem dX4_alike_127 : decode cX4_alike 127 = .ok (.getfield 143, 3) := by decide +kernel
theorem dX4_alike_130 : decode cX4_alike 130 = .ok (.iload_n 2, 1) := by decide +kernel
theorem dX4_alike_131 : decode cX4_alike 131 = .ok (.iaload, 1) := by decide +kernel
theorem dX4_alike_132 : decode cX4_alike 132 = .ok (.iaload, 1) := by decide +kernel
theorem dX4_alike_133 : decode cX4_alike 133 = .ok (.istore 6, 2) := by decide +kernel
theorem dX4_alike_135 : decode cX4_alike 135 = .ok (.iload_n 3, 1) := by decide +kernel
theorem dX4_alike_136 : decode cX4_alike 136 = .ok (.iload 5, 2) := by decide +kernel
theorem dX4_alike_138 : decode cX4_alike 138 = .ok (.if_icmp .ne 10, 3) := by decide +kernel
theorem dX4_alike_141 : decode cX4_alike 141 = .ok (.iload 4, 2) := by decide +kernel
theorem dX4_alike_143 : decode cX4_alike 143 = .ok (.iload 6, 2) := by decide +kernel
theorem dX4_alike_145 : decode cX4_alike 145 = .ok (.if_icmp .eq 16, 3) := by decide +kernel
theorem dX4_alike_148 : decode cX4_alike 148 = .ok (.iload_n 3, 1) := by decide +kernel
theorem dX4_alike_149 : decode cX4_alike 149 = .ok (.iload 6, 2) := by decide +kernel
theorem dX4_alike_151 : decode cX4_alike 151 = .ok (.if_icmp .ne 14, 3) := by decide +kernel
theorem dX4_alike_154 : decode cX4_alike 154 = .ok (.iload 4, 2) := by decide +kernel
theorem dX4_alike_156 : decode cX4_alike 156 = .ok (.iload 5, 2) := by decide +kernel
theorem dX4_alike_158 : decode cX4_alike 158 = .ok (.if_icmp .ne 7, 3) := by decide +kernel
theorem dX4_alike_161 : decode cX4_alike 161 = .ok (.iconst 1, 1) := by decide +kernel
theorem dX4_alike_162 : decode cX4_alike 162 = .ok (.goto 4, 3) := by decide +kernel
theorem dX4_alike_165 : decode cX4_alike 165 = .ok (.iconst 0, 1) := by decide +kernel
theorem dX4_alike_166 : decode cX4_alike 166 = .ok (.ireturn, 1) := by decide +kernel
/-! ===== FlowMeters.alike(II)Z ===== -/
def fX4_alike (N : Nat) (c_t_now_flows : Int32) (c_t_now_readSet : Int32) (c_t_now_from : Nat → Int32) (c_t_now_to : Nat → Int32) (c_t_groups_least : Nat → Int32) (x1 : Int32) (x2 : Int32) : Option (Int32 × (Nat → Int32)) :=
  (fX4_isFlow c_t_now_flows x1).bind fun v1 =>
  (if v1 = 0 then
    some (0, c_t_groups_least)
  else
    (fX4_isFlow c_t_now_flows x2).bind fun v4 =>
    (if v4 = 0 then
      some (0, c_t_groups_least)
    else
      (if x1 = x2 then
        some (0, c_t_groups_least)
      else
        (fX3_unreadSet c_t_now_flows c_t_now_readSet).bind fun v8 =>
        (fX1_gather N c_t_groups_least c_t_now_flows c_t_now_from c_t_now_to v8).bind fun (v10, v11) =>
        (fX4_isSpareIn c_t_now_readSet c_t_now_from c_t_now_to v11 x1).bind fun v13 =>
        (if v13 = 0 then
          some (0, v11)
        else
          (fX4_isSpareIn c_t_now_readSet c_t_now_from c_t_now_to v11 x2).bind fun v16 =>
          (if v16 = 0 then
            some (0, v11)
          else
            (ya_rd c_t_now_from 10 x1).bind fun v19 =>
            (ya_rd v11 6 v19).bind fun v21 =>
            (ya_rd c_t_now_to 10 x1).bind fun v23 =>
            (ya_rd v11 6 v23).bind fun v25 =>
            (ya_rd c_t_now_from 10 x2).bind fun v27 =>
            (ya_rd v11 6 v27).bind fun v29 =>
            (ya_rd c_t_now_to 10 x2).bind fun v31 =>
            (ya_rd v11 6 v31).bind fun v33 =>
            (if v21 = v29 then
              (if v25 = v33 then
                some (1, v11)
              else
                (if v21 = v33 then
                  (if v25 = v29 then
                    some (1, v11)
                  else
                    some (0, v11))
                else
                  some (0, v11)))
            else
              (if v21 = v33 then
                (if v25 = v29 then
                  some (1, v11)
                else
                  some (0, v11))
              else
                some (0, v11))))))))
theorem fX4_alike_26 : yF wsX4_alike RX4 26 4 2 RX4 TX4 7 := ⟨rfl, by decide, by decide +kernel, by decide +kernel⟩
theorem fX4_alike_10 : yF wsX4_alike RX4 10 4 0 RX4 TX4 7 := ⟨rfl, by decide, by decide +kernel, by decide +kernel⟩
theorem fX4_alike_149 : yF wsX4_alike RX4 149 1 0 RX1 TX1 1 := ⟨rfl, by decide, by decide +kernel, by decide +kernel⟩
theorem fX4_alike_140 : yF wsX4_alike RX4 140 3 3 RX3 TX3 11 := ⟨rfl, by decide, by decide +kernel, by decide +kernel⟩
theorem fX4_alike_143 : yF wsX4_alike RX4 143 3 4 RX3 TX3 11 := ⟨rfl, by decide, by decide +kernel, by decide +kernel⟩
abbrev rmX4_alike : Room := { frames := 3, cells := 0, slots := 0, locals := 97 }
theorem eX4_alike : yY yX4_alike wsX4_alike cX4_alike 7 (some .boolean) rmX4_alike 2 := ⟨⟨_, rfl⟩, rfl, rfl, by decide, by decide, by decide +kernel⟩
set_option maxHeartbeats 4000000 in
set_option maxRecDepth 100000 in
theorem mX4_alike {l : Launch} {D : va_G} {sz : Nat} {cI cJ cZ cW cR : ClassId} {N : Nat} {h_t : Nat} {A_t : Nat → Nat} {A_t_now : Nat → Nat} {A_t_groups : Nat → Nat} {c_t_now_knots : Int32} {c_t_now_flows : Int32} {c_t_now_readSet : Int32} {c_t_now_from : Nat → Int32} {c_t_now_to : Nat → Int32} {c_t_groups_least : Nat → Int32} {x1 : Int32} {x2 : Int32} {r : Int32} {zc_t_groups_least : Nat → Int32} (hf : fX4_alike N c_t_now_flows c_t_now_readSet c_t_now_from c_t_now_to c_t_groups_least x1 x2 = some (r, zc_t_groups_least)) : Met l yX4_alike wsX4_alike rmX4_alike (yP D (yT cI cJ cZ cW cR) [(h_t, oM A_t), (A_t 0, oW A_t_now c_t_now_knots c_t_now_flows c_t_now_readSet), (A_t_now 0, eI cI 10 c_t_now_from), (A_t_now 1, eI cI 10 c_t_now_to), (A_t 2, oG A_t_groups), (A_t_groups 0, eI cI 6 c_t_groups_least)] sz [.ref h_t, .int x1, .int x2]) (yQi D (yT cI cJ cZ cW cR) r [(h_t, oM A_t), (A_t 0, oW A_t_now c_t_now_knots c_t_now_flows c_t_now_readSet), (A_t_now 0, eI cI 10 c_t_now_from), (A_t_now 1, eI cI 10 c_t_now_to), (A_t 2, oG A_t_groups), (A_t_groups 0, eI cI 6 zc_t_groups_least)] (va_A [(h_t, oM A_t), (A_t 0, oW A_t_now c_t_now_knots c_t_now_flows c_t_now_readSet), (A_t_now 0, eI cI 10 c_t_now_from), (A_t_now 1, eI cI 10 c_t_now_to), (A_t 2, oG A_t_groups), (A_t_groups 0, eI cI 6 c_t_groups_least)] sz)) 0 0 (va_A [(h_t, oM A_t), (A_t 0, oW A_t_now c_t_now_knots c_t_now_flows c_t_now_readSet), (A_t_now 0, eI cI 10 c_t_now_from), (A_t_now 1, eI cI 10 c_t_now_to), (A_t 2, oG A_t_groups), (A_t_groups 0, eI cI 6 c_t_groups_least)] sz) := by
  refine yM (cc := cX4_alike) (maxL := 7) (ret := (some .boolean)) RX4 (by decide) rfl rfl (Nat.le_of_ble_eq_true rfl) ?_
  intro p e s m below meth c Γ hr
  show yG p l e (headSpec wsX4_alike rmX4_alike).room s m (List.toArray [.ref h_t, .int x1, .int x2]) below meth c D (va_A [(h_t, oM A_t), (A_t 0, oW A_t_now c_t_now_knots c_t_now_flows c_t_now_readSet), (A_t_now 0, eI cI 10 c_t_now_from), (A_t_now 1, eI cI 10 c_t_now_to), (A_t 2, oG A_t_groups), (A_t_groups 0, eI cI 6 c_t_groups_least)] sz) 7 0 0 (MQ below (yQi D (yT cI cJ cZ cW cR) r [(h_t, oM A_t), (A_t 0, oW A_t_now c_t_now_knots c_t_now_flows c_t_now_readSet), (A_t_now 0, eI cI 10 c_t_now_from), (A_t_now 1, eI cI 10 c_t_now_to), (A_t 2, oG A_t_groups), (A_t_groups 0, eI cI 6 zc_t_groups_least)] (va_A [(h_t, oM A_t), (A_t 0, oW A_t_now c_t_now_knots c_t_now_flows c_t_now_readSet), (A_t_now 0, eI cI 10 c_t_now_from), (A_t_now 1, eI cI 10 c_t_now_to), (A_t 2, oG A_t_groups), (A_t_groups 0, eI cI 6 c_t_groups_least)] sz)) (List.toArray [.ref h_t, .int x1, .int x2]) s 0 0 (va_A [(h_t, oM A_t), (A_t 0, oW A_t_now c_t_now_knots c_t_now_flows c_t_now_readSet), (A_t_now 0, eI cI 10 c_t_now_from), (A_t_now 1, eI cI 10 c_t_now_to), (A_t 2, oG A_t_groups), (A_t_groups 0, eI cI 6 c_t_groups_least)] sz)) 0 [(0, .ref h_t), (1, .int x1), (2, .int x2)] [] [(h_t, oM A_t), (A_t 0, oW A_t_now c_t_now_knots c_t_now_flows c_t_now_readSet), (A_t_now 0, eI cI 10 c_t_now_from), (A_t_now 1, eI cI 10 c_t_now_to), (A_t 2, oG A_t_groups), (A_t_groups 0, eI cI 6 c_t_groups_least)]
  unfold fX4_alike at hf
  refine g_aload_n Γ 0 dX4_alike_0 rfl ?_
  refine g_iload_n Γ 1 dX4_alike_1 rfl ?_
  obtain ⟨v1, e2, hf⟩ := ya_ob hf
  refine g_vi (q := (RX4, TX4, 7)) (wr := [(A_t_now 0, eI cI 10 c_t_now_from), (A_t_now 1, eI cI 10 c_t_now_to), (A_t 2, oG A_t_groups), (A_t_groups 0, eI cI 6 c_t_groups_least)]) (ws' := [(A_t_now 0, eI cI 10 c_t_now_from), (A_t_now 1, eI cI 10 c_t_now_to), (A_t 2, oG A_t_groups), (A_t_groups 0, eI cI 6 c_t_groups_least), (h_t, oM A_t), (A_t 0, oW A_t_now c_t_now_knots c_t_now_flows c_t_now_readSet)]) Γ (fun sz => mX4_isFlow (l := l) (D := D) (sz := sz) (cI := cI) (cJ := cJ) (cZ := cZ) (cW := cW) (cR := cR) (h_t := h_t) (A_t := A_t) (A_t_now := A_t_now) (hf := e2)) eX4_isFlow gX4_alike_X4_isFlow rfl rfl 0 rfl rfl rfl (Nat.le_of_ble_eq_true rfl) ⟨Nat.le_of_ble_eq_true rfl, Nat.le_of_ble_eq_true rfl⟩ dX4_alike_2 [0, 1] [2, 3, 4, 5] rfl rfl rfl rfl (by decide) rfl ?_
  refine g_if_eq Γ 21 dX4_alike_5 (by decide) (fun c3 => ?_) (fun c3 => ?_)
  · have hf := ya_if1 c3 hf
    refine g_iconst (v := 0) Γ dX4_alike_21 (by decide) ?_
    cases hf
    exact g_zret Γ hr (show ya_bo 0 = some 0 from rfl) dX4_alike_22 [4, 5, 0, 1, 2, 3] rfl rfl
  · have hf := ya_if2 c3 hf
    refine g_aload_n Γ 0 dX4_alike_8 rfl ?_
    refine g_iload_n Γ 2 dX4_alike_9 rfl ?_
    obtain ⟨v4, e5, hf⟩ := ya_ob hf
    refine g_vi (q := (RX4, TX4, 7)) (wr := [(A_t_now 0, eI cI 10 c_t_now_from), (A_t_now 1, eI cI 10 c_t_now_to), (A_t 2, oG A_t_groups), (A_t_groups 0, eI cI 6 c_t_groups_least)]) (ws' := [(A_t_now 0, eI cI 10 c_t_now_from), (A_t_now 1, eI cI 10 c_t_now_to), (A_t 2, oG A_t_groups), (A_t_groups 0, eI cI 6 c_t_groups_least), (h_t, oM A_t), (A_t 0, oW A_t_now c_t_now_knots c_t_now_flows c_t_now_readSet)]) Γ (fun sz => mX4_isFlow (l := l) (D := D) (sz := sz) (cI := cI) (cJ := cJ) (cZ := cZ) (cW := cW) (cR := cR) (h_t := h_t) (A_t := A_t) (A_t_now := A_t_now) (hf := e5)) eX4_isFlow gX4_alike_X4_isFlow rfl rfl 0 rfl rfl rfl (Nat.le_of_ble_eq_true rfl) ⟨Nat.le_of_ble_eq_true rfl, Nat.le_of_ble_eq_true rfl⟩ dX4_alike_10 [4, 5] [0, 1, 2, 3] rfl rfl rfl rfl (by decide) rfl ?_
    refine g_if_eq Γ 21 dX4_alike_13 (by decide) (fun c6 => ?_) (fun c6 => ?_)
    · have hf := ya_if1 c6 hf
      refine g_iconst (v := 0) Γ dX4_alike_21 (by decide) ?_
      cases hf
      exact g_zret Γ hr (show ya_bo 0 = some 0 from rfl) dX4_alike_22 [4, 5, 0, 1, 2, 3] rfl rfl
    · have hf := ya_if2 c6 hf
      refine g_iload_n Γ 1 dX4_alike_16 rfl ?_
      refine g_iload_n Γ 2 dX4_alike_17 rfl ?_
      refine g_icmp_ne Γ 23 dX4_alike_18 (by decide) (fun c7 => ?_) (fun c7 => ?_)
      · have hf := ya_if2 c7 hf
        refine g_aload_n Γ 0 dX4_alike_23 rfl ?_
        refine g_get Γ fX4_alike_26 4 rfl rfl dX4_alike_24 ?_
        refine g_aload_n Γ 0 dX4_alike_27 rfl ?_
        refine g_get Γ fX4_alike_10 4 rfl rfl dX4_alike_28 ?_
        refine g_aload_n Γ 0 dX4_alike_31 rfl ?_
        refine g_get Γ fX4_alike_10 4 rfl rfl dX4_alike_32 ?_
        obtain ⟨v8, e9, hf⟩ := ya_ob hf
        refine g_vi (q := (RX3, TX3, 11)) (wr := [(A_t_now 0, eI cI 10 c_t_now_from), (A_t_now 1, eI cI 10 c_t_now_to), (A_t 2, oG A_t_groups), (A_t_groups 0, eI cI 6 c_t_groups_least), (h_t, oM A_t)]) (ws' := [(A_t_now 0, eI cI 10 c_t_now_from), (A_t_now 1, eI cI 10 c_t_now_to), (A_t 2, oG A_t_groups), (A_t_groups 0, eI cI 6 c_t_groups_least), (h_t, oM A_t), (A_t 0, oW A_t_now c_t_now_knots c_t_now_flows c_t_now_readSet)]) Γ (fun sz => mX3_unreadSet (l := l) (D := D) (sz := sz) (cI := cI) (cJ := cJ) (cZ := cZ) (cW := cW) (cR := cR) (h_t := A_t 0) (A_t := A_t_now) (hf := e9)) eX3_unreadSet gX4_alike_X3_unreadSet rfl rfl 0 rfl rfl rfl (Nat.le_of_ble_eq_true rfl) ⟨Nat.le_of_ble_eq_true rfl, Nat.le_of_ble_eq_true rfl⟩ dX4_alike_35 [5] [0, 1, 2, 3, 4] rfl rfl rfl rfl (by decide) rfl ?_
        obtain ⟨⟨v10, v11⟩, e12, hf⟩ := ya_ob hf
        refine g_vi (q := (RX1, TX1, 1)) (wr := [(h_t, oM A_t)]) (ws' := [(h_t, oM A_t), (A_t 2, oG A_t_groups), (A_t_groups 0, eI cI 6 v11), (A_t 0, oW A_t_now c_t_now_knots c_t_now_flows c_t_now_readSet), (A_t_now 0, eI cI 10 c_t_now_from), (A_t_now 1, eI cI 10 c_t_now_to)]) Γ (fun sz => mX1_gather (l := l) (D := D) (sz := sz) (cI := cI) (cJ := cJ) (cZ := cZ) (cW := cW) (cR := cR) (h_t := A_t 2) (h_w := A_t 0) (A_t := A_t_groups) (A_w := A_t_now) (hf := e12)) eX1_gather gX4_alike_X1_gather rfl rfl 0 rfl rfl rfl (Nat.le_of_ble_eq_true rfl) ⟨Nat.le_of_ble_eq_true rfl, Nat.le_of_ble_eq_true rfl⟩ dX4_alike_38 [2, 3, 5, 0, 1] [4] rfl rfl rfl rfl (by decide) rfl ?_
        refine g_pop Γ dX4_alike_41 rfl ?_
        refine g_aload_n Γ 0 dX4_alike_42 rfl ?_
        refine g_iload_n Γ 1 dX4_alike_43 rfl ?_
        obtain ⟨v13, e14, hf⟩ := ya_ob hf
        refine g_vi (q := (RX4, TX4, 7)) (wr := []) (ws' := [(h_t, oM A_t), (A_t 0, oW A_t_now c_t_now_knots c_t_now_flows c_t_now_readSet), (A_t_now 0, eI cI 10 c_t_now_from), (A_t_now 1, eI cI 10 c_t_now_to), (A_t 2, oG A_t_groups), (A_t_groups 0, eI cI 6 v11)]) Γ (fun sz => mX4_isSpareIn (l := l) (D := D) (sz := sz) (cI := cI) (cJ := cJ) (cZ := cZ) (cW := cW) (cR := cR) (h_t := h_t) (A_t := A_t) (A_t_now := A_t_now) (A_t_groups := A_t_groups) (hf := e14)) eX4_isSpareIn gX4_alike_X4_isSpareIn rfl rfl 0 rfl rfl rfl (Nat.le_of_ble_eq_true rfl) ⟨Nat.le_of_ble_eq_true rfl, Nat.le_of_ble_eq_true rfl⟩ dX4_alike_44 [0, 3, 4, 5, 1, 2] [] rfl rfl rfl rfl (by decide) rfl ?_
        refine g_if_eq Γ 58 dX4_alike_47 (by decide) (fun c15 => ?_) (fun c15 => ?_)
        · have hf := ya_if1 c15 hf
          refine g_iconst (v := 0) Γ dX4_alike_58 (by decide) ?_
          cases hf
          exact g_zret Γ hr (show ya_bo 0 = some 0 from rfl) dX4_alike_59 [0, 1, 2, 3, 4, 5] rfl rfl
        · have hf := ya_if2 c15 hf
          refine g_aload_n Γ 0 dX4_alike_50 rfl ?_
          refine g_iload_n Γ 2 dX4_alike_51 rfl ?_
          obtain ⟨v16, e17, hf⟩ := ya_ob hf
          refine g_vi (q := (RX4, TX4, 7)) (wr := []) (ws' := [(h_t, oM A_t), (A_t 0, oW A_t_now c_t_now_knots c_t_now_flows c_t_now_readSet), (A_t_now 0, eI cI 10 c_t_now_from), (A_t_now 1, eI cI 10 c_t_now_to), (A_t 2, oG A_t_groups), (A_t_groups 0, eI cI 6 v11)]) Γ (fun sz => mX4_isSpareIn (l := l) (D := D) (sz := sz) (cI := cI) (cJ := cJ) (cZ := cZ) (cW := cW) (cR := cR) (h_t := h_t) (A_t := A_t) (A_t_now := A_t_now) (A_t_groups := A_t_groups) (hf := e17)) eX4_isSpareIn gX4_alike_X4_isSpareIn rfl rfl 0 rfl rfl rfl (Nat.le_of_ble_eq_true rfl) ⟨Nat.le_of_ble_eq_true rfl, Nat.le_of_ble_eq_true rfl⟩ dX4_alike_52 [0, 1, 2, 3, 4, 5] [] rfl rfl rfl rfl (by decide) rfl ?_
          refine g_if_ne Γ 60 dX4_alike_55 (by decide) (fun c18 => ?_) (fun c18 => ?_)
          · have hf := ya_if2 c18 hf
            refine g_aload_n Γ 0 dX4_alike_60 rfl ?_
            refine g_get Γ fX4_alike_26 0 rfl rfl dX4_alike_61 ?_
            refine g_get Γ fX4_alike_149 4 rfl rfl dX4_alike_64 ?_
            refine g_aload_n Γ 0 dX4_alike_67 rfl ?_
            refine g_get Γ fX4_alike_10 0 rfl rfl dX4_alike_68 ?_
            refine g_get Γ fX4_alike_140 1 rfl rfl dX4_alike_71 ?_
            refine g_iload_n Γ 1 dX4_alike_74 rfl ?_
            obtain ⟨v19, e20, hf⟩ := ya_ob hf
            refine g_iald Γ e20 2 0 rfl rfl dX4_alike_75 ?_
            obtain ⟨v21, e22, hf⟩ := ya_ob hf
            refine g_iald Γ e22 5 0 rfl rfl dX4_alike_76 ?_
            refine g_istore_n (lv' := [(3, .int v21), (0, .ref h_t), (1, .int x1), (2, .int x2)]) Γ dX4_alike_77 (by decide) rfl ?_
            refine g_aload_n Γ 1 dX4_alike_78 rfl ?_
            refine g_get Γ fX4_alike_26 0 rfl rfl dX4_alike_79 ?_
            refine g_get Γ fX4_alike_149 4 rfl rfl dX4_alike_82 ?_
            refine g_aload_n Γ 1 dX4_alike_85 rfl ?_
            refine g_get Γ fX4_alike_10 0 rfl rfl dX4_alike_86 ?_
            refine g_get Γ fX4_alike_143 1 rfl rfl dX4_alike_89 ?_
            refine g_iload_n Γ 2 dX4_alike_92 rfl ?_
            obtain ⟨v23, e24, hf⟩ := ya_ob hf
            refine g_iald Γ e24 3 0 rfl rfl dX4_alike_93 ?_
            obtain ⟨v25, e26, hf⟩ := ya_ob hf
            refine g_iald Γ e26 5 0 rfl rfl dX4_alike_94 ?_
            refine g_istore (lv' := [(4, .int v25), (3, .int v21), (0, .ref h_t), (1, .int x1), (2, .int x2)]) Γ dX4_alike_95 (by decide) rfl ?_
            refine g_aload_n Γ 2 dX4_alike_97 rfl ?_
            refine g_get Γ fX4_alike_26 0 rfl rfl dX4_alike_98 ?_
            refine g_get Γ fX4_alike_149 4 rfl rfl dX4_alike_101 ?_
            refine g_aload_n Γ 2 dX4_alike_104 rfl ?_
            refine g_get Γ fX4_alike_10 0 rfl rfl dX4_alike_105 ?_
            refine g_get Γ fX4_alike_140 1 rfl rfl dX4_alike_108 ?_
            refine g_iload_n Γ 4 dX4_alike_111 rfl ?_
            obtain ⟨v27, e28, hf⟩ := ya_ob hf
            refine g_iald Γ e28 2 0 rfl rfl dX4_alike_112 ?_
            obtain ⟨v29, e30, hf⟩ := ya_ob hf
            refine g_iald Γ e30 5 0 rfl rfl dX4_alike_113 ?_
            refine g_istore (lv' := [(5, .int v29), (4, .int v25), (3, .int v21), (0, .ref h_t), (1, .int x1), (2, .int x2)]) Γ dX4_alike_114 (by decide) rfl ?_
            refine g_aload_n Γ 3 dX4_alike_116 rfl ?_
            refine g_get Γ fX4_alike_26 0 rfl rfl dX4_alike_117 ?_
            refine g_get Γ fX4_alike_149 4 rfl rfl dX4_alike_120 ?_
            refine g_aload_n Γ 3 dX4_alike_123 rfl ?_
            refine g_get Γ fX4_alike_10 0 rfl rfl dX4_alike_124 ?_
            refine g_get Γ fX4_alike_143 1 rfl rfl dX4_alike_127 ?_
            refine g_iload_n Γ 5 dX4_alike_130 rfl ?_
            obtain ⟨v31, e32, hf⟩ := ya_ob hf
            refine g_iald Γ e32 3 0 rfl rfl dX4_alike_131 ?_
            obtain ⟨v33, e34, hf⟩ := ya_ob hf
            refine g_iald Γ e34 5 0 rfl rfl dX4_alike_132 ?_
            refine g_istore (lv' := [(6, .int v33), (5, .int v29), (4, .int v25), (3, .int v21), (0, .ref h_t), (1, .int x1), (2, .int x2)]) Γ dX4_alike_133 (by decide) rfl ?_
            refine g_iload_n Γ 3 dX4_alike_135 rfl ?_
            refine g_iload Γ 1 dX4_alike_136 rfl ?_
            refine g_icmp_ne Γ 148 dX4_alike_138 (by decide) (fun c35 => ?_) (fun c35 => ?_)
            · have hf := ya_if2 c35 hf
              refine g_iload_n Γ 3 dX4_alike_148 rfl ?_
              refine g_iload Γ 0 dX4_alike_149 rfl ?_
              refine g_icmp_ne Γ 165 dX4_alike_151 (by decide) (fun c36 => ?_) (fun c36 => ?_)
              · have hf := ya_if2 c36 hf
                refine g_iconst (v := 0) Γ dX4_alike_165 (by decide) ?_
                cases hf
                exact g_zret Γ hr (show ya_bo 0 = some 0 from rfl) dX4_alike_166 [0, 1, 2, 3, 4, 5] rfl rfl
              · have hf := ya_if1 c36 hf
                refine g_iload Γ 2 dX4_alike_154 rfl ?_
                refine g_iload Γ 1 dX4_alike_156 rfl ?_
                refine g_icmp_ne Γ 165 dX4_alike_158 (by decide) (fun c37 => ?_) (fun c37 => ?_)
                · have hf := ya_if2 c37 hf
                  refine g_iconst (v := 0) Γ dX4_alike_165 (by decide) ?_
                  cases hf
                  exact g_zret Γ hr (show ya_bo 0 = some 0 from rfl) dX4_alike_166 [0, 1, 2, 3, 4, 5] rfl rfl
                · have hf := ya_if1 c37 hf
                  refine g_iconst (v := 1) Γ dX4_alike_161 (by decide) ?_
                  refine g_goto Γ 166 dX4_alike_162 (by decide) ?_
                  cases hf
                  exact g_zret Γ hr (show ya_bo 1 = some 1 from rfl) dX4_alike_166 [0, 1, 2, 3, 4, 5] rfl rfl
            · have hf := ya_if1 c35 hf
              refine g_iload Γ 2 dX4_alike_141 rfl ?_
              refine g_iload Γ 0 dX4_alike_143 rfl ?_
              refine g_icmp_eq Γ 161 dX4_alike_145 (by decide) (fun c38 => ?_) (fun c38 => ?_)
              · have hf := ya_if1 c38 hf
                refine g_iconst (v := 1) Γ dX4_alike_161 (by decide) ?_
                refine g_goto Γ 166 dX4_alike_162 (by decide) ?_
                cases hf
                exact g_zret Γ hr (show ya_bo 1 = some 1 from rfl) dX4_alike_166 [0, 1, 2, 3, 4, 5] rfl rfl
              · have hf := ya_if2 c38 hf
                refine g_iload_n Γ 3 dX4_alike_148 rfl ?_
                refine g_iload Γ 0 dX4_alike_149 rfl ?_
                refine g_icmp_ne Γ 165 dX4_alike_151 (by decide) (fun c39 => ?_) (fun c39 => ?_)
                · have hf := ya_if2 c39 hf
                  refine g_iconst (v := 0) Γ dX4_alike_165 (by decide) ?_
                  cases hf
                  exact g_zret Γ hr (show ya_bo 0 = some 0 from rfl) dX4_alike_166 [0, 1, 2, 3, 4, 5] rfl rfl
                · have hf := ya_if1 c39 hf
                  refine g_iload Γ 2 dX4_alike_154 rfl ?_
                  refine g_iload Γ 1 dX4_alike_156 rfl ?_
                  refine g_icmp_ne Γ 165 dX4_alike_158 (by decide) (fun c40 => ?_) (fun c40 => ?_)
                  · have hf := ya_if2 c40 hf
                    refine g_iconst (v := 0) Γ dX4_alike_165 (by decide) ?_
                    cases hf
                    exact g_zret Γ hr (show ya_bo 0 = some 0 from rfl) dX4_alike_166 [0, 1, 2, 3, 4, 5] rfl rfl
                  · have hf := ya_if1 c40 hf
                    refine g_iconst (v := 1) Γ dX4_alike_161 (by decide) ?_
                    refine g_goto Γ 166 dX4_alike_162 (by decide) ?_
                    cases hf
                    exact g_zret Γ hr (show ya_bo 1 = some 1 from rfl) dX4_alike_166 [0, 1, 2, 3, 4, 5] rfl rfl
          · have hf := ya_if1 c18 hf
            refine g_iconst (v := 0) Γ dX4_alike_58 (by decide) ?_
            cases hf
            exact g_zret Γ hr (show ya_bo 0 = some 0 from rfl) dX4_alike_59 [0, 1, 2, 3, 4, 5] rfl rfl
      · have hf := ya_if1 c7 hf
        refine g_iconst (v := 0) Γ dX4_alike_21 (by decide) ?_
        cases hf
        exact g_zret Γ hr (show ya_bo 0 = some 0 from rfl) dX4_alike_22 [4, 5, 0, 1, 2, 3] rfl rfl

set_option maxRecDepth 20000 in
theorem ggX4_shows_X1_gather : GoodIn wsX4_shows wsX1_gather := goodIn_r _ [8, 9, 10, 11, 12, 13, 14, 15, 16, 17, 18, 7, 19, 20, 21, 22, 23, 24, 25, 26, 27, 28, 29, 30, 51, 40, 41, 42, 43, 44, 45, 46, 47, 48, 49, 50] rfl (by decide +kernel)
set_option maxRecDepth 20000 in
theorem gX4_shows_X1_gather : GoodIn wsX4_shows (wsV RX4 124 RX1 yX1_gather wsX1_gather) := goodIn_app (goodIn_of _ (by decide +kernel)) ggX4_shows_X1_gather
set_option maxRecDepth 20000 in
theorem ggX4_shows_X4_holds : GoodIn wsX4_shows wsX4_holds := goodIn_r _ [15] rfl (by decide +kernel)
set_option maxRecDepth 20000 in
theorem gX4_shows_X4_holds : GoodIn wsX4_shows (va_wsS RX4 78 yX4_holds wsX4_holds) := goodIn_app (goodIn_of _ (by decide +kernel)) ggX4_shows_X4_holds
set_option maxRecDepth 20000 in
theorem ggX4_shows_X1_parts : GoodIn wsX4_shows wsX1_parts := goodIn_r _ [19, 9, 11, 12, 51, 40, 41, 42, 43, 44, 45, 46, 47, 48, 49, 50] rfl (by decide +kernel)
set_option maxRecDepth 20000 in
theorem gX4_shows_X1_parts : GoodIn wsX4_shows (wsV RX4 223 RX1 yX1_parts wsX1_parts) := goodIn_app (goodIn_of _ (by decide +kernel)) ggX4_shows_X1_parts
theorem dX4_shows_0 : decode cX4_shows 0 = .ok (.aload_n 0, 1) := by decide +kernel
theorem dX4_shows_1 : decode cX4_shows 1 = .ok (.getfield 26, 3) := by decide +kernel
theorem dX4_shows_4 : decode cX4_shows 4 = .ok (.aload_n 0, 1) := by decide +kernel
theorem dX4_shows_5 : decode cX4_shows 5 = .ok (.getfield 10, 3) := by decide +kernel
theorem dX4_shows_8 : decode cX4_shows 8 = .ok (.iload_n 1, 1) := by decide +kernel
theorem dX4_shows_9 : decode cX4_shows 9 = .ok (.invokevirtual 124, 3) := by decide +kernel
theorem dX4_shows_12 : decode cX4_shows 12 = .ok (.ifCond .ne 5, 3) := by decide +kernel
theorem dX4_shows_15 : decode cX4_shows 15 = .ok (.iconst 0, 1) := by decide +kernel
theorem dX4_shows_16 : decode cX4_shows 16 = .ok (.ireturn, 1) := by decide +kernel
theorem dX4_shows_17 : decode cX4_shows 17 = .ok (.iload_n 2, 1) := by decide +kernel
theorem dX4_shows_18 : decode cX4_shows 18 = .ok (.ifCond .ne 5, 3) := by decide +kernel
theorem dX4_shows_21 : decode cX4_shows 21 = .ok (.iconst 1, 1) := by decide +kernel
theorem dX4_shows_22 : decode cX4_shows 22 = .ok (.ireturn, 1) := by decide +kernel
theorem dX4_shows_23 : decode cX4_shows 23 = .ok (.iconst 0, 1) := by decide +kernel
theorem dX4_shows_24 : decode cX4_shows 24 = .ok (.istore_n 3, 1) := by decide +kernel
theorem dX4_shows_25 : decode cX4_shows 25 = .ok (.iload_n 3, 1) := by decide +kernel
theorem dX4_shows_26 : decode cX4_shows 26 = .ok (.aload_n 0, 1) := by decide +kernel
theorem dX4_shows_27 : decode cX4_shows 27 = .ok (.getfield 10, 3) := by decide +kernel
theorem dX4_shows_30 : decode cX4_shows 30 = .ok (.getfield 60, 3) := by decide +kernel
theorem dX4_shows_33 : decode cX4_shows 33 = .ok (.if_icmp .ge 34, 3) := by decide +kernel
theorem dX4_shows_36 : decode cX4_shows 36 = .ok (.iload_n 1, 1) := by decide +kernel
theorem dX4_shows_37 : decode cX4_shows 37 = .ok (.iload_n 3, 1) := by decide +kernel
theorem dX4_shows_38 : decode cX4_shows 38 = .ok (.invokestatic 78, 3) := by decide +kernel
theorem dX4_shows_41 : decode cX4_shows 41 = .ok (.ifCond .ne 20, 3) := by decide +kernel
theorem dX4_shows_44 : decode cX4_shows 44 = .ok (.aload_n 0, 1) := by decide +kernel
theorem dX4_shows_45 : decode cX4_shows 45 = .ok (.getfield 26, 3) := by decide +kernel
theorem dX4_shows_48 : decode cX4_shows 48 = .ok (.aload_n 0, 1) := by decide +kernel
theorem dX4_shows_49 : decode cX4_shows 49 = .ok (.getfield 10, 3) := by decide +kernel
theorem dX4_shows_52 : decode cX4_shows 52 = .ok (.iload_n 3, 1) := by decide +kernel
theorem dX4_shows_53 : decode cX4_shows 53 = .ok (.invokevirtual 223, 3) := by decide +kernel
theorem dX4_shows_56 : decode cX4_shows 56 = .ok (.ifCond .ne 5, 3) := by decide +kernel
theorem dX4_shows_59 : decode cX4_shows 59 = .ok (.iconst 0, 1) := by decide +kernel
theorem dX4_shows_60 : decode cX4_shows 60 = .ok (.ireturn, 1) := by decide +kernel
theorem dX4_shows_61 : decode cX4_shows 61 = .ok (.iinc 3 1, 3) := by decide +kernel
theorem dX4_shows_64 : decode cX4_shows 64 = .ok (.goto (-39), 3) := by decide +kernel
theorem dX4_shows_67 : decode cX4_shows 67 = .ok (.iconst 1, 1) := by decide +kernel
theorem dX4_shows_68 : decode cX4_shows 68 = .ok (.ireturn, 1) := by decide +kernel
/-! ===== FlowMeters.shows(IZ)Z ===== -/
def fX4_shows_L25 (N : Nat) (n : Nat) (y1 : Int32) (y3 : Int32) (d_t_now_flows : Int32) (d_t_now_from : Nat → Int32) (d_t_now_to : Nat → Int32) (d_t_groups_least : Nat → Int32) : Option ((Unit) ⊕ (Unit)) := match n with
  | 0 => none
  | n + 1 =>
    (if d_t_now_flows ≤ y3 then
        some (.inr ())
      else
        (fX4_holds y1 y3).bind fun v7 =>
        (if v7 = 0 then
          (fX1_parts d_t_groups_least d_t_now_from d_t_now_to y3).bind fun v12 =>
          (if v12 = 0 then
            some (.inl ())
          else
            ya_lt (y3 + 1) fun v15 =>
            fX4_shows_L25 N n y1 v15 d_t_now_flows d_t_now_from d_t_now_to d_t_groups_least)
        else
          ya_lt (y3 + 1) fun v10 =>
          fX4_shows_L25 N n y1 v10 d_t_now_flows d_t_now_from d_t_now_to d_t_groups_least))
def fX4_shows (N : Nat) (c_t_now_flows : Int32) (c_t_now_from : Nat → Int32) (c_t_now_to : Nat → Int32) (c_t_groups_least : Nat → Int32) (x1 : Int32) (x2 : Int32) : Option (Int32 × (Nat → Int32)) :=
  (fX1_gather N c_t_groups_least c_t_now_flows c_t_now_from c_t_now_to x1).bind fun (v1, v2) =>
  (if v1 = 0 then
    some (0, v2)
  else
    (if x2 = 0 then
      some (1, v2)
    else
      (fX4_shows_L25 N N x1 0 c_t_now_flows c_t_now_from c_t_now_to v2).bind fun o17 => match o17 with
        | .inl _ => some (0, v2)
        | .inr _ => some (1, v2)))
theorem fX4_shows_26 : yF wsX4_shows RX4 26 4 2 RX4 TX4 7 := ⟨rfl, by decide, by decide +kernel, by decide +kernel⟩
theorem fX4_shows_10 : yF wsX4_shows RX4 10 4 0 RX4 TX4 7 := ⟨rfl, by decide, by decide +kernel, by decide +kernel⟩
theorem fX4_shows_60 : yF wsX4_shows RX4 60 3 1 RX3 TX3 11 := ⟨rfl, by decide, by decide +kernel, by decide +kernel⟩
abbrev rmX4_shows : Room := { frames := 3, cells := 0, slots := 0, locals := 97 }
theorem eX4_shows : yY yX4_shows wsX4_shows cX4_shows 4 (some .boolean) rmX4_shows 2 := ⟨⟨_, rfl⟩, rfl, rfl, by decide, by decide, by decide +kernel⟩
set_option maxHeartbeats 4000000 in
set_option maxRecDepth 100000 in
theorem mX4_shows {l : Launch} {D : va_G} {sz : Nat} {cI cJ cZ cW cR : ClassId} {N : Nat} {h_t : Nat} {A_t : Nat → Nat} {A_t_now : Nat → Nat} {A_t_groups : Nat → Nat} {c_t_now_knots : Int32} {c_t_now_flows : Int32} {c_t_now_readSet : Int32} {c_t_now_from : Nat → Int32} {c_t_now_to : Nat → Int32} {c_t_groups_least : Nat → Int32} {x1 : Int32} {x2 : Int32} {r : Int32} {zc_t_groups_least : Nat → Int32} (hf : fX4_shows N c_t_now_flows c_t_now_from c_t_now_to c_t_groups_least x1 x2 = some (r, zc_t_groups_least)) : Met l yX4_shows wsX4_shows rmX4_shows (yP D (yT cI cJ cZ cW cR) [(h_t, oM A_t), (A_t 0, oW A_t_now c_t_now_knots c_t_now_flows c_t_now_readSet), (A_t_now 0, eI cI 10 c_t_now_from), (A_t_now 1, eI cI 10 c_t_now_to), (A_t 2, oG A_t_groups), (A_t_groups 0, eI cI 6 c_t_groups_least)] sz [.ref h_t, .int x1, .int x2]) (yQi D (yT cI cJ cZ cW cR) r [(h_t, oM A_t), (A_t 0, oW A_t_now c_t_now_knots c_t_now_flows c_t_now_readSet), (A_t_now 0, eI cI 10 c_t_now_from), (A_t_now 1, eI cI 10 c_t_now_to), (A_t 2, oG A_t_groups), (A_t_groups 0, eI cI 6 zc_t_groups_least)] (va_A [(h_t, oM A_t), (A_t 0, oW A_t_now c_t_now_knots c_t_now_flows c_t_now_readSet), (A_t_now 0, eI cI 10 c_t_now_from), (A_t_now 1, eI cI 10 c_t_now_to), (A_t 2, oG A_t_groups), (A_t_groups 0, eI cI 6 c_t_groups_least)] sz)) 0 0 (va_A [(h_t, oM A_t), (A_t 0, oW A_t_now c_t_now_knots c_t_now_flows c_t_now_readSet), (A_t_now 0, eI cI 10 c_t_now_from), (A_t_now 1, eI cI 10 c_t_now_to), (A_t 2, oG A_t_groups), (A_t_groups 0, eI cI 6 c_t_groups_least)] sz) := by
  refine yM (cc := cX4_shows) (maxL := 4) (ret := (some .boolean)) RX4 (by decide) rfl rfl (Nat.le_of_ble_eq_true rfl) ?_
  intro p e s m below meth c Γ hr
  have loop25 : ∀ (n : Nat) (y1 : Int32) (y3 : Int32) (d_t_now_knots : Int32) (d_t_now_flows : Int32) (d_t_now_readSet : Int32) (d_t_now_from : Nat → Int32) (d_t_now_to : Nat → Int32) (d_t_groups_least : Nat → Int32) (o : (Unit) ⊕ (Unit)), fX4_shows_L25 N n y1 y3 d_t_now_flows d_t_now_from d_t_now_to d_t_groups_least = some o → (∀ (w : Unit), o = .inl w → yG p l e (headSpec wsX4_shows rmX4_shows).room s m (List.toArray [.ref h_t, .int x1, .int x2]) below meth c D (va_A [(h_t, oM A_t), (A_t 0, oW A_t_now c_t_now_knots c_t_now_flows c_t_now_readSet), (A_t_now 0, eI cI 10 c_t_now_from), (A_t_now 1, eI cI 10 c_t_now_to), (A_t 2, oG A_t_groups), (A_t_groups 0, eI cI 6 c_t_groups_least)] sz) 4 0 0 (MQ below (yQi D (yT cI cJ cZ cW cR) r [(h_t, oM A_t), (A_t 0, oW A_t_now c_t_now_knots c_t_now_flows c_t_now_readSet), (A_t_now 0, eI cI 10 c_t_now_from), (A_t_now 1, eI cI 10 c_t_now_to), (A_t 2, oG A_t_groups), (A_t_groups 0, eI cI 6 zc_t_groups_least)] (va_A [(h_t, oM A_t), (A_t 0, oW A_t_now c_t_now_knots c_t_now_flows c_t_now_readSet), (A_t_now 0, eI cI 10 c_t_now_from), (A_t_now 1, eI cI 10 c_t_now_to), (A_t 2, oG A_t_groups), (A_t_groups 0, eI cI 6 c_t_groups_least)] sz)) (List.toArray [.ref h_t, .int x1, .int x2]) s 0 0 (va_A [(h_t, oM A_t), (A_t 0, oW A_t_now c_t_now_knots c_t_now_flows c_t_now_readSet), (A_t_now 0, eI cI 10 c_t_now_from), (A_t_now 1, eI cI 10 c_t_now_to), (A_t 2, oG A_t_groups), (A_t_groups 0, eI cI 6 c_t_groups_least)] sz)) 59 [] [] [(h_t, oM A_t), (A_t 0, oW A_t_now d_t_now_knots d_t_now_flows d_t_now_readSet), (A_t_now 0, eI cI 10 d_t_now_from), (A_t_now 1, eI cI 10 d_t_now_to), (A_t 2, oG A_t_groups), (A_t_groups 0, eI cI 6 d_t_groups_least)]) → (∀ (w : Unit), o = .inr w → yG p l e (headSpec wsX4_shows rmX4_shows).room s m (List.toArray [.ref h_t, .int x1, .int x2]) below meth c D (va_A [(h_t, oM A_t), (A_t 0, oW A_t_now c_t_now_knots c_t_now_flows c_t_now_readSet), (A_t_now 0, eI cI 10 c_t_now_from), (A_t_now 1, eI cI 10 c_t_now_to), (A_t 2, oG A_t_groups), (A_t_groups 0, eI cI 6 c_t_groups_least)] sz) 4 0 0 (MQ below (yQi D (yT cI cJ cZ cW cR) r [(h_t, oM A_t), (A_t 0, oW A_t_now c_t_now_knots c_t_now_flows c_t_now_readSet), (A_t_now 0, eI cI 10 c_t_now_from), (A_t_now 1, eI cI 10 c_t_now_to), (A_t 2, oG A_t_groups), (A_t_groups 0, eI cI 6 zc_t_groups_least)] (va_A [(h_t, oM A_t), (A_t 0, oW A_t_now c_t_now_knots c_t_now_flows c_t_now_readSet), (A_t_now 0, eI cI 10 c_t_now_from), (A_t_now 1, eI cI 10 c_t_now_to), (A_t 2, oG A_t_groups), (A_t_groups 0, eI cI 6 c_t_groups_least)] sz)) (List.toArray [.ref h_t, .int x1, .int x2]) s 0 0 (va_A [(h_t, oM A_t), (A_t 0, oW A_t_now c_t_now_knots c_t_now_flows c_t_now_readSet), (A_t_now 0, eI cI 10 c_t_now_from), (A_t_now 1, eI cI 10 c_t_now_to), (A_t 2, oG A_t_groups), (A_t_groups 0, eI cI 6 c_t_groups_least)] sz)) 67 [] [] [(h_t, oM A_t), (A_t 0, oW A_t_now d_t_now_knots d_t_now_flows d_t_now_readSet), (A_t_now 0, eI cI 10 d_t_now_from), (A_t_now 1, eI cI 10 d_t_now_to), (A_t 2, oG A_t_groups), (A_t_groups 0, eI cI 6 d_t_groups_least)]) → yG p l e (headSpec wsX4_shows rmX4_shows).room s m (List.toArray [.ref h_t, .int x1, .int x2]) below meth c D (va_A [(h_t, oM A_t), (A_t 0, oW A_t_now c_t_now_knots c_t_now_flows c_t_now_readSet), (A_t_now 0, eI cI 10 c_t_now_from), (A_t_now 1, eI cI 10 c_t_now_to), (A_t 2, oG A_t_groups), (A_t_groups 0, eI cI 6 c_t_groups_least)] sz) 4 0 0 (MQ below (yQi D (yT cI cJ cZ cW cR) r [(h_t, oM A_t), (A_t 0, oW A_t_now c_t_now_knots c_t_now_flows c_t_now_readSet), (A_t_now 0, eI cI 10 c_t_now_from), (A_t_now 1, eI cI 10 c_t_now_to), (A_t 2, oG A_t_groups), (A_t_groups 0, eI cI 6 zc_t_groups_least)] (va_A [(h_t, oM A_t), (A_t 0, oW A_t_now c_t_now_knots c_t_now_flows c_t_now_readSet), (A_t_now 0, eI cI 10 c_t_now_from), (A_t_now 1, eI cI 10 c_t_now_to), (A_t 2, oG A_t_groups), (A_t_groups 0, eI cI 6 c_t_groups_least)] sz)) (List.toArray [.ref h_t, .int x1, .int x2]) s 0 0 (va_A [(h_t, oM A_t), (A_t 0, oW A_t_now c_t_now_knots c_t_now_flows c_t_now_readSet), (A_t_now 0, eI cI 10 c_t_now_from), (A_t_now 1, eI cI 10 c_t_now_to), (A_t 2, oG A_t_groups), (A_t_groups 0, eI cI 6 c_t_groups_least)] sz)) 25 [(0, .ref h_t), (1, .int y1), (3, .int y3)] [] [(h_t, oM A_t), (A_t 0, oW A_t_now d_t_now_knots d_t_now_flows d_t_now_readSet), (A_t_now 0, eI cI 10 d_t_now_from), (A_t_now 1, eI cI 10 d_t_now_to), (A_t 2, oG A_t_groups), (A_t_groups 0, eI cI 6 d_t_groups_least)] := by
    intro n
    induction n with
    | zero =>
      intro y1 y3 d_t_now_knots d_t_now_flows d_t_now_readSet d_t_now_from d_t_now_to d_t_groups_least o hf
      cases hf
    | succ n ih =>
      intro y1 y3 d_t_now_knots d_t_now_flows d_t_now_readSet d_t_now_from d_t_now_to d_t_groups_least o hf hk1 hk2
      unfold fX4_shows_L25 at hf
      refine g_iload_n Γ 2 dX4_shows_25 rfl ?_
      refine g_aload_n Γ 0 dX4_shows_26 rfl ?_
      refine g_get Γ fX4_shows_10 0 rfl rfl dX4_shows_27 ?_
      refine g_get Γ fX4_shows_60 1 rfl rfl dX4_shows_30 ?_
      refine g_icmp_ge Γ 67 dX4_shows_33 (by decide) (fun c6 => ?_) (fun c6 => ?_)
      · have hf := ya_if1 c6 hf
        cases hf
        refine g_lv [] rfl ?_
        exact hk2 _ rfl
      · have hf := ya_if2 c6 hf
        refine g_iload_n Γ 1 dX4_shows_36 rfl ?_
        refine g_iload_n Γ 2 dX4_shows_37 rfl ?_
        obtain ⟨v7, e8, hf⟩ := ya_ob hf
        refine g_si (wr := [(h_t, oM A_t), (A_t 0, oW A_t_now d_t_now_knots d_t_now_flows d_t_now_readSet), (A_t_now 0, eI cI 10 d_t_now_from), (A_t_now 1, eI cI 10 d_t_now_to), (A_t 2, oG A_t_groups), (A_t_groups 0, eI cI 6 d_t_groups_least)]) (ws' := [(h_t, oM A_t), (A_t 0, oW A_t_now d_t_now_knots d_t_now_flows d_t_now_readSet), (A_t_now 0, eI cI 10 d_t_now_from), (A_t_now 1, eI cI 10 d_t_now_to), (A_t 2, oG A_t_groups), (A_t_groups 0, eI cI 6 d_t_groups_least)]) Γ (fun sz => mX4_holds (l := l) (D := D) (sz := sz) (cI := cI) (cJ := cJ) (cZ := cZ) (cW := cW) (cR := cR)  (hf := e8)) eX4_holds ggX4_shows_X4_holds (by decide +kernel) (by decide +kernel) (by decide +kernel) rfl rfl (Nat.le_of_ble_eq_true rfl) ⟨Nat.le_of_ble_eq_true rfl, Nat.le_of_ble_eq_true rfl⟩ dX4_shows_38 [] [0, 1, 2, 3, 4, 5] rfl rfl rfl rfl (by decide) rfl ?_
        refine g_if_ne Γ 61 dX4_shows_41 (by decide) (fun c9 => ?_) (fun c9 => ?_)
        · have hf := ya_if2 c9 hf
          obtain ⟨v10, e11, hf⟩ := ya_lt_inv hf
          refine g_iinc (lv' := [(3, .int v10), (0, .ref h_t), (1, .int y1)]) Γ 2 dX4_shows_61 rfl (by rw [e11]; rfl) (by decide) rfl ?_
          refine g_goto Γ 25 dX4_shows_64 (by decide) ?_
          refine g_lv [1, 2, 0] rfl ?_
          exact ih _ _ _ _ _ _ _ _ _ hf hk1 hk2
        · have hf := ya_if1 c9 hf
          refine g_aload_n Γ 0 dX4_shows_44 rfl ?_
          refine g_get Γ fX4_shows_26 0 rfl rfl dX4_shows_45 ?_
          refine g_aload_n Γ 0 dX4_shows_48 rfl ?_
          refine g_get Γ fX4_shows_10 0 rfl rfl dX4_shows_49 ?_
          refine g_iload_n Γ 2 dX4_shows_52 rfl ?_
          obtain ⟨v12, e13, hf⟩ := ya_ob hf
          refine g_vi (q := (RX1, TX1, 1)) (wr := [(h_t, oM A_t)]) (ws' := [(h_t, oM A_t), (A_t 2, oG A_t_groups), (A_t_groups 0, eI cI 6 d_t_groups_least), (A_t 0, oW A_t_now d_t_now_knots d_t_now_flows d_t_now_readSet), (A_t_now 0, eI cI 10 d_t_now_from), (A_t_now 1, eI cI 10 d_t_now_to)]) Γ (fun sz => mX1_parts (l := l) (D := D) (sz := sz) (cI := cI) (cJ := cJ) (cZ := cZ) (cW := cW) (cR := cR) (h_t := A_t 2) (h_w := A_t 0) (A_t := A_t_groups) (A_w := A_t_now) (hf := e13)) eX1_parts gX4_shows_X1_parts rfl rfl 0 rfl rfl rfl (Nat.le_of_ble_eq_true rfl) ⟨Nat.le_of_ble_eq_true rfl, Nat.le_of_ble_eq_true rfl⟩ dX4_shows_53 [4, 5, 1, 2, 3] [0] rfl rfl rfl rfl (by decide) rfl ?_
          refine g_if_ne Γ 61 dX4_shows_56 (by decide) (fun c14 => ?_) (fun c14 => ?_)
          · have hf := ya_if2 c14 hf
            obtain ⟨v15, e16, hf⟩ := ya_lt_inv hf
            refine g_iinc (lv' := [(3, .int v15), (0, .ref h_t), (1, .int y1)]) Γ 2 dX4_shows_61 rfl (by rw [e16]; rfl) (by decide) rfl ?_
            refine g_goto Γ 25 dX4_shows_64 (by decide) ?_
            refine g_lv [1, 2, 0] rfl ?_
            refine g_ws (ws' := [(h_t, oM A_t), (A_t 0, oW A_t_now d_t_now_knots d_t_now_flows d_t_now_readSet), (A_t_now 0, eI cI 10 d_t_now_from), (A_t_now 1, eI cI 10 d_t_now_to), (A_t 2, oG A_t_groups), (A_t_groups 0, eI cI 6 d_t_groups_least)]) [0, 3, 4, 5, 1, 2] rfl rfl ?_
            exact ih _ _ _ _ _ _ _ _ _ hf hk1 hk2
          · have hf := ya_if1 c14 hf
            cases hf
            refine g_lv [] rfl ?_
            refine g_ws (ws' := [(h_t, oM A_t), (A_t 0, oW A_t_now d_t_now_knots d_t_now_flows d_t_now_readSet), (A_t_now 0, eI cI 10 d_t_now_from), (A_t_now 1, eI cI 10 d_t_now_to), (A_t 2, oG A_t_groups), (A_t_groups 0, eI cI 6 d_t_groups_least)]) [0, 3, 4, 5, 1, 2] rfl rfl ?_
            exact hk1 _ rfl
  show yG p l e (headSpec wsX4_shows rmX4_shows).room s m (List.toArray [.ref h_t, .int x1, .int x2]) below meth c D (va_A [(h_t, oM A_t), (A_t 0, oW A_t_now c_t_now_knots c_t_now_flows c_t_now_readSet), (A_t_now 0, eI cI 10 c_t_now_from), (A_t_now 1, eI cI 10 c_t_now_to), (A_t 2, oG A_t_groups), (A_t_groups 0, eI cI 6 c_t_groups_least)] sz) 4 0 0 (MQ below (yQi D (yT cI cJ cZ cW cR) r [(h_t, oM A_t), (A_t 0, oW A_t_now c_t_now_knots c_t_now_flows c_t_now_readSet), (A_t_now 0, eI cI 10 c_t_now_from), (A_t_now 1, eI cI 10 c_t_now_to), (A_t 2, oG A_t_groups), (A_t_groups 0, eI cI 6 zc_t_groups_least)] (va_A [(h_t, oM A_t), (A_t 0, oW A_t_now c_t_now_knots c_t_now_flows c_t_now_readSet), (A_t_now 0, eI cI 10 c_t_now_from), (A_t_now 1, eI cI 10 c_t_now_to), (A_t 2, oG A_t_groups), (A_t_groups 0, eI cI 6 c_t_groups_least)] sz)) (List.toArray [.ref h_t, .int x1, .int x2]) s 0 0 (va_A [(h_t, oM A_t), (A_t 0, oW A_t_now c_t_now_knots c_t_now_flows c_t_now_readSet), (A_t_now 0, eI cI 10 c_t_now_from), (A_t_now 1, eI cI 10 c_t_now_to), (A_t 2, oG A_t_groups), (A_t_groups 0, eI cI 6 c_t_groups_least)] sz)) 0 [(0, .ref h_t), (1, .int x1), (2, .int x2)] [] [(h_t, oM A_t), (A_t 0, oW A_t_now c_t_now_knots c_t_now_flows c_t_now_readSet), (A_t_now 0, eI cI 10 c_t_now_from), (A_t_now 1, eI cI 10 c_t_now_to), (A_t 2, oG A_t_groups), (A_t_groups 0, eI cI 6 c_t_groups_least)]
  unfold fX4_shows at hf
  refine g_aload_n Γ 0 dX4_shows_0 rfl ?_
  refine g_get Γ fX4_shows_26 0 rfl rfl dX4_shows_1 ?_
  refine g_aload_n Γ 0 dX4_shows_4 rfl ?_
  refine g_get Γ fX4_shows_10 0 rfl rfl dX4_shows_5 ?_
  refine g_iload_n Γ 1 dX4_shows_8 rfl ?_
  obtain ⟨⟨v1, v2⟩, e3, hf⟩ := ya_ob hf
  refine g_vi (q := (RX1, TX1, 1)) (wr := [(h_t, oM A_t)]) (ws' := [(h_t, oM A_t), (A_t 2, oG A_t_groups), (A_t_groups 0, eI cI 6 v2), (A_t 0, oW A_t_now c_t_now_knots c_t_now_flows c_t_now_readSet), (A_t_now 0, eI cI 10 c_t_now_from), (A_t_now 1, eI cI 10 c_t_now_to)]) Γ (fun sz => mX1_gather (l := l) (D := D) (sz := sz) (cI := cI) (cJ := cJ) (cZ := cZ) (cW := cW) (cR := cR) (h_t := A_t 2) (h_w := A_t 0) (A_t := A_t_groups) (A_w := A_t_now) (hf := e3)) eX1_gather gX4_shows_X1_gather rfl rfl 0 rfl rfl rfl (Nat.le_of_ble_eq_true rfl) ⟨Nat.le_of_ble_eq_true rfl, Nat.le_of_ble_eq_true rfl⟩ dX4_shows_9 [4, 5, 1, 2, 3] [0] rfl rfl rfl rfl (by decide) rfl ?_
  refine g_if_ne Γ 17 dX4_shows_12 (by decide) (fun c4 => ?_) (fun c4 => ?_)
  · have hf := ya_if2 c4 hf
    refine g_iload_n Γ 2 dX4_shows_17 rfl ?_
    refine g_if_ne Γ 23 dX4_shows_18 (by decide) (fun c5 => ?_) (fun c5 => ?_)
    · have hf := ya_if2 c5 hf
      refine g_iconst (v := 0) Γ dX4_shows_23 (by decide) ?_
      refine g_istore_n (lv' := [(3, .int 0), (0, .ref h_t), (1, .int x1), (2, .int x2)]) Γ dX4_shows_24 (by decide) rfl ?_
      obtain ⟨o17, e18, hf⟩ := ya_ob hf
      refine g_lv [1, 2, 0] rfl ?_
      refine g_ws (ws' := [(h_t, oM A_t), (A_t 0, oW A_t_now c_t_now_knots c_t_now_flows c_t_now_readSet), (A_t_now 0, eI cI 10 c_t_now_from), (A_t_now 1, eI cI 10 c_t_now_to), (A_t 2, oG A_t_groups), (A_t_groups 0, eI cI 6 v2)]) [0, 3, 4, 5, 1, 2] rfl rfl ?_
      refine loop25 N _ _ _ _ _ _ _ _ o17 e18 ?_ ?_
      · intro _ ho; subst ho
        refine g_iconst (v := 0) Γ dX4_shows_59 (by decide) ?_
        cases hf
        exact g_zret Γ hr (show ya_bo 0 = some 0 from rfl) dX4_shows_60 [0, 1, 2, 3, 4, 5] rfl rfl
      · intro _ ho; subst ho
        refine g_iconst (v := 1) Γ dX4_shows_67 (by decide) ?_
        cases hf
        exact g_zret Γ hr (show ya_bo 1 = some 1 from rfl) dX4_shows_68 [0, 1, 2, 3, 4, 5] rfl rfl
    · have hf := ya_if1 c5 hf
      refine g_iconst (v := 1) Γ dX4_shows_21 (by decide) ?_
      cases hf
      exact g_zret Γ hr (show ya_bo 1 = some 1 from rfl) dX4_shows_22 [0, 3, 4, 5, 1, 2] rfl rfl
  · have hf := ya_if1 c4 hf
    refine g_iconst (v := 0) Γ dX4_shows_15 (by decide) ?_
    cases hf
    exact g_zret Γ hr (show ya_bo 0 = some 0 from rfl) dX4_shows_16 [0, 3, 4, 5, 1, 2] rfl rfl

set_option maxRecDepth 20000 in
theorem ggX4_least_X3_unreadSet : GoodIn wsX4_least wsX3_unreadSet := goodIn_r _ [6, 7, 8, 9, 10, 5, 11, 12, 13, 14, 15, 62, 63, 64, 65, 66, 67, 68, 69, 70, 71, 72] rfl (by decide +kernel)
set_option maxRecDepth 20000 in
theorem gX4_least_X3_unreadSet : GoodIn wsX4_least (wsV RX4 120 RX3 yX3_unreadSet wsX3_unreadSet) := goodIn_app (goodIn_of _ (by decide +kernel)) ggX4_least_X3_unreadSet
set_option maxRecDepth 20000 in
theorem ggX4_least_X3_priceOfSet : GoodIn wsX4_least wsX3_priceOfSet := goodIn_r _ [19, 12, 20, 21, 14, 22, 62, 63, 64, 65, 66, 67, 68, 69, 70, 71, 72] rfl (by decide +kernel)
set_option maxRecDepth 20000 in
theorem gX4_least_X3_priceOfSet : GoodIn wsX4_least (wsV RX4 206 RX3 yX3_priceOfSet wsX3_priceOfSet) := goodIn_app (goodIn_of _ (by decide +kernel)) ggX4_least_X3_priceOfSet
set_option maxRecDepth 20000 in
theorem ggX4_least_X4_shows : GoodIn wsX4_least wsX4_shows := goodIn_r _ [26, 27, 1, 28, 29, 30, 31, 32, 33, 34, 35, 36, 37, 21, 14, 22, 38, 39, 40, 41, 42, 43, 44, 45, 46, 47, 48, 49, 50, 51, 52, 53, 54, 55, 56, 57, 58, 59, 60, 61, 62, 63, 64, 65, 66, 67, 68, 69, 70, 71, 72, 73] rfl (by decide +kernel)
set_option maxRecDepth 20000 in
theorem gX4_least_X4_shows : GoodIn wsX4_least (wsV RX4 209 RX4 yX4_shows wsX4_shows) := goodIn_app (goodIn_of _ (by decide +kernel)) ggX4_least_X4_shows
theorem dX4_least_0 : decode cX4_least 0 = .ok (.iload_n 2, 1) := by decide +kernel
theorem dX4_least_1 : decode cX4_least 1 = .ok (.ifCond .eq 10, 3) := by decide +kernel
theorem dX4_least_4 : decode cX4_least 4 = .ok (.iload_n 2, 1) := by decide +kernel
theorem dX4_least_5 : decode cX4_least 5 = .ok (.iconst 1, 1) := by decide +kernel
theorem dX4_least_6 : decode cX4_least 6 = .ok (.if_icmp .eq 5, 3) := by decide +kernel
theorem dX4_least_9 : decode cX4_least 9 = .ok (.iconst (-1), 1) := by decide +kernel
theorem dX4_least_10 : decode cX4_least 10 = .ok (.ireturn, 1) := by decide +kernel
theorem dX4_least_11 : decode cX4_least 11 = .ok (.aload_n 0, 1) := by decide +kernel
theorem dX4_least_12 : decode cX4_least 12 = .ok (.getfield 10, 3) := by decide +kernel
theorem dX4_least_15 : decode cX4_least 15 = .ok (.invokevirtual 120, 3) := by decide +kernel
theorem dX4_least_18 : decode cX4_least 18 = .ok (.istore_n 3, 1) := by decide +kernel
theorem dX4_least_19 : decode cX4_least 19 = .ok (.iconst (-1), 1) := by decide +kernel
theorem dX4_least_20 : decode cX4_least 20 = .ok (.istore 4, 2) := by decide +kernel
theorem dX4_least_22 : decode cX4_least 22 = .ok (.iconst 0, 1) := by decide +kernel
theorem dX4_least_23 : decode cX4_least 23 = .ok (.istore 5, 2) := by decide +kernel
theorem dX4_least_25 : decode cX4_least 25 = .ok (.iconst 0, 1) := by decide +kernel
theorem dX4_least_26 : decode cX4_least 26 = .ok (.istore 6, 2) := by decide +kernel
theorem dX4_least_28 : decode cX4_least 28 = .ok (.iload 6, 2) := by decide +kernel
theorem dX4_least_30 : decode cX4_least 30 = .ok (.iload_n 3, 1) := by decide +kernel
theorem dX4_least_31 : decode cX4_least 31 = .ok (.if_icmp .gt 67, 3) := by decide +kernel
theorem dX4_least_34 : decode cX4_least 34 = .ok (.iload 6, 2) := by decide +kernel
theorem dX4_least_36 : decode cX4_least 36 = .ok (.iload_n 3, 1) := by decide +kernel
theorem dX4_least_37 : decode cX4_least 37 = .ok (.iconst (-1), 1) := by decide +kernel
theorem dX4_least_38 : decode cX4_least 38 = .ok (.ixor, 1) := by decide +kernel
theorem dX4_least_39 : decode cX4_least 39 = .ok (.iand, 1) := by decide +kernel
theorem dX4_least_40 : decode cX4_least 40 = .ok (.ifCond .eq 6, 3) := by decide +kernel
theorem dX4_least_43 : decode cX4_least 43 = .ok (.goto 49, 3) := by decide +kernel
theorem dX4_least_46 : decode cX4_least 46 = .ok (.aload_n 0, 1) := by decide +kernel
theorem dX4_least_47 : decode cX4_least 47 = .ok (.getfield 10, 3) := by decide +kernel
theorem dX4_least_50 : decode cX4_least 50 = .ok (.iload 6, 2) := by decide +kernel
theorem dX4_least_52 : decode cX4_least 52 = .ok (.invokevirtual 206, 3) := by decide +kernel
theorem dX4_least_55 : decode cX4_least 55 = .ok (.istore 7, 2) := by decide +kernel
theorem dX4_least_57 : decode cX4_least 57 = .ok (.iload 4, 2) := by decide +kernel
theorem dX4_least_59 : decode cX4_least 59 = .ok (.iconst (-1), 1) := by decide +kernel
theorem dX4_least_60 : decode cX4_least 60 = .ok (.if_icmp .eq 10, 3) := by decide +kernel
theorem dX4_least_63 : decode cX4_least 63 = .ok (.iload 7, 2) := by decide +kernel
theorem dX4_least_65 : decode cX4_least 65 = .ok (.iload 5, 2) := by decide +kernel
theorem dX4_least_67 : decode cX4_least 67 = .ok (.if_icmp .ge 25, 3) := by decide +kernel
theorem dX4_least_70 : decode cX4_least 70 = .ok (.aload_n 0, 1) := by decide +kernel
theorem dX4_least_71 : decode cX4_least 71 = .ok (.iload_n 3, 1) := by decide +kernel
theorem dX4_least_72 : decode cX4_least 72 = .ok (.iload 6, 2) := by decide +kernel
theorem dX4_least_74 : decode cX4_least 74 = .ok (.iconst (-1), 1) := by decide +kernel
theorem dX4_least_75 : decode cX4_least 75 = .ok (.ixor, 1) := by decide +kernel
theorem dX4_least_76 : decode cX4_least 76 = .ok (.iand, 1) := by decide +kernel
theorem dX4_least_77 : decode cX4_least 77 = .ok (.iload_n 1, 1) := by decide +kernel
theorem dX4_least_78 : decode cX4_least 78 = .ok (.invokevirtual 209, 3) := by decide +kernel
theorem dX4_least_81 : decode cX4_least 81 = .ok (.ifCond .eq 11, 3) := by decide +kernel
theorem dX4_least_84 : decode cX4_least 84 = .ok (.iload 6, 2) := by decide +kernel
theorem dX4_least_86 : decode cX4_least 86 = .ok (.istore 4, 2) := by decide +kernel
theorem dX4_least_88 : decode cX4_least 88 = .ok (.iload 7, 2) := by decide +kernel
theorem dX4_least_90 : decode cX4_least 90 = .ok (.istore 5, 2) := by decide +kernel
theorem dX4_least_92 : decode cX4_least 92 = .ok (.iinc 6 1, 3) := by decide +kernel
theorem dX4_least_95 : decode cX4_least 95 = .ok (.goto (-67), 3) := by decide +kernel
theorem dX4_least_98 : decode cX4_least 98 = .ok (.iload 4, 2) := by decide +kernel
theorem dX4_least_100 : decode cX4_least 100 = .ok (.iconst (-1), 1) := by decide +kernel
theorem dX4_least_101 : decode cX4_least 101 = .ok (.if_icmp .ne 5, 3) := by decide +kernel
theorem dX4_least_104 : decode cX4_least 104 = .ok (.iconst (-1), 1) := by decide +kernel
theorem dX4_least_105 : decode cX4_least 105 = .ok (.ireturn, 1) := by decide +kernel
theorem dX4_least_106 : decode cX4_least 106 = .ok (.iload_n 2, 1) := by decide +kernel
theorem dX4_least_107 : decode cX4_least 107 = .ok (.ifCond .ne 8, 3) := by decide +kernel
theorem dX4_least_110 : decode cX4_least 110 = .ok (.iload 5, 2) := by decide +kernel
theorem dX4_least_112 : decode cX4_least 112 = .ok (.goto 5, 3) := by decide +kernel
theorem dX4_least_115 : decode cX4_least 115 = .ok (.iload 4, 2) := by decide +kernel
theorem dX4_least_117 : decode cX4_least 117 = .ok (.ireturn, 1) := by decide +kernel
/-! ===== FlowMeters.least(ZI)I ===== -/
def fX4_least_L28 (N : Nat) (n : Nat) (y1 : Int32) (y2 : Int32) (y3 : Int32) (y4 : Int32) (y5 : Int32) (y6 : Int32) (d_t_now_flows : Int32) (d_t_now_from : Nat → Int32) (d_t_now_to : Nat → Int32) (d_t_now_price : Nat → Int32) (d_t_groups_least : Nat → Int32) : Option (Int32 × Int32 × (Nat → Int32)) := match n with
  | 0 => none
  | n + 1 =>
    (if y3 < y6 then
        some (y4, y5, d_t_groups_least)
      else
        (if (y6 &&& (y3 ^^^ (-1))) = 0 then
          (fX3_priceOfSet N d_t_now_flows d_t_now_price y6).bind fun v6 =>
          (if y4 = (-1) then
            (fX4_shows N d_t_now_flows d_t_now_from d_t_now_to d_t_groups_least (y3 &&& (y6 ^^^ (-1))) y1).bind fun (v9, v10) =>
            (if v9 = 0 then
              ya_lt (y6 + 1) fun v13 =>
              fX4_least_L28 N n y1 y2 y3 y4 y5 v13 d_t_now_flows d_t_now_from d_t_now_to d_t_now_price v10
            else
              ya_lt (y6 + 1) fun v15 =>
              fX4_least_L28 N n y1 y2 y3 y6 v6 v15 d_t_now_flows d_t_now_from d_t_now_to d_t_now_price v10)
          else
            (if y5 ≤ v6 then
              ya_lt (y6 + 1) fun v18 =>
              fX4_least_L28 N n y1 y2 y3 y4 y5 v18 d_t_now_flows d_t_now_from d_t_now_to d_t_now_price d_t_groups_least
            else
              (fX4_shows N d_t_now_flows d_t_now_from d_t_now_to d_t_groups_least (y3 &&& (y6 ^^^ (-1))) y1).bind fun (v20, v21) =>
              (if v20 = 0 then
                ya_lt (y6 + 1) fun v24 =>
                fX4_least_L28 N n y1 y2 y3 y4 y5 v24 d_t_now_flows d_t_now_from d_t_now_to d_t_now_price v21
              else
                ya_lt (y6 + 1) fun v26 =>
                fX4_least_L28 N n y1 y2 y3 y6 v6 v26 d_t_now_flows d_t_now_from d_t_now_to d_t_now_price v21)))
        else
          ya_lt (y6 + 1) fun v28 =>
          fX4_least_L28 N n y1 y2 y3 y4 y5 v28 d_t_now_flows d_t_now_from d_t_now_to d_t_now_price d_t_groups_least))
def fX4_least (N : Nat) (c_t_now_flows : Int32) (c_t_now_readSet : Int32) (c_t_now_from : Nat → Int32) (c_t_now_to : Nat → Int32) (c_t_now_price : Nat → Int32) (c_t_groups_least : Nat → Int32) (x1 : Int32) (x2 : Int32) : Option (Int32 × (Nat → Int32)) :=
  (if x2 = 0 then
    (fX3_unreadSet c_t_now_flows c_t_now_readSet).bind fun v2 =>
    (fX4_least_L28 N N x1 x2 v2 (-1) 0 0 c_t_now_flows c_t_now_from c_t_now_to c_t_now_price c_t_groups_least).bind fun (v30, v31, v32) =>
    (if v30 = (-1) then
      some ((-1), v32)
    else
      (if x2 = 0 then
        some (v31, v32)
      else
        some (v30, v32)))
  else
    (if x2 = 1 then
      (fX3_unreadSet c_t_now_flows c_t_now_readSet).bind fun v37 =>
      (fX4_least_L28 N N x1 x2 v37 (-1) 0 0 c_t_now_flows c_t_now_from c_t_now_to c_t_now_price c_t_groups_least).bind fun (v39, v40, v41) =>
      (if v39 = (-1) then
        some ((-1), v41)
      else
        (if x2 = 0 then
          some (v40, v41)
        else
          some (v39, v41)))
    else
      some ((-1), c_t_groups_least)))
theorem fX4_least_10 : yF wsX4_least RX4 10 4 0 RX4 TX4 7 := ⟨rfl, by decide, by decide +kernel, by decide +kernel⟩
abbrev rmX4_least : Room := { frames := 4, cells := 0, slots := 0, locals := 120 }
theorem eX4_least : yY yX4_least wsX4_least cX4_least 8 (some .int) rmX4_least 2 := ⟨⟨_, rfl⟩, rfl, rfl, by decide, by decide, by decide +kernel⟩
set_option maxHeartbeats 4000000 in
set_option maxRecDepth 100000 in
theorem mX4_least {l : Launch} {D : va_G} {sz : Nat} {cI cJ cZ cW cR : ClassId} {N : Nat} {h_t : Nat} {A_t : Nat → Nat} {A_t_now : Nat → Nat} {A_t_groups : Nat → Nat} {c_t_now_knots : Int32} {c_t_now_flows : Int32} {c_t_now_readSet : Int32} {c_t_now_from : Nat → Int32} {c_t_now_to : Nat → Int32} {c_t_now_price : Nat → Int32} {c_t_groups_least : Nat → Int32} {x1 : Int32} {x2 : Int32} {r : Int32} {zc_t_groups_least : Nat → Int32} (hf : fX4_least N c_t_now_flows c_t_now_readSet c_t_now_from c_t_now_to c_t_now_price c_t_groups_least x1 x2 = some (r, zc_t_groups_least)) : Met l yX4_least wsX4_least rmX4_least (yP D (yT cI cJ cZ cW cR) [(h_t, oM A_t), (A_t 0, oW A_t_now c_t_now_knots c_t_now_flows c_t_now_readSet), (A_t_now 0, eI cI 10 c_t_now_from), (A_t_now 1, eI cI 10 c_t_now_to), (A_t_now 4, eI cI 10 c_t_now_price), (A_t 2, oG A_t_groups), (A_t_groups 0, eI cI 6 c_t_groups_least)] sz [.ref h_t, .int x1, .int x2]) (yQi D (yT cI cJ cZ cW cR) r [(h_t, oM A_t), (A_t 0, oW A_t_now c_t_now_knots c_t_now_flows c_t_now_readSet), (A_t_now 0, eI cI 10 c_t_now_from), (A_t_now 1, eI cI 10 c_t_now_to), (A_t_now 4, eI cI 10 c_t_now_price), (A_t 2, oG A_t_groups), (A_t_groups 0, eI cI 6 zc_t_groups_least)] (va_A [(h_t, oM A_t), (A_t 0, oW A_t_now c_t_now_knots c_t_now_flows c_t_now_readSet), (A_t_now 0, eI cI 10 c_t_now_from), (A_t_now 1, eI cI 10 c_t_now_to), (A_t_now 4, eI cI 10 c_t_now_price), (A_t 2, oG A_t_groups), (A_t_groups 0, eI cI 6 c_t_groups_least)] sz)) 0 0 (va_A [(h_t, oM A_t), (A_t 0, oW A_t_now c_t_now_knots c_t_now_flows c_t_now_readSet), (A_t_now 0, eI cI 10 c_t_now_from), (A_t_now 1, eI cI 10 c_t_now_to), (A_t_now 4, eI cI 10 c_t_now_price), (A_t 2, oG A_t_groups), (A_t_groups 0, eI cI 6 c_t_groups_least)] sz) := by
  refine yM (cc := cX4_least) (maxL := 8) (ret := (some .int)) RX4 (by decide) rfl rfl (Nat.le_of_ble_eq_true rfl) ?_
  intro p e s m below meth c Γ hr
  have loop28 : ∀ (n : Nat) (y1 : Int32) (y2 : Int32) (y3 : Int32) (y4 : Int32) (y5 : Int32) (y6 : Int32) (d_t_now_knots : Int32) (d_t_now_flows : Int32) (d_t_now_readSet : Int32) (d_t_now_from : Nat → Int32) (d_t_now_to : Nat → Int32) (d_t_now_price : Nat → Int32) (d_t_groups_least : Nat → Int32) (w0 : Int32) (w1 : Int32) (w2 : Nat → Int32), fX4_least_L28 N n y1 y2 y3 y4 y5 y6 d_t_now_flows d_t_now_from d_t_now_to d_t_now_price d_t_groups_least = some (w0, w1, w2) → yG p l e (headSpec wsX4_least rmX4_least).room s m (List.toArray [.ref h_t, .int x1, .int x2]) below meth c D (va_A [(h_t, oM A_t), (A_t 0, oW A_t_now c_t_now_knots c_t_now_flows c_t_now_readSet), (A_t_now 0, eI cI 10 c_t_now_from), (A_t_now 1, eI cI 10 c_t_now_to), (A_t_now 4, eI cI 10 c_t_now_price), (A_t 2, oG A_t_groups), (A_t_groups 0, eI cI 6 c_t_groups_least)] sz) 8 0 0 (MQ below (yQi D (yT cI cJ cZ cW cR) r [(h_t, oM A_t), (A_t 0, oW A_t_now c_t_now_knots c_t_now_flows c_t_now_readSet), (A_t_now 0, eI cI 10 c_t_now_from), (A_t_now 1, eI cI 10 c_t_now_to), (A_t_now 4, eI cI 10 c_t_now_price), (A_t 2, oG A_t_groups), (A_t_groups 0, eI cI 6 zc_t_groups_least)] (va_A [(h_t, oM A_t), (A_t 0, oW A_t_now c_t_now_knots c_t_now_flows c_t_now_readSet), (A_t_now 0, eI cI 10 c_t_now_from), (A_t_now 1, eI cI 10 c_t_now_to), (A_t_now 4, eI cI 10 c_t_now_price), (A_t 2, oG A_t_groups), (A_t_groups 0, eI cI 6 c_t_groups_least)] sz)) (List.toArray [.ref h_t, .int x1, .int x2]) s 0 0 (va_A [(h_t, oM A_t), (A_t 0, oW A_t_now c_t_now_knots c_t_now_flows c_t_now_readSet), (A_t_now 0, eI cI 10 c_t_now_from), (A_t_now 1, eI cI 10 c_t_now_to), (A_t_now 4, eI cI 10 c_t_now_price), (A_t 2, oG A_t_groups), (A_t_groups 0, eI cI 6 c_t_groups_least)] sz)) 98 [(2, .int y2), (4, .int w0), (5, .int w1)] [] [(h_t, oM A_t), (A_t 0, oW A_t_now d_t_now_knots d_t_now_flows d_t_now_readSet), (A_t_now 0, eI cI 10 d_t_now_from), (A_t_now 1, eI cI 10 d_t_now_to), (A_t_now 4, eI cI 10 d_t_now_price), (A_t 2, oG A_t_groups), (A_t_groups 0, eI cI 6 w2)] → yG p l e (headSpec wsX4_least rmX4_least).room s m (List.toArray [.ref h_t, .int x1, .int x2]) below meth c D (va_A [(h_t, oM A_t), (A_t 0, oW A_t_now c_t_now_knots c_t_now_flows c_t_now_readSet), (A_t_now 0, eI cI 10 c_t_now_from), (A_t_now 1, eI cI 10 c_t_now_to), (A_t_now 4, eI cI 10 c_t_now_price), (A_t 2, oG A_t_groups), (A_t_groups 0, eI cI 6 c_t_groups_least)] sz) 8 0 0 (MQ below (yQi D (yT cI cJ cZ cW cR) r [(h_t, oM A_t), (A_t 0, oW A_t_now c_t_now_knots c_t_now_flows c_t_now_readSet), (A_t_now 0, eI cI 10 c_t_now_from), (A_t_now 1, eI cI 10 c_t_now_to), (A_t_now 4, eI cI 10 c_t_now_price), (A_t 2, oG A_t_groups), (A_t_groups 0, eI cI 6 zc_t_groups_least)] (va_A [(h_t, oM A_t), (A_t 0, oW A_t_now c_t_now_knots c_t_now_flows c_t_now_readSet), (A_t_now 0, eI cI 10 c_t_now_from), (A_t_now 1, eI cI 10 c_t_now_to), (A_t_now 4, eI cI 10 c_t_now_price), (A_t 2, oG A_t_groups), (A_t_groups 0, eI cI 6 c_t_groups_least)] sz)) (List.toArray [.ref h_t, .int x1, .int x2]) s 0 0 (va_A [(h_t, oM A_t), (A_t 0, oW A_t_now c_t_now_knots c_t_now_flows c_t_now_readSet), (A_t_now 0, eI cI 10 c_t_now_from), (A_t_now 1, eI cI 10 c_t_now_to), (A_t_now 4, eI cI 10 c_t_now_price), (A_t 2, oG A_t_groups), (A_t_groups 0, eI cI 6 c_t_groups_least)] sz)) 28 [(0, .ref h_t), (1, .int y1), (2, .int y2), (3, .int y3), (4, .int y4), (5, .int y5), (6, .int y6)] [] [(h_t, oM A_t), (A_t 0, oW A_t_now d_t_now_knots d_t_now_flows d_t_now_readSet), (A_t_now 0, eI cI 10 d_t_now_from), (A_t_now 1, eI cI 10 d_t_now_to), (A_t_now 4, eI cI 10 d_t_now_price), (A_t 2, oG A_t_groups), (A_t_groups 0, eI cI 6 d_t_groups_least)] := by
    intro n
    induction n with
    | zero =>
      intro y1 y2 y3 y4 y5 y6 d_t_now_knots d_t_now_flows d_t_now_readSet d_t_now_from d_t_now_to d_t_now_price d_t_groups_least w0 w1 w2 hf
      cases hf
    | succ n ih =>
      intro y1 y2 y3 y4 y5 y6 d_t_now_knots d_t_now_flows d_t_now_readSet d_t_now_from d_t_now_to d_t_now_price d_t_groups_least w0 w1 w2 hf hk
      unfold fX4_least_L28 at hf
      refine g_iload Γ 6 dX4_least_28 rfl ?_
      refine g_iload_n Γ 3 dX4_least_30 rfl ?_
      refine g_icmp_gt Γ 98 dX4_least_31 (by decide) (fun c4 => ?_) (fun c4 => ?_)
      · have hf := ya_if1 c4 hf
        cases hf
        refine g_lv [2, 4, 5] rfl ?_
        exact hk
      · have hf := ya_if2 c4 hf
        refine g_iload Γ 6 dX4_least_34 rfl ?_
        refine g_iload_n Γ 3 dX4_least_36 rfl ?_
        refine g_iconst (v := (-1)) Γ dX4_least_37 (by decide) ?_
        refine g_ixor Γ dX4_least_38 ?_
        refine g_iand Γ dX4_least_39 ?_
        refine g_if_eq Γ 46 dX4_least_40 (by decide) (fun c5 => ?_) (fun c5 => ?_)
        · have hf := ya_if1 c5 hf
          refine g_aload_n Γ 0 dX4_least_46 rfl ?_
          refine g_get Γ fX4_least_10 0 rfl rfl dX4_least_47 ?_
          refine g_iload Γ 6 dX4_least_50 rfl ?_
          obtain ⟨v6, e7, hf⟩ := ya_ob hf
          refine g_vi (q := (RX3, TX3, 11)) (wr := [(h_t, oM A_t), (A_t_now 0, eI cI 10 d_t_now_from), (A_t_now 1, eI cI 10 d_t_now_to), (A_t 2, oG A_t_groups), (A_t_groups 0, eI cI 6 d_t_groups_least)]) (ws' := [(h_t, oM A_t), (A_t_now 0, eI cI 10 d_t_now_from), (A_t_now 1, eI cI 10 d_t_now_to), (A_t 2, oG A_t_groups), (A_t_groups 0, eI cI 6 d_t_groups_least), (A_t 0, oW A_t_now d_t_now_knots d_t_now_flows d_t_now_readSet), (A_t_now 4, eI cI 10 d_t_now_price)]) Γ (fun sz => mX3_priceOfSet (l := l) (D := D) (sz := sz) (cI := cI) (cJ := cJ) (cZ := cZ) (cW := cW) (cR := cR) (h_t := A_t 0) (A_t := A_t_now) (hf := e7)) eX3_priceOfSet gX4_least_X3_priceOfSet rfl rfl 0 rfl rfl rfl (Nat.le_of_ble_eq_true rfl) ⟨Nat.le_of_ble_eq_true rfl, Nat.le_of_ble_eq_true rfl⟩ dX4_least_52 [1, 4] [0, 2, 3, 5, 6] rfl rfl rfl rfl (by decide) rfl ?_
          refine g_istore (lv' := [(7, .int v6), (0, .ref h_t), (1, .int y1), (2, .int y2), (3, .int y3), (4, .int y4), (5, .int y5), (6, .int y6)]) Γ dX4_least_55 (by decide) rfl ?_
          refine g_iload Γ 5 dX4_least_57 rfl ?_
          refine g_iconst (v := (-1)) Γ dX4_least_59 (by decide) ?_
          refine g_icmp_eq Γ 70 dX4_least_60 (by decide) (fun c8 => ?_) (fun c8 => ?_)
          · have hf := ya_if1 c8 hf
            refine g_aload_n Γ 1 dX4_least_70 rfl ?_
            refine g_iload_n Γ 4 dX4_least_71 rfl ?_
            refine g_iload Γ 7 dX4_least_72 rfl ?_
            refine g_iconst (v := (-1)) Γ dX4_least_74 (by decide) ?_
            refine g_ixor Γ dX4_least_75 ?_
            refine g_iand Γ dX4_least_76 ?_
            refine g_iload_n Γ 2 dX4_least_77 rfl ?_
            obtain ⟨⟨v9, v10⟩, e11, hf⟩ := ya_ob hf
            refine g_vi (q := (RX4, TX4, 7)) (wr := [(A_t_now 4, eI cI 10 d_t_now_price)]) (ws' := [(A_t_now 4, eI cI 10 d_t_now_price), (h_t, oM A_t), (A_t 0, oW A_t_now d_t_now_knots d_t_now_flows d_t_now_readSet), (A_t_now 0, eI cI 10 d_t_now_from), (A_t_now 1, eI cI 10 d_t_now_to), (A_t 2, oG A_t_groups), (A_t_groups 0, eI cI 6 v10)]) Γ (fun sz => mX4_shows (l := l) (D := D) (sz := sz) (cI := cI) (cJ := cJ) (cZ := cZ) (cW := cW) (cR := cR) (h_t := h_t) (A_t := A_t) (A_t_now := A_t_now) (A_t_groups := A_t_groups) (hf := e11)) eX4_shows gX4_least_X4_shows rfl rfl 0 rfl rfl rfl (Nat.le_of_ble_eq_true rfl) ⟨Nat.le_of_ble_eq_true rfl, Nat.le_of_ble_eq_true rfl⟩ dX4_least_78 [0, 5, 1, 2, 3, 4] [6] rfl rfl rfl rfl (by decide) rfl ?_
            refine g_if_eq Γ 92 dX4_least_81 (by decide) (fun c12 => ?_) (fun c12 => ?_)
            · have hf := ya_if1 c12 hf
              obtain ⟨v13, e14, hf⟩ := ya_lt_inv hf
              refine g_iinc (lv' := [(6, .int v13), (7, .int v6), (0, .ref h_t), (1, .int y1), (2, .int y2), (3, .int y3), (4, .int y4), (5, .int y5)]) Γ 7 dX4_least_92 rfl (by rw [e14]; rfl) (by decide) rfl ?_
              refine g_goto Γ 28 dX4_least_95 (by decide) ?_
              refine g_lv [2, 3, 4, 5, 6, 7, 0] rfl ?_
              refine g_ws (ws' := [(h_t, oM A_t), (A_t 0, oW A_t_now d_t_now_knots d_t_now_flows d_t_now_readSet), (A_t_now 0, eI cI 10 d_t_now_from), (A_t_now 1, eI cI 10 d_t_now_to), (A_t_now 4, eI cI 10 d_t_now_price), (A_t 2, oG A_t_groups), (A_t_groups 0, eI cI 6 v10)]) [1, 2, 3, 4, 0, 5, 6] rfl rfl ?_
              exact ih _ _ _ _ _ _ _ _ _ _ _ _ _ _ _ _ hf hk
            · have hf := ya_if2 c12 hf
              refine g_iload Γ 7 dX4_least_84 rfl ?_
              refine g_istore (lv' := [(4, .int y6), (7, .int v6), (0, .ref h_t), (1, .int y1), (2, .int y2), (3, .int y3), (5, .int y5), (6, .int y6)]) Γ dX4_least_86 (by decide) rfl ?_
              refine g_iload Γ 1 dX4_least_88 rfl ?_
              refine g_istore (lv' := [(5, .int v6), (4, .int y6), (7, .int v6), (0, .ref h_t), (1, .int y1), (2, .int y2), (3, .int y3), (6, .int y6)]) Γ dX4_least_90 (by decide) rfl ?_
              obtain ⟨v15, e16, hf⟩ := ya_lt_inv hf
              refine g_iinc (lv' := [(6, .int v15), (5, .int v6), (4, .int y6), (7, .int v6), (0, .ref h_t), (1, .int y1), (2, .int y2), (3, .int y3)]) Γ 7 dX4_least_92 rfl (by rw [e16]; rfl) (by decide) rfl ?_
              refine g_goto Γ 28 dX4_least_95 (by decide) ?_
              refine g_lv [4, 5, 6, 7, 2, 1, 0] rfl ?_
              refine g_ws (ws' := [(h_t, oM A_t), (A_t 0, oW A_t_now d_t_now_knots d_t_now_flows d_t_now_readSet), (A_t_now 0, eI cI 10 d_t_now_from), (A_t_now 1, eI cI 10 d_t_now_to), (A_t_now 4, eI cI 10 d_t_now_price), (A_t 2, oG A_t_groups), (A_t_groups 0, eI cI 6 v10)]) [1, 2, 3, 4, 0, 5, 6] rfl rfl ?_
              exact ih _ _ _ _ _ _ _ _ _ _ _ _ _ _ _ _ hf hk
          · have hf := ya_if2 c8 hf
            refine g_iload Γ 0 dX4_least_63 rfl ?_
            refine g_iload Γ 6 dX4_least_65 rfl ?_
            refine g_icmp_ge Γ 92 dX4_least_67 (by decide) (fun c17 => ?_) (fun c17 => ?_)
            · have hf := ya_if1 c17 hf
              obtain ⟨v18, e19, hf⟩ := ya_lt_inv hf
              refine g_iinc (lv' := [(6, .int v18), (7, .int v6), (0, .ref h_t), (1, .int y1), (2, .int y2), (3, .int y3), (4, .int y4), (5, .int y5)]) Γ 7 dX4_least_92 rfl (by rw [e19]; rfl) (by decide) rfl ?_
              refine g_goto Γ 28 dX4_least_95 (by decide) ?_
              refine g_lv [2, 3, 4, 5, 6, 7, 0] rfl ?_
              refine g_ws (ws' := [(h_t, oM A_t), (A_t 0, oW A_t_now d_t_now_knots d_t_now_flows d_t_now_readSet), (A_t_now 0, eI cI 10 d_t_now_from), (A_t_now 1, eI cI 10 d_t_now_to), (A_t_now 4, eI cI 10 d_t_now_price), (A_t 2, oG A_t_groups), (A_t_groups 0, eI cI 6 d_t_groups_least)]) [0, 5, 1, 2, 6, 3, 4] rfl rfl ?_
              exact ih _ _ _ _ _ _ _ _ _ _ _ _ _ _ _ _ hf hk
            · have hf := ya_if2 c17 hf
              refine g_aload_n Γ 1 dX4_least_70 rfl ?_
              refine g_iload_n Γ 4 dX4_least_71 rfl ?_
              refine g_iload Γ 7 dX4_least_72 rfl ?_
              refine g_iconst (v := (-1)) Γ dX4_least_74 (by decide) ?_
              refine g_ixor Γ dX4_least_75 ?_
              refine g_iand Γ dX4_least_76 ?_
              refine g_iload_n Γ 2 dX4_least_77 rfl ?_
              obtain ⟨⟨v20, v21⟩, e22, hf⟩ := ya_ob hf
              refine g_vi (q := (RX4, TX4, 7)) (wr := [(A_t_now 4, eI cI 10 d_t_now_price)]) (ws' := [(A_t_now 4, eI cI 10 d_t_now_price), (h_t, oM A_t), (A_t 0, oW A_t_now d_t_now_knots d_t_now_flows d_t_now_readSet), (A_t_now 0, eI cI 10 d_t_now_from), (A_t_now 1, eI cI 10 d_t_now_to), (A_t 2, oG A_t_groups), (A_t_groups 0, eI cI 6 v21)]) Γ (fun sz => mX4_shows (l := l) (D := D) (sz := sz) (cI := cI) (cJ := cJ) (cZ := cZ) (cW := cW) (cR := cR) (h_t := h_t) (A_t := A_t) (A_t_now := A_t_now) (A_t_groups := A_t_groups) (hf := e22)) eX4_shows gX4_least_X4_shows rfl rfl 0 rfl rfl rfl (Nat.le_of_ble_eq_true rfl) ⟨Nat.le_of_ble_eq_true rfl, Nat.le_of_ble_eq_true rfl⟩ dX4_least_78 [0, 5, 1, 2, 3, 4] [6] rfl rfl rfl rfl (by decide) rfl ?_
              refine g_if_eq Γ 92 dX4_least_81 (by decide) (fun c23 => ?_) (fun c23 => ?_)
              · have hf := ya_if1 c23 hf
                obtain ⟨v24, e25, hf⟩ := ya_lt_inv hf
                refine g_iinc (lv' := [(6, .int v24), (7, .int v6), (0, .ref h_t), (1, .int y1), (2, .int y2), (3, .int y3), (4, .int y4), (5, .int y5)]) Γ 7 dX4_least_92 rfl (by rw [e25]; rfl) (by decide) rfl ?_
                refine g_goto Γ 28 dX4_least_95 (by decide) ?_
                refine g_lv [2, 3, 4, 5, 6, 7, 0] rfl ?_
                refine g_ws (ws' := [(h_t, oM A_t), (A_t 0, oW A_t_now d_t_now_knots d_t_now_flows d_t_now_readSet), (A_t_now 0, eI cI 10 d_t_now_from), (A_t_now 1, eI cI 10 d_t_now_to), (A_t_now 4, eI cI 10 d_t_now_price), (A_t 2, oG A_t_groups), (A_t_groups 0, eI cI 6 v21)]) [1, 2, 3, 4, 0, 5, 6] rfl rfl ?_
                exact ih _ _ _ _ _ _ _ _ _ _ _ _ _ _ _ _ hf hk
              · have hf := ya_if2 c23 hf
                refine g_iload Γ 7 dX4_least_84 rfl ?_
                refine g_istore (lv' := [(4, .int y6), (7, .int v6), (0, .ref h_t), (1, .int y1), (2, .int y2), (3, .int y3), (5, .int y5), (6, .int y6)]) Γ dX4_least_86 (by decide) rfl ?_
                refine g_iload Γ 1 dX4_least_88 rfl ?_
                refine g_istore (lv' := [(5, .int v6), (4, .int y6), (7, .int v6), (0, .ref h_t), (1, .int y1), (2, .int y2), (3, .int y3), (6, .int y6)]) Γ dX4_least_90 (by decide) rfl ?_
                obtain ⟨v26, e27, hf⟩ := ya_lt_inv hf
                refine g_iinc (lv' := [(6, .int v26), (5, .int v6), (4, .int y6), (7, .int v6), (0, .ref h_t), (1, .int y1), (2, .int y2), (3, .int y3)]) Γ 7 dX4_least_92 rfl (by rw [e27]; rfl) (by decide) rfl ?_
                refine g_goto Γ 28 dX4_least_95 (by decide) ?_
                refine g_lv [4, 5, 6, 7, 2, 1, 0] rfl ?_
                refine g_ws (ws' := [(h_t, oM A_t), (A_t 0, oW A_t_now d_t_now_knots d_t_now_flows d_t_now_readSet), (A_t_now 0, eI cI 10 d_t_now_from), (A_t_now 1, eI cI 10 d_t_now_to), (A_t_now 4, eI cI 10 d_t_now_price), (A_t 2, oG A_t_groups), (A_t_groups 0, eI cI 6 v21)]) [1, 2, 3, 4, 0, 5, 6] rfl rfl ?_
                exact ih _ _ _ _ _ _ _ _ _ _ _ _ _ _ _ _ hf hk
        · have hf := ya_if2 c5 hf
          refine g_goto Γ 92 dX4_least_43 (by decide) ?_
          obtain ⟨v28, e29, hf⟩ := ya_lt_inv hf
          refine g_iinc (lv' := [(6, .int v28), (0, .ref h_t), (1, .int y1), (2, .int y2), (3, .int y3), (4, .int y4), (5, .int y5)]) Γ 6 dX4_least_92 rfl (by rw [e29]; rfl) (by decide) rfl ?_
          refine g_goto Γ 28 dX4_least_95 (by decide) ?_
          refine g_lv [1, 2, 3, 4, 5, 6, 0] rfl ?_
          exact ih _ _ _ _ _ _ _ _ _ _ _ _ _ _ _ _ hf hk
  show yG p l e (headSpec wsX4_least rmX4_least).room s m (List.toArray [.ref h_t, .int x1, .int x2]) below meth c D (va_A [(h_t, oM A_t), (A_t 0, oW A_t_now c_t_now_knots c_t_now_flows c_t_now_readSet), (A_t_now 0, eI cI 10 c_t_now_from), (A_t_now 1, eI cI 10 c_t_now_to), (A_t_now 4, eI cI 10 c_t_now_price), (A_t 2, oG A_t_groups), (A_t_groups 0, eI cI 6 c_t_groups_least)] sz) 8 0 0 (MQ below (yQi D (yT cI cJ cZ cW cR) r [(h_t, oM A_t), (A_t 0, oW A_t_now c_t_now_knots c_t_now_flows c_t_now_readSet), (A_t_now 0, eI cI 10 c_t_now_from), (A_t_now 1, eI cI 10 c_t_now_to), (A_t_now 4, eI cI 10 c_t_now_price), (A_t 2, oG A_t_groups), (A_t_groups 0, eI cI 6 zc_t_groups_least)] (va_A [(h_t, oM A_t), (A_t 0, oW A_t_now c_t_now_knots c_t_now_flows c_t_now_readSet), (A_t_now 0, eI cI 10 c_t_now_from), (A_t_now 1, eI cI 10 c_t_now_to), (A_t_now 4, eI cI 10 c_t_now_price), (A_t 2, oG A_t_groups), (A_t_groups 0, eI cI 6 c_t_groups_least)] sz)) (List.toArray [.ref h_t, .int x1, .int x2]) s 0 0 (va_A [(h_t, oM A_t), (A_t 0, oW A_t_now c_t_now_knots c_t_now_flows c_t_now_readSet), (A_t_now 0, eI cI 10 c_t_now_from), (A_t_now 1, eI cI 10 c_t_now_to), (A_t_now 4, eI cI 10 c_t_now_price), (A_t 2, oG A_t_groups), (A_t_groups 0, eI cI 6 c_t_groups_least)] sz)) 0 [(0, .ref h_t), (1, .int x1), (2, .int x2)] [] [(h_t, oM A_t), (A_t 0, oW A_t_now c_t_now_knots c_t_now_flows c_t_now_readSet), (A_t_now 0, eI cI 10 c_t_now_from), (A_t_now 1, eI cI 10 c_t_now_to), (A_t_now 4, eI cI 10 c_t_now_price), (A_t 2, oG A_t_groups), (A_t_groups 0, eI cI 6 c_t_groups_least)]
  unfold fX4_least at hf
  refine g_iload_n Γ 2 dX4_least_0 rfl ?_
  refine g_if_eq Γ 11 dX4_least_1 (by decide) (fun c1 => ?_) (fun c1 => ?_)
  · have hf := ya_if1 c1 hf
    refine g_aload_n Γ 0 dX4_least_11 rfl ?_
    refine g_get Γ fX4_least_10 0 rfl rfl dX4_least_12 ?_
    obtain ⟨v2, e3, hf⟩ := ya_ob hf
    refine g_vi (q := (RX3, TX3, 11)) (wr := [(h_t, oM A_t), (A_t_now 0, eI cI 10 c_t_now_from), (A_t_now 1, eI cI 10 c_t_now_to), (A_t_now 4, eI cI 10 c_t_now_price), (A_t 2, oG A_t_groups), (A_t_groups 0, eI cI 6 c_t_groups_least)]) (ws' := [(h_t, oM A_t), (A_t_now 0, eI cI 10 c_t_now_from), (A_t_now 1, eI cI 10 c_t_now_to), (A_t_now 4, eI cI 10 c_t_now_price), (A_t 2, oG A_t_groups), (A_t_groups 0, eI cI 6 c_t_groups_least), (A_t 0, oW A_t_now c_t_now_knots c_t_now_flows c_t_now_readSet)]) Γ (fun sz => mX3_unreadSet (l := l) (D := D) (sz := sz) (cI := cI) (cJ := cJ) (cZ := cZ) (cW := cW) (cR := cR) (h_t := A_t 0) (A_t := A_t_now) (hf := e3)) eX3_unreadSet gX4_least_X3_unreadSet rfl rfl 0 rfl rfl rfl (Nat.le_of_ble_eq_true rfl) ⟨Nat.le_of_ble_eq_true rfl, Nat.le_of_ble_eq_true rfl⟩ dX4_least_15 [1] [0, 2, 3, 4, 5, 6] rfl rfl rfl rfl (by decide) rfl ?_
    refine g_istore_n (lv' := [(3, .int v2), (0, .ref h_t), (1, .int x1), (2, .int x2)]) Γ dX4_least_18 (by decide) rfl ?_
    refine g_iconst (v := (-1)) Γ dX4_least_19 (by decide) ?_
    refine g_istore (lv' := [(4, .int (-1)), (3, .int v2), (0, .ref h_t), (1, .int x1), (2, .int x2)]) Γ dX4_least_20 (by decide) rfl ?_
    refine g_iconst (v := 0) Γ dX4_least_22 (by decide) ?_
    refine g_istore (lv' := [(5, .int 0), (4, .int (-1)), (3, .int v2), (0, .ref h_t), (1, .int x1), (2, .int x2)]) Γ dX4_least_23 (by decide) rfl ?_
    refine g_iconst (v := 0) Γ dX4_least_25 (by decide) ?_
    refine g_istore (lv' := [(6, .int 0), (5, .int 0), (4, .int (-1)), (3, .int v2), (0, .ref h_t), (1, .int x1), (2, .int x2)]) Γ dX4_least_26 (by decide) rfl ?_
    obtain ⟨⟨v30, v31, v32⟩, e33, hf⟩ := ya_ob hf
    refine g_lv [4, 5, 6, 3, 2, 1, 0] rfl ?_
    refine g_ws (ws' := [(h_t, oM A_t), (A_t 0, oW A_t_now c_t_now_knots c_t_now_flows c_t_now_readSet), (A_t_now 0, eI cI 10 c_t_now_from), (A_t_now 1, eI cI 10 c_t_now_to), (A_t_now 4, eI cI 10 c_t_now_price), (A_t 2, oG A_t_groups), (A_t_groups 0, eI cI 6 c_t_groups_least)]) [0, 6, 1, 2, 3, 4, 5] rfl rfl ?_
    refine loop28 N _ _ _ _ _ _ _ _ _ _ _ _ _ _ _ _ e33  ?_
    refine g_iload Γ 1 dX4_least_98 rfl ?_
    refine g_iconst (v := (-1)) Γ dX4_least_100 (by decide) ?_
    refine g_icmp_ne Γ 106 dX4_least_101 (by decide) (fun c34 => ?_) (fun c34 => ?_)
    · have hf := ya_if2 c34 hf
      refine g_iload_n Γ 0 dX4_least_106 rfl ?_
      refine g_if_ne Γ 115 dX4_least_107 (by decide) (fun c35 => ?_) (fun c35 => ?_)
      · have hf := ya_if2 c35 hf
        refine g_iload Γ 1 dX4_least_115 rfl ?_
        cases hf
        exact g_iret Γ hr dX4_least_117 [0, 1, 2, 3, 4, 5, 6] rfl rfl
      · have hf := ya_if1 c35 hf
        refine g_iload Γ 2 dX4_least_110 rfl ?_
        refine g_goto Γ 117 dX4_least_112 (by decide) ?_
        cases hf
        exact g_iret Γ hr dX4_least_117 [0, 1, 2, 3, 4, 5, 6] rfl rfl
    · have hf := ya_if1 c34 hf
      refine g_iconst (v := (-1)) Γ dX4_least_104 (by decide) ?_
      cases hf
      exact g_iret Γ hr dX4_least_105 [0, 1, 2, 3, 4, 5, 6] rfl rfl
  · have hf := ya_if2 c1 hf
    refine g_iload_n Γ 2 dX4_least_4 rfl ?_
    refine g_iconst (v := 1) Γ dX4_least_5 (by decide) ?_
    refine g_icmp_eq Γ 11 dX4_least_6 (by decide) (fun c36 => ?_) (fun c36 => ?_)
    · have hf := ya_if1 c36 hf
      refine g_aload_n Γ 0 dX4_least_11 rfl ?_
      refine g_get Γ fX4_least_10 0 rfl rfl dX4_least_12 ?_
      obtain ⟨v37, e38, hf⟩ := ya_ob hf
      refine g_vi (q := (RX3, TX3, 11)) (wr := [(h_t, oM A_t), (A_t_now 0, eI cI 10 c_t_now_from), (A_t_now 1, eI cI 10 c_t_now_to), (A_t_now 4, eI cI 10 c_t_now_price), (A_t 2, oG A_t_groups), (A_t_groups 0, eI cI 6 c_t_groups_least)]) (ws' := [(h_t, oM A_t), (A_t_now 0, eI cI 10 c_t_now_from), (A_t_now 1, eI cI 10 c_t_now_to), (A_t_now 4, eI cI 10 c_t_now_price), (A_t 2, oG A_t_groups), (A_t_groups 0, eI cI 6 c_t_groups_least), (A_t 0, oW A_t_now c_t_now_knots c_t_now_flows c_t_now_readSet)]) Γ (fun sz => mX3_unreadSet (l := l) (D := D) (sz := sz) (cI := cI) (cJ := cJ) (cZ := cZ) (cW := cW) (cR := cR) (h_t := A_t 0) (A_t := A_t_now) (hf := e38)) eX3_unreadSet gX4_least_X3_unreadSet rfl rfl 0 rfl rfl rfl (Nat.le_of_ble_eq_true rfl) ⟨Nat.le_of_ble_eq_true rfl, Nat.le_of_ble_eq_true rfl⟩ dX4_least_15 [1] [0, 2, 3, 4, 5, 6] rfl rfl rfl rfl (by decide) rfl ?_
      refine g_istore_n (lv' := [(3, .int v37), (0, .ref h_t), (1, .int x1), (2, .int x2)]) Γ dX4_least_18 (by decide) rfl ?_
      refine g_iconst (v := (-1)) Γ dX4_least_19 (by decide) ?_
      refine g_istore (lv' := [(4, .int (-1)), (3, .int v37), (0, .ref h_t), (1, .int x1), (2, .int x2)]) Γ dX4_least_20 (by decide) rfl ?_
      refine g_iconst (v := 0) Γ dX4_least_22 (by decide) ?_
      refine g_istore (lv' := [(5, .int 0), (4, .int (-1)), (3, .int v37), (0, .ref h_t), (1, .int x1), (2, .int x2)]) Γ dX4_least_23 (by decide) rfl ?_
      refine g_iconst (v := 0) Γ dX4_least_25 (by decide) ?_
      refine g_istore (lv' := [(6, .int 0), (5, .int 0), (4, .int (-1)), (3, .int v37), (0, .ref h_t), (1, .int x1), (2, .int x2)]) Γ dX4_least_26 (by decide) rfl ?_
      obtain ⟨⟨v39, v40, v41⟩, e42, hf⟩ := ya_ob hf
      refine g_lv [4, 5, 6, 3, 2, 1, 0] rfl ?_
      refine g_ws (ws' := [(h_t, oM A_t), (A_t 0, oW A_t_now c_t_now_knots c_t_now_flows c_t_now_readSet), (A_t_now 0, eI cI 10 c_t_now_from), (A_t_now 1, eI cI 10 c_t_now_to), (A_t_now 4, eI cI 10 c_t_now_price), (A_t 2, oG A_t_groups), (A_t_groups 0, eI cI 6 c_t_groups_least)]) [0, 6, 1, 2, 3, 4, 5] rfl rfl ?_
      refine loop28 N _ _ _ _ _ _ _ _ _ _ _ _ _ _ _ _ e42  ?_
      refine g_iload Γ 1 dX4_least_98 rfl ?_
      refine g_iconst (v := (-1)) Γ dX4_least_100 (by decide) ?_
      refine g_icmp_ne Γ 106 dX4_least_101 (by decide) (fun c43 => ?_) (fun c43 => ?_)
      · have hf := ya_if2 c43 hf
        refine g_iload_n Γ 0 dX4_least_106 rfl ?_
        refine g_if_ne Γ 115 dX4_least_107 (by decide) (fun c44 => ?_) (fun c44 => ?_)
        · have hf := ya_if2 c44 hf
          refine g_iload Γ 1 dX4_least_115 rfl ?_
          cases hf
          exact g_iret Γ hr dX4_least_117 [0, 1, 2, 3, 4, 5, 6] rfl rfl
        · have hf := ya_if1 c44 hf
          refine g_iload Γ 2 dX4_least_110 rfl ?_
          refine g_goto Γ 117 dX4_least_112 (by decide) ?_
          cases hf
          exact g_iret Γ hr dX4_least_117 [0, 1, 2, 3, 4, 5, 6] rfl rfl
      · have hf := ya_if1 c43 hf
        refine g_iconst (v := (-1)) Γ dX4_least_104 (by decide) ?_
        cases hf
        exact g_iret Γ hr dX4_least_105 [0, 1, 2, 3, 4, 5, 6] rfl rfl
    · have hf := ya_if2 c36 hf
      refine g_iconst (v := (-1)) Γ dX4_least_9 (by decide) ?_
      cases hf
      exact g_iret Γ hr dX4_least_10 [0, 1, 2, 3, 4, 5, 6] rfl rfl

