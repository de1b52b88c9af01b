theorem dX0_hasRow_0 : decode cX0_hasRow 0 = .ok (.aload_n 0, 1) := by decide +kernel
theorem dX0_hasRow_1 : decode cX0_hasRow 1 = .ok (.getfield 12, 3) := by decide +kernel
theorem dX0_hasRow_4 : decode cX0_hasRow 4 = .ok (.getfield 62, 3) := by decide +kernel
theorem dX0_hasRow_7 : decode cX0_hasRow 7 = .ok (.iload_n 1, 1) := by decide +kernel
theorem dX0_hasRow_8 : decode cX0_hasRow 8 = .ok (.iaload, 1) := by decide +kernel
theorem dX0_hasRow_9 : decode cX0_hasRow 9 = .ok (.iload_n 1, 1) := by decide +kernel
theorem dX0_hasRow_10 : decode cX0_hasRow 10 = .ok (.if_icmp .ne 20, 3) := by decide +kernel
theorem dX0_hasRow_13 : decode cX0_hasRow 13 = .ok (.aload_n 0, 1) := by decide +kernel
theorem dX0_hasRow_14 : decode cX0_hasRow 14 = .ok (.getfield 18, 3) := by decide +kernel
theorem dX0_hasRow_17 : decode cX0_hasRow 17 = .ok (.getfield 62, 3) := by decide +kernel
theorem dX0_hasRow_20 : decode cX0_hasRow 20 = .ok (.iload_n 1, 1) := by decide +kernel
theorem dX0_hasRow_21 : decode cX0_hasRow 21 = .ok (.iaload, 1) := by decide +kernel
theorem dX0_hasRow_22 : decode cX0_hasRow 22 = .ok (.iload_n 1, 1) := by decide +kernel
theorem dX0_hasRow_23 : decode cX0_hasRow 23 = .ok (.if_icmp .eq 7, 3) := by decide +kernel
theorem dX0_hasRow_26 : decode cX0_hasRow 26 = .ok (.iconst 1, 1) := by decide +kernel
theorem dX0_hasRow_27 : decode cX0_hasRow 27 = .ok (.goto 4, 3) := by decide +kernel
theorem dX0_hasRow_30 : decode cX0_hasRow 30 = .ok (.iconst 0, 1) := by decide +kernel
theorem dX0_hasRow_31 : decode cX0_hasRow 31 = .ok (.ireturn, 1) := by decide +kernel
/-! ===== FlowMeters$Fit.hasRow(I)Z ===== -/
def fX0_hasRow (c_t_heaps_least : Nat → Int32) (c_t_pieces_least : Nat → Int32) (x1 : Int32) : Option (Int32) :=
  (ya_rd c_t_heaps_least 6 x1).bind fun v1 =>
  (if v1 = x1 then
    (ya_rd c_t_pieces_least 6 x1).bind fun v4 =>
    (if v4 = x1 then
      some 0
    else
      some 1)
  else
    some 0)
theorem fX0_hasRow_12 : yF wsX0_hasRow RX0 12 0 0 RX0 TX0 7 := ⟨rfl, by decide, by decide +kernel, by decide +kernel⟩
theorem fX0_hasRow_62 : yF wsX0_hasRow RX0 62 1 0 RX1 TX1 1 := ⟨rfl, by decide, by decide +kernel, by decide +kernel⟩
theorem fX0_hasRow_18 : yF wsX0_hasRow RX0 18 0 1 RX0 TX0 7 := ⟨rfl, by decide, by decide +kernel, by decide +kernel⟩
abbrev rmX0_hasRow : Room := { frames := 0, cells := 0, slots := 0, locals := 0 }
theorem eX0_hasRow : yY yX0_hasRow wsX0_hasRow cX0_hasRow 2 (some .boolean) rmX0_hasRow 1 := ⟨⟨_, rfl⟩, rfl, rfl, by decide, by decide, by decide +kernel⟩
set_option maxHeartbeats 4000000 in
set_option maxRecDepth 100000 in
theorem mX0_hasRow {l : Launch} {D : va_G} {sz : Nat} {cI cJ cZ cW cR : ClassId} {h_t : Nat} {A_t : Nat → Nat} {A_t_heaps : Nat → Nat} {A_t_pieces : Nat → Nat} {c_t_unread : Int32} {c_t_below : Int64} {c_t_heaps_least : Nat → Int32} {c_t_pieces_least : Nat → Int32} {x1 : Int32} {r : Int32} (hf : fX0_hasRow c_t_heaps_least c_t_pieces_least x1 = some r) : Met l yX0_hasRow wsX0_hasRow rmX0_hasRow (yP D (yT cI cJ cZ cW cR) [(h_t, oF A_t c_t_unread c_t_below), (A_t 0, oG A_t_heaps), (A_t_heaps 0, eI cI 6 c_t_heaps_least), (A_t 1, oG A_t_pieces), (A_t_pieces 0, eI cI 6 c_t_pieces_least)] sz [.ref h_t, .int x1]) (yQi D (yT cI cJ cZ cW cR) r [(h_t, oF A_t c_t_unread c_t_below), (A_t 0, oG A_t_heaps), (A_t_heaps 0, eI cI 6 c_t_heaps_least), (A_t 1, oG A_t_pieces), (A_t_pieces 0, eI cI 6 c_t_pieces_least)] (va_A [(h_t, oF A_t c_t_unread c_t_below), (A_t 0, oG A_t_heaps), (A_t_heaps 0, eI cI 6 c_t_heaps_least), (A_t 1, oG A_t_pieces), (A_t_pieces 0, eI cI 6 c_t_pieces_least)] sz)) 0 0 (va_A [(h_t, oF A_t c_t_unread c_t_below), (A_t 0, oG A_t_heaps), (A_t_heaps 0, eI cI 6 c_t_heaps_least), (A_t 1, oG A_t_pieces), (A_t_pieces 0, eI cI 6 c_t_pieces_least)] sz) := by
  refine yM (cc := cX0_hasRow) (maxL := 2) (ret := (some .boolean)) RX0 (by decide) rfl rfl (Nat.le_of_ble_eq_true rfl) ?_
  intro p e s m below meth c Γ hr
  show yG p l e (headSpec wsX0_hasRow rmX0_hasRow).room s m (List.toArray [.ref h_t, .int x1]) below meth c D (va_A [(h_t, oF A_t c_t_unread c_t_below), (A_t 0, oG A_t_heaps), (A_t_heaps 0, eI cI 6 c_t_heaps_least), (A_t 1, oG A_t_pieces), (A_t_pieces 0, eI cI 6 c_t_pieces_least)] sz) 2 0 0 (MQ below (yQi D (yT cI cJ cZ cW cR) r [(h_t, oF A_t c_t_unread c_t_below), (A_t 0, oG A_t_heaps), (A_t_heaps 0, eI cI 6 c_t_heaps_least), (A_t 1, oG A_t_pieces), (A_t_pieces 0, eI cI 6 c_t_pieces_least)] (va_A [(h_t, oF A_t c_t_unread c_t_below), (A_t 0, oG A_t_heaps), (A_t_heaps 0, eI cI 6 c_t_heaps_least), (A_t 1, oG A_t_pieces), (A_t_pieces 0, eI cI 6 c_t_pieces_least)] sz)) (List.toArray [.ref h_t, .int x1]) s 0 0 (va_A [(h_t, oF A_t c_t_unread c_t_below), (A_t 0, oG A_t_heaps), (A_t_heaps 0, eI cI 6 c_t_heaps_least), (A_t 1, oG A_t_pieces), (A_t_pieces 0, eI cI 6 c_t_pieces_least)] sz)) 0 [(0, .ref h_t), (1, .int x1)] [] [(h_t, oF A_t c_t_unread c_t_below), (A_t 0, oG A_t_heaps), (A_t_heaps 0, eI cI 6 c_t_heaps_least), (A_t 1, oG A_t_pieces), (A_t_pieces 0, eI cI 6 c_t_pieces_least)]
  unfold fX0_hasRow at hf
  refine g_aload_n Γ 0 dX0_hasRow_0 rfl ?_
  refine g_get Γ fX0_hasRow_12 0 rfl rfl dX0_hasRow_1 ?_
  refine g_get Γ fX0_hasRow_62 1 rfl rfl dX0_hasRow_4 ?_
  refine g_iload_n Γ 1 dX0_hasRow_7 rfl ?_
  obtain ⟨v1, e2, hf⟩ := ya_ob hf
  refine g_iald Γ e2 2 0 rfl rfl dX0_hasRow_8 ?_
  refine g_iload_n Γ 1 dX0_hasRow_9 rfl ?_
  refine g_icmp_ne Γ 30 dX0_hasRow_10 (by decide) (fun c3 => ?_) (fun c3 => ?_)
  · have hf := ya_if2 c3 hf
    refine g_iconst (v := 0) Γ dX0_hasRow_30 (by decide) ?_
    cases hf
    exact g_zret Γ hr (show ya_bo 0 = some 0 from rfl) dX0_hasRow_31 [0, 1, 2, 3, 4] rfl rfl
  · have hf := ya_if1 c3 hf
    refine g_aload_n Γ 0 dX0_hasRow_13 rfl ?_
    refine g_get Γ fX0_hasRow_18 0 rfl rfl dX0_hasRow_14 ?_
    refine g_get Γ fX0_hasRow_62 3 rfl rfl dX0_hasRow_17 ?_
    refine g_iload_n Γ 1 dX0_hasRow_20 rfl ?_
    obtain ⟨v4, e5, hf⟩ := ya_ob hf
    refine g_iald Γ e5 4 0 rfl rfl dX0_hasRow_21 ?_
    refine g_iload_n Γ 1 dX0_hasRow_22 rfl ?_
    refine g_icmp_eq Γ 30 dX0_hasRow_23 (by decide) (fun c6 => ?_) (fun c6 => ?_)
    · have hf := ya_if1 c6 hf
      refine g_iconst (v := 0) Γ dX0_hasRow_30 (by decide) ?_
      cases hf
      exact g_zret Γ hr (show ya_bo 0 = some 0 from rfl) dX0_hasRow_31 [0, 1, 2, 3, 4] rfl rfl
    · have hf := ya_if2 c6 hf
      refine g_iconst (v := 1) Γ dX0_hasRow_26 (by decide) ?_
      refine g_goto Γ 31 dX0_hasRow_27 (by decide) ?_
      cases hf
      exact g_zret Γ hr (show ya_bo 1 = some 1 from rfl) dX0_hasRow_31 [0, 1, 2, 3, 4] rfl rfl

set_option maxRecDepth 20000 in
theorem ggX0_addMeter_X0_hasRow : GoodIn wsX0_addMeter wsX0_hasRow := goodIn_r _ [7, 8, 9, 10, 11, 12, 13, 14, 15, 16, 17, 18] (by decide +kernel) (by decide +kernel)
set_option maxRecDepth 20000 in
theorem gX0_addMeter_X0_hasRow : GoodIn wsX0_addMeter (wsV RX0 66 RX0 yX0_hasRow wsX0_hasRow) := goodIn_app (goodIn_of _ (by decide +kernel)) ggX0_addMeter_X0_hasRow
theorem dX0_addMeter_0 : decode cX0_addMeter 0 = .ok (.aload_n 0, 1) := by decide +kernel
theorem dX0_addMeter_1 : decode cX0_addMeter 1 = .ok (.getfield 29, 3) := by decide +kernel
theorem dX0_addMeter_4 : decode cX0_addMeter 4 = .ok (.iload_n 1, 1) := by decide +kernel
theorem dX0_addMeter_5 : decode cX0_addMeter 5 = .ok (.dup2, 1) := by decide +kernel
theorem dX0_addMeter_6 : decode cX0_addMeter 6 = .ok (.laload, 1) := by decide +kernel
theorem dX0_addMeter_7 : decode cX0_addMeter 7 = .ok (.iload 4, 2) := by decide +kernel
theorem dX0_addMeter_9 : decode cX0_addMeter 9 = .ok (.i2l, 1) := by decide +kernel
theorem dX0_addMeter_10 : decode cX0_addMeter 10 = .ok (.lsub, 1) := by decide +kernel
theorem dX0_addMeter_11 : decode cX0_addMeter 11 = .ok (.lastore, 1) := by decide +kernel
theorem dX0_addMeter_12 : decode cX0_addMeter 12 = .ok (.aload_n 0, 1) := by decide +kernel
theorem dX0_addMeter_13 : decode cX0_addMeter 13 = .ok (.getfield 29, 3) := by decide +kernel
theorem dX0_addMeter_16 : decode cX0_addMeter 16 = .ok (.iload_n 2, 1) := by decide +kernel
theorem dX0_addMeter_17 : decode cX0_addMeter 17 = .ok (.dup2, 1) := by decide +kernel
theorem dX0_addMeter_18 : decode cX0_addMeter 18 = .ok (.laload, 1) := by decide +kernel
theorem dX0_addMeter_19 : decode cX0_addMeter 19 = .ok (.iload 4, 2) := by decide +kernel
theorem dX0_addMeter_21 : decode cX0_addMeter 21 = .ok (.i2l, 1) := by decide +kernel
theorem dX0_addMeter_22 : decode cX0_addMeter 22 = .ok (.ladd, 1) := by decide +kernel
theorem dX0_addMeter_23 : decode cX0_addMeter 23 = .ok (.lastore, 1) := by decide +kernel
theorem dX0_addMeter_24 : decode cX0_addMeter 24 = .ok (.aload_n 0, 1) := by decide +kernel
theorem dX0_addMeter_25 : decode cX0_addMeter 25 = .ok (.iload_n 1, 1) := by decide +kernel
theorem dX0_addMeter_26 : decode cX0_addMeter 26 = .ok (.invokevirtual 66, 3) := by decide +kernel
theorem dX0_addMeter_29 : decode cX0_addMeter 29 = .ok (.ifCond .eq 16, 3) := by decide +kernel
theorem dX0_addMeter_32 : decode cX0_addMeter 32 = .ok (.aload_n 0, 1) := by decide +kernel
theorem dX0_addMeter_33 : decode cX0_addMeter 33 = .ok (.getfield 26, 3) := by decide +kernel
theorem dX0_addMeter_36 : decode cX0_addMeter 36 = .ok (.iload_n 1, 1) := by decide +kernel
theorem dX0_addMeter_37 : decode cX0_addMeter 37 = .ok (.aaload, 1) := by decide +kernel
theorem dX0_addMeter_38 : decode cX0_addMeter 38 = .ok (.iload_n 1, 1) := by decide +kernel
theorem dX0_addMeter_39 : decode cX0_addMeter 39 = .ok (.dup2, 1) := by decide +kernel
theorem dX0_addMeter_40 : decode cX0_addMeter 40 = .ok (.laload, 1) := by decide +kernel
theorem dX0_addMeter_41 : decode cX0_addMeter 41 = .ok (.iload_n 3, 1) := by decide +kernel
theorem dX0_addMeter_42 : decode cX0_addMeter 42 = .ok (.i2l, 1) := by decide +kernel
theorem dX0_addMeter_43 : decode cX0_addMeter 43 = .ok (.ladd, 1) := by decide +kernel
theorem dX0_addMeter_44 : decode cX0_addMeter 44 = .ok (.lastore, 1) := by decide +kernel
theorem dX0_addMeter_45 : decode cX0_addMeter 45 = .ok (.aload_n 0, 1) := by decide +kernel
theorem dX0_addMeter_46 : decode cX0_addMeter 46 = .ok (.iload_n 2, 1) := by decide +kernel
theorem dX0_addMeter_47 : decode cX0_addMeter 47 = .ok (.invokevirtual 66, 3) := by decide +kernel
theorem dX0_addMeter_50 : decode cX0_addMeter 50 = .ok (.ifCond .eq 16, 3) := by decide +kernel
theorem dX0_addMeter_53 : decode cX0_addMeter 53 = .ok (.aload_n 0, 1) := by decide +kernel
theorem dX0_addMeter_54 : decode cX0_addMeter 54 = .ok (.getfield 26, 3) := by decide +kernel
theorem dX0_addMeter_57 : decode cX0_addMeter 57 = .ok (.iload_n 2, 1) := by decide +kernel
theorem dX0_addMeter_58 : decode cX0_addMeter 58 = .ok (.aaload, 1) := by decide +kernel
theorem dX0_addMeter_59 : decode cX0_addMeter 59 = .ok (.iload_n 2, 1) := by decide +kernel
theorem dX0_addMeter_60 : decode cX0_addMeter 60 = .ok (.dup2, 1) := by decide +kernel
theorem dX0_addMeter_61 : decode cX0_addMeter 61 = .ok (.laload, 1) := by decide +kernel
theorem dX0_addMeter_62 : decode cX0_addMeter 62 = .ok (.iload_n 3, 1) := by decide +kernel
theorem dX0_addMeter_63 : decode cX0_addMeter 63 = .ok (.i2l, 1) := by decide +kernel
theorem dX0_addMeter_64 : decode cX0_addMeter 64 = .ok (.ladd, 1) := by decide +kernel
theorem dX0_addMeter_65 : decode cX0_addMeter 65 = .ok (.lastore, 1) := by decide +kernel
theorem dX0_addMeter_66 : decode cX0_addMeter 66 = .ok (.aload_n 0, 1) := by decide +kernel
theorem dX0_addMeter_67 : decode cX0_addMeter 67 = .ok (.iload_n 1, 1) := by decide +kernel
theorem dX0_addMeter_68 : decode cX0_addMeter 68 = .ok (.invokevirtual 66, 3) := by decide +kernel
theorem dX0_addMeter_71 : decode cX0_addMeter 71 = .ok (.ifCond .eq 37, 3) := by decide +kernel
theorem dX0_addMeter_74 : decode cX0_addMeter 74 = .ok (.aload_n 0, 1) := by decide +kernel
theorem dX0_addMeter_75 : decode cX0_addMeter 75 = .ok (.iload_n 2, 1) := by decide +kernel
theorem dX0_addMeter_76 : decode cX0_addMeter 76 = .ok (.invokevirtual 66, 3) := by decide +kernel
theorem dX0_addMeter_79 : decode cX0_addMeter 79 = .ok (.ifCond .eq 29, 3) := by decide +kernel
theorem dX0_addMeter_82 : decode cX0_addMeter 82 = .ok (.aload_n 0, 1) := by decide +kernel
theorem dX0_addMeter_83 : decode cX0_addMeter 83 = .ok (.getfield 26, 3) := by decide +kernel
theorem dX0_addMeter_86 : decode cX0_addMeter 86 = .ok (.iload_n 1, 1) := by decide +kernel
theorem dX0_addMeter_87 : decode cX0_addMeter 87 = .ok (.aaload, 1) := by decide +kernel
theorem dX0_addMeter_88 : decode cX0_addMeter 88 = .ok (.iload_n 2, 1) := by decide +kernel
theorem dX0_addMeter_89 : decode cX0_addMeter 89 = .ok (.dup2, 1) := by decide +kernel
theorem dX0_addMeter_90 : decode cX0_addMeter 90 = .ok (.laload, 1) := by decide +kernel
theorem dX0_addMeter_91 : decode cX0_addMeter 91 = .ok (.iload_n 3, 1) := by decide +kernel
theorem dX0_addMeter_92 : decode cX0_addMeter 92 = .ok (.i2l, 1) := by decide +kernel
theorem dX0_addMeter_93 : decode cX0_addMeter 93 = .ok (.lsub, 1) := by decide +kernel
theorem dX0_addMeter_94 : decode cX0_addMeter 94 = .ok (.lastore, 1) := by decide +kernel
theorem dX0_addMeter_95 : decode cX0_addMeter 95 = .ok (.aload_n 0, 1) := by decide +kernel
theorem dX0_addMeter_96 : decode cX0_addMeter 96 = .ok (.getfield 26, 3) := by decide +kernel
theorem dX0_addMeter_99 : decode cX0_addMeter 99 = .ok (.iload_n 2, 1) := by decide +kernel
theorem dX0_addMeter_100 : decode cX0_addMeter 100 = .ok (.aaload, 1) := by decide +kernel
theorem dX0_addMeter_101 : decode cX0_addMeter 101 = .ok (.iload_n 1, 1) := by decide +kernel
theorem dX0_addMeter_102 : decode cX0_addMeter 102 = .ok (.dup2, 1) := by decide +kernel
theorem dX0_addMeter_103 : decode cX0_addMeter 103 = .ok (.laload, 1) := by decide +kernel
theorem dX0_addMeter_104 : decode cX0_addMeter 104 = .ok (.iload_n 3, 1) := by decide +kernel
theorem dX0_addMeter_105 : decode cX0_addMeter 105 = .ok (.i2l, 1) := by decide +kernel
theorem dX0_addMeter_106 : decode cX0_addMeter 106 = .ok (.lsub, 1) := by decide +kernel
theorem dX0_addMeter_107 : decode cX0_addMeter 107 = .ok (.lastore, 1) := by decide +kernel
theorem dX0_addMeter_108 : decode cX0_addMeter 108 = .ok (.return_, 1) := by decide +kernel
/-! ===== FlowMeters$Fit.addMeter(IIII)V ===== -/
def fX0_addMeter (c_t_heaps_least : Nat → Int32) (c_t_pieces_least : Nat → Int32) (c_t_rows : Nat → Nat → Int64) (c_t_surplus : Nat → Int64) (x1 : Int32) (x2 : Int32) (x3 : Int32) (x4 : Int32) : Option ((Nat → Nat → Int64) × (Nat → Int64)) :=
  (ya_rd c_t_surplus 6 x1).bind fun v1 =>
  (ya_wr c_t_surplus 6 x1 (v1 - (Int32.toInt64 x4))).bind fun v3 =>
  (ya_rd v3 6 x2).bind fun v5 =>
  (ya_wr v3 6 x2 (v5 + (Int32.toInt64 x4))).bind fun v7 =>
  (fX0_hasRow c_t_heaps_least c_t_pieces_least x1).bind fun v9 =>
  (if v9 = 0 then
    (fX0_hasRow c_t_heaps_least c_t_pieces_least x2).bind fun v12 =>
    (if v12 = 0 then
      (fX0_hasRow c_t_heaps_least c_t_pieces_least x1).bind fun v15 =>
      (if v15 = 0 then
        some (c_t_rows, v7)
      else
        (fX0_hasRow c_t_heaps_least c_t_pieces_least x2).bind fun v18 =>
        (if v18 = 0 then
          some (c_t_rows, v7)
        else
          (ya_ix 6 x1).bind fun v21 =>
          (ya_rd (c_t_rows v21) 7 x2).bind fun v24 =>
          (ya_wr (c_t_rows v21) 7 x2 (v24 - (Int32.toInt64 x3))).bind fun v26 =>
          ya_lt (ya_up c_t_rows v21 v26) fun v28 =>
          (ya_ix 6 x2).bind fun v30 =>
          (ya_rd (v28 v30) 7 x1).bind fun v33 =>
          (ya_wr (v28 v30) 7 x1 (v33 - (Int32.toInt64 x3))).bind fun v35 =>
          ya_lt (ya_up v28 v30 v35) fun v37 =>
          some (v37, v7)))
    else
      (ya_ix 6 x2).bind fun v39 =>
      (ya_rd (c_t_rows v39) 7 x2).bind fun v42 =>
      (ya_wr (c_t_rows v39) 7 x2 (v42 + (Int32.toInt64 x3))).bind fun v44 =>
      ya_lt (ya_up c_t_rows v39 v44) fun v46 =>
      (fX0_hasRow c_t_heaps_least c_t_pieces_least x1).bind fun v48 =>
      (if v48 = 0 then
        some (v46, v7)
      else
        (fX0_hasRow c_t_heaps_least c_t_pieces_least x2).bind fun v51 =>
        (if v51 = 0 then
          some (v46, v7)
        else
          (ya_ix 6 x1).bind fun v54 =>
          (ya_rd (v46 v54) 7 x2).bind fun v57 =>
          (ya_wr (v46 v54) 7 x2 (v57 - (Int32.toInt64 x3))).bind fun v59 =>
          ya_lt (ya_up v46 v54 v59) fun v61 =>
          (ya_ix 6 x2).bind fun v63 =>
          (ya_rd (v61 v63) 7 x1).bind fun v66 =>
          (ya_wr (v61 v63) 7 x1 (v66 - (Int32.toInt64 x3))).bind fun v68 =>
          ya_lt (ya_up v61 v63 v68) fun v70 =>
          some (v70, v7))))
  else
    (ya_ix 6 x1).bind fun v72 =>
    (ya_rd (c_t_rows v72) 7 x1).bind fun v75 =>
    (ya_wr (c_t_rows v72) 7 x1 (v75 + (Int32.toInt64 x3))).bind fun v77 =>
    ya_lt (ya_up c_t_rows v72 v77) fun v79 =>
    (fX0_hasRow c_t_heaps_least c_t_pieces_least x2).bind fun v81 =>
    (if v81 = 0 then
      (fX0_hasRow c_t_heaps_least c_t_pieces_least x1).bind fun v84 =>
      (if v84 = 0 then
        some (v79, v7)
      else
        (fX0_hasRow c_t_heaps_least c_t_pieces_least x2).bind fun v87 =>
        (if v87 = 0 then
          some (v79, v7)
        else
          (ya_ix 6 x1).bind fun v90 =>
          (ya_rd (v79 v90) 7 x2).bind fun v93 =>
          (ya_wr (v79 v90) 7 x2 (v93 - (Int32.toInt64 x3))).bind fun v95 =>
          ya_lt (ya_up v79 v90 v95) fun v97 =>
          (ya_ix 6 x2).bind fun v99 =>
          (ya_rd (v97 v99) 7 x1).bind fun v102 =>
          (ya_wr (v97 v99) 7 x1 (v102 - (Int32.toInt64 x3))).bind fun v104 =>
          ya_lt (ya_up v97 v99 v104) fun v106 =>
          some (v106, v7)))
    else
      (ya_ix 6 x2).bind fun v108 =>
      (ya_rd (v79 v108) 7 x2).bind fun v111 =>
      (ya_wr (v79 v108) 7 x2 (v111 + (Int32.toInt64 x3))).bind fun v113 =>
      ya_lt (ya_up v79 v108 v113) fun v115 =>
      (fX0_hasRow c_t_heaps_least c_t_pieces_least x1).bind fun v117 =>
      (if v117 = 0 then
        some (v115, v7)
      else
        (fX0_hasRow c_t_heaps_least c_t_pieces_least x2).bind fun v120 =>
        (if v120 = 0 then
          some (v115, v7)
        else
          (ya_ix 6 x1).bind fun v123 =>
          (ya_rd (v115 v123) 7 x2).bind fun v126 =>
          (ya_wr (v115 v123) 7 x2 (v126 - (Int32.toInt64 x3))).bind fun v128 =>
          ya_lt (ya_up v115 v123 v128) fun v130 =>
          (ya_ix 6 x2).bind fun v132 =>
          (ya_rd (v130 v132) 7 x1).bind fun v135 =>
          (ya_wr (v130 v132) 7 x1 (v135 - (Int32.toInt64 x3))).bind fun v137 =>
          ya_lt (ya_up v130 v132 v137) fun v139 =>
          some (v139, v7)))))
theorem fX0_addMeter_29 : yF wsX0_addMeter RX0 29 0 4 RX0 TX0 7 := ⟨rfl, by decide, by decide +kernel, by decide +kernel⟩
theorem fX0_addMeter_26 : yF wsX0_addMeter RX0 26 0 3 RX0 TX0 7 := ⟨rfl, by decide, by decide +kernel, by decide +kernel⟩
abbrev rmX0_addMeter : Room := { frames := 1, cells := 0, slots := 0, locals := 21 }
theorem eX0_addMeter : yY yX0_addMeter wsX0_addMeter cX0_addMeter 5 none rmX0_addMeter 4 := ⟨⟨_, rfl⟩, rfl, rfl, by decide, by decide, by decide +kernel⟩
set_option maxHeartbeats 4000000 in
set_option maxRecDepth 100000 in
theorem mX0_addMeter {l : Launch} {D : va_G} {sz : Nat} {cI cJ cZ cW cR : ClassId} {h_t : Nat} {A_t : Nat → Nat} {A_t_heaps : Nat → Nat} {A_t_pieces : Nat → Nat} {A_t_rows : Nat → Nat} {c_t_unread : Int32} {c_t_below : Int64} {c_t_heaps_least : Nat → Int32} {c_t_pieces_least : Nat → Int32} {c_t_rows : Nat → Nat → Int64} {c_t_surplus : Nat → Int64} {x1 : Int32} {x2 : Int32} {x3 : Int32} {x4 : Int32} {zc_t_rows : Nat → Nat → Int64} {zc_t_surplus : Nat → Int64} (hf : fX0_addMeter c_t_heaps_least c_t_pieces_least c_t_rows c_t_surplus x1 x2 x3 x4 = some (zc_t_rows, zc_t_surplus)) : Met l yX0_addMeter wsX0_addMeter rmX0_addMeter (yP D (yT cI cJ cZ cW cR) [(h_t, oF A_t c_t_unread c_t_below), (A_t 0, oG A_t_heaps), (A_t_heaps 0, eI cI 6 c_t_heaps_least), (A_t 1, oG A_t_pieces), (A_t_pieces 0, eI cI 6 c_t_pieces_least), (A_t 3, eQ cR 6 A_t_rows), (A_t_rows 0, eJ cJ 7 (c_t_rows 0)), (A_t_rows 1, eJ cJ 7 (c_t_rows 1)), (A_t_rows 2, eJ cJ 7 (c_t_rows 2)), (A_t_rows 3, eJ cJ 7 (c_t_rows 3)), (A_t_rows 4, eJ cJ 7 (c_t_rows 4)), (A_t_rows 5, eJ cJ 7 (c_t_rows 5)), (A_t 4, eJ cJ 6 c_t_surplus)] sz [.ref h_t, .int x1, .int x2, .int x3, .int x4]) (yQv D (yT cI cJ cZ cW cR) [(h_t, oF A_t c_t_unread c_t_below), (A_t 0, oG A_t_heaps), (A_t_heaps 0, eI cI 6 c_t_heaps_least), (A_t 1, oG A_t_pieces), (A_t_pieces 0, eI cI 6 c_t_pieces_least), (A_t 3, eQ cR 6 A_t_rows), (A_t_rows 0, eJ cJ 7 (zc_t_rows 0)), (A_t_rows 1, eJ cJ 7 (zc_t_rows 1)), (A_t_rows 2, eJ cJ 7 (zc_t_rows 2)), (A_t_rows 3, eJ cJ 7 (zc_t_rows 3)), (A_t_rows 4, eJ cJ 7 (zc_t_rows 4)), (A_t_rows 5, eJ cJ 7 (zc_t_rows 5)), (A_t 4, eJ cJ 6 zc_t_surplus)] (va_A [(h_t, oF A_t c_t_unread c_t_below), (A_t 0, oG A_t_heaps), (A_t_heaps 0, eI cI 6 c_t_heaps_least), (A_t 1, oG A_t_pieces), (A_t_pieces 0, eI cI 6 c_t_pieces_least), (A_t 3, eQ cR 6 A_t_rows), (A_t_rows 0, eJ cJ 7 (c_t_rows 0)), (A_t_rows 1, eJ cJ 7 (c_t_rows 1)), (A_t_rows 2, eJ cJ 7 (c_t_rows 2)), (A_t_rows 3, eJ cJ 7 (c_t_rows 3)), (A_t_rows 4, eJ cJ 7 (c_t_rows 4)), (A_t_rows 5, eJ cJ 7 (c_t_rows 5)), (A_t 4, eJ cJ 6 c_t_surplus)] sz)) 0 0 (va_A [(h_t, oF A_t c_t_unread c_t_below), (A_t 0, oG A_t_heaps), (A_t_heaps 0, eI cI 6 c_t_heaps_least), (A_t 1, oG A_t_pieces), (A_t_pieces 0, eI cI 6 c_t_pieces_least), (A_t 3, eQ cR 6 A_t_rows), (A_t_rows 0, eJ cJ 7 (c_t_rows 0)), (A_t_rows 1, eJ cJ 7 (c_t_rows 1)), (A_t_rows 2, eJ cJ 7 (c_t_rows 2)), (A_t_rows 3, eJ cJ 7 (c_t_rows 3)), (A_t_rows 4, eJ cJ 7 (c_t_rows 4)), (A_t_rows 5, eJ cJ 7 (c_t_rows 5)), (A_t 4, eJ cJ 6 c_t_surplus)] sz) := by
  refine yM (cc := cX0_addMeter) (maxL := 5) (ret := none) RX0 (by decide) rfl rfl (Nat.le_of_ble_eq_true rfl) ?_
  intro p e s m below meth c Γ hr
  show yG p l e (headSpec wsX0_addMeter rmX0_addMeter).room s m (List.toArray [.ref h_t, .int x1, .int x2, .int x3, .int x4]) below meth c D (va_A [(h_t, oF A_t c_t_unread c_t_below), (A_t 0, oG A_t_heaps), (A_t_heaps 0, eI cI 6 c_t_heaps_least), (A_t 1, oG A_t_pieces), (A_t_pieces 0, eI cI 6 c_t_pieces_least), (A_t 3, eQ cR 6 A_t_rows), (A_t_rows 0, eJ cJ 7 (c_t_rows 0)), (A_t_rows 1, eJ cJ 7 (c_t_rows 1)), (A_t_rows 2, eJ cJ 7 (c_t_rows 2)), (A_t_rows 3, eJ cJ 7 (c_t_rows 3)), (A_t_rows 4, eJ cJ 7 (c_t_rows 4)), (A_t_rows 5, eJ cJ 7 (c_t_rows 5)), (A_t 4, eJ cJ 6 c_t_surplus)] sz) 5 0 0 (MQ below (yQv D (yT cI cJ cZ cW cR) [(h_t, oF A_t c_t_unread c_t_below), (A_t 0, oG A_t_heaps), (A_t_heaps 0, eI cI 6 c_t_heaps_least), (A_t 1, oG A_t_pieces), (A_t_pieces 0, eI cI 6 c_t_pieces_least), (A_t 3, eQ cR 6 A_t_rows), (A_t_rows 0, eJ cJ 7 (zc_t_rows 0)), (A_t_rows 1, eJ cJ 7 (zc_t_rows 1)), (A_t_rows 2, eJ cJ 7 (zc_t_rows 2)), (A_t_rows 3, eJ cJ 7 (zc_t_rows 3)), (A_t_rows 4, eJ cJ 7 (zc_t_rows 4)), (A_t_rows 5, eJ cJ 7 (zc_t_rows 5)), (A_t 4, eJ cJ 6 zc_t_surplus)] (va_A [(h_t, oF A_t c_t_unread c_t_below), (A_t 0, oG A_t_heaps), (A_t_heaps 0, eI cI 6 c_t_heaps_least), (A_t 1, oG A_t_pieces), (A_t_pieces 0, eI cI 6 c_t_pieces_least), (A_t 3, eQ cR 6 A_t_rows), (A_t_rows 0, eJ cJ 7 (c_t_rows 0)), (A_t_rows 1, eJ cJ 7 (c_t_rows 1)), (A_t_rows 2, eJ cJ 7 (c_t_rows 2)), (A_t_rows 3, eJ cJ 7 (c_t_rows 3)), (A_t_rows 4, eJ cJ 7 (c_t_rows 4)), (A_t_rows 5, eJ cJ 7 (c_t_rows 5)), (A_t 4, eJ cJ 6 c_t_surplus)] sz)) (List.toArray [.ref h_t, .int x1, .int x2, .int x3, .int x4]) s 0 0 (va_A [(h_t, oF A_t c_t_unread c_t_below), (A_t 0, oG A_t_heaps), (A_t_heaps 0, eI cI 6 c_t_heaps_least), (A_t 1, oG A_t_pieces), (A_t_pieces 0, eI cI 6 c_t_pieces_least), (A_t 3, eQ cR 6 A_t_rows), (A_t_rows 0, eJ cJ 7 (c_t_rows 0)), (A_t_rows 1, eJ cJ 7 (c_t_rows 1)), (A_t_rows 2, eJ cJ 7 (c_t_rows 2)), (A_t_rows 3, eJ cJ 7 (c_t_rows 3)), (A_t_rows 4, eJ cJ 7 (c_t_rows 4)), (A_t_rows 5, eJ cJ 7 (c_t_rows 5)), (A_t 4, eJ cJ 6 c_t_surplus)] sz)) 0 [(0, .ref h_t), (1, .int x1), (2, .int x2), (3, .int x3), (4, .int x4)] [] [(h_t, oF A_t c_t_unread c_t_below), (A_t 0, oG A_t_heaps), (A_t_heaps 0, eI cI 6 c_t_heaps_least), (A_t 1, oG A_t_pieces), (A_t_pieces 0, eI cI 6 c_t_pieces_least), (A_t 3, eQ cR 6 A_t_rows), (A_t_rows 0, eJ cJ 7 (c_t_rows 0)), (A_t_rows 1, eJ cJ 7 (c_t_rows 1)), (A_t_rows 2, eJ cJ 7 (c_t_rows 2)), (A_t_rows 3, eJ cJ 7 (c_t_rows 3)), (A_t_rows 4, eJ cJ 7 (c_t_rows 4)), (A_t_rows 5, eJ cJ 7 (c_t_rows 5)), (A_t 4, eJ cJ 6 c_t_surplus)]
  unfold fX0_addMeter at hf
  refine g_aload_n Γ 0 dX0_addMeter_0 rfl ?_
  refine g_get Γ fX0_addMeter_29 0 rfl rfl dX0_addMeter_1 ?_
  refine g_iload_n Γ 1 dX0_addMeter_4 rfl ?_
  refine g_dup2 Γ dX0_addMeter_5 rfl rfl ?_
  obtain ⟨v1, e2, hf⟩ := ya_ob hf
  refine g_lald Γ e2 12 1 rfl rfl dX0_addMeter_6 ?_
  refine g_iload Γ 4 dX0_addMeter_7 rfl ?_
  refine g_i2l Γ dX0_addMeter_9 ?_
  refine g_lsub Γ dX0_addMeter_10 ?_
  obtain ⟨v3, e4, hf⟩ := ya_ob hf
  refine g_last (ws' := [(h_t, oF A_t c_t_unread c_t_below), (A_t 0, oG A_t_heaps), (A_t_heaps 0, eI cI 6 c_t_heaps_least), (A_t 1, oG A_t_pieces), (A_t_pieces 0, eI cI 6 c_t_pieces_least), (A_t 3, eQ cR 6 A_t_rows), (A_t_rows 0, eJ cJ 7 (c_t_rows 0)), (A_t_rows 1, eJ cJ 7 (c_t_rows 1)), (A_t_rows 2, eJ cJ 7 (c_t_rows 2)), (A_t_rows 3, eJ cJ 7 (c_t_rows 3)), (A_t_rows 4, eJ cJ 7 (c_t_rows 4)), (A_t_rows 5, eJ cJ 7 (c_t_rows 5)), (A_t 4, eJ cJ 6 v3)]) Γ e4 12 1 rfl rfl dX0_addMeter_11 rfl ?_
  refine g_aload_n Γ 0 dX0_addMeter_12 rfl ?_
  refine g_get Γ fX0_addMeter_29 0 rfl rfl dX0_addMeter_13 ?_
  refine g_iload_n Γ 2 dX0_addMeter_16 rfl ?_
  refine g_dup2 Γ dX0_addMeter_17 rfl rfl ?_
  obtain ⟨v5, e6, hf⟩ := ya_ob hf
  refine g_lald Γ e6 12 1 rfl rfl dX0_addMeter_18 ?_
  refine g_iload Γ 4 dX0_addMeter_19 rfl ?_
  refine g_i2l Γ dX0_addMeter_21 ?_
  refine g_ladd Γ dX0_addMeter_22 ?_
  obtain ⟨v7, e8, hf⟩ := ya_ob hf
  refine g_last (ws' := [(h_t, oF A_t c_t_unread c_t_below), (A_t 0, oG A_t_heaps), (A_t_heaps 0, eI cI 6 c_t_heaps_least), (A_t 1, oG A_t_pieces), (A_t_pieces 0, eI cI 6 c_t_pieces_least), (A_t 3, eQ cR 6 A_t_rows), (A_t_rows 0, eJ cJ 7 (c_t_rows 0)), (A_t_rows 1, eJ cJ 7 (c_t_rows 1)), (A_t_rows 2, eJ cJ 7 (c_t_rows 2)), (A_t_rows 3, eJ cJ 7 (c_t_rows 3)), (A_t_rows 4, eJ cJ 7 (c_t_rows 4)), (A_t_rows 5, eJ cJ 7 (c_t_rows 5)), (A_t 4, eJ cJ 6 v7)]) Γ e8 12 1 rfl rfl dX0_addMeter_23 rfl ?_
  refine g_aload_n Γ 0 dX0_addMeter_24 rfl ?_
  refine g_iload_n Γ 1 dX0_addMeter_25 rfl ?_
  obtain ⟨v9, e10, hf⟩ := ya_ob hf
  refine g_vi (q := (RX0, TX0, 7)) (wr := [(A_t 3, eQ cR 6 A_t_rows), (A_t_rows 0, eJ cJ 7 (c_t_rows 0)), (A_t_rows 1, eJ cJ 7 (c_t_rows 1)), (A_t_rows 2, eJ cJ 7 (c_t_rows 2)), (A_t_rows 3, eJ cJ 7 (c_t_rows 3)), (A_t_rows 4, eJ cJ 7 (c_t_rows 4)), (A_t_rows 5, eJ cJ 7 (c_t_rows 5)), (A_t 4, eJ cJ 6 v7)]) (ws' := [(A_t 3, eQ cR 6 A_t_rows), (A_t_rows 0, eJ cJ 7 (c_t_rows 0)), (A_t_rows 1, eJ cJ 7 (c_t_rows 1)), (A_t_rows 2, eJ cJ 7 (c_t_rows 2)), (A_t_rows 3, eJ cJ 7 (c_t_rows 3)), (A_t_rows 4, eJ cJ 7 (c_t_rows 4)), (A_t_rows 5, eJ cJ 7 (c_t_rows 5)), (A_t 4, eJ cJ 6 v7), (h_t, oF A_t c_t_unread c_t_below), (A_t 0, oG A_t_heaps), (A_t_heaps 0, eI cI 6 c_t_heaps_least), (A_t 1, oG A_t_pieces), (A_t_pieces 0, eI cI 6 c_t_pieces_least)]) Γ (fun sz => mX0_hasRow (l := l) (D := D) (sz := sz) (cI := cI) (cJ := cJ) (cZ := cZ) (cW := cW) (cR := cR) (h_t := h_t) (A_t := A_t) (A_t_heaps := A_t_heaps) (A_t_pieces := A_t_pieces) (hf := e10)) eX0_hasRow gX0_addMeter_X0_hasRow rfl rfl 0 rfl rfl rfl (Nat.le_of_ble_eq_true rfl) ⟨Nat.le_of_ble_eq_true rfl, Nat.le_of_ble_eq_true rfl⟩ dX0_addMeter_26 [0, 1, 2, 3, 4] [5, 6, 7, 8, 9, 10, 11, 12] rfl rfl rfl rfl (by decide) rfl ?_
  refine g_if_eq Γ 45 dX0_addMeter_29 (by decide) (fun c11 => ?_) (fun c11 => ?_)
  · have hf := ya_if1 c11 hf
    refine g_aload_n Γ 0 dX0_addMeter_45 rfl ?_
    refine g_iload_n Γ 2 dX0_addMeter_46 rfl ?_
    obtain ⟨v12, e13, hf⟩ := ya_ob hf
    refine g_vi (q := (RX0, TX0, 7)) (wr := [(A_t 3, eQ cR 6 A_t_rows), (A_t_rows 0, eJ cJ 7 (c_t_rows 0)), (A_t_rows 1, eJ cJ 7 (c_t_rows 1)), (A_t_rows 2, eJ cJ 7 (c_t_rows 2)), (A_t_rows 3, eJ cJ 7 (c_t_rows 3)), (A_t_rows 4, eJ cJ 7 (c_t_rows 4)), (A_t_rows 5, eJ cJ 7 (c_t_rows 5)), (A_t 4, eJ cJ 6 v7)]) (ws' := [(A_t 3, eQ cR 6 A_t_rows), (A_t_rows 0, eJ cJ 7 (c_t_rows 0)), (A_t_rows 1, eJ cJ 7 (c_t_rows 1)), (A_t_rows 2, eJ cJ 7 (c_t_rows 2)), (A_t_rows 3, eJ cJ 7 (c_t_rows 3)), (A_t_rows 4, eJ cJ 7 (c_t_rows 4)), (A_t_rows 5, eJ cJ 7 (c_t_rows 5)), (A_t 4, eJ cJ 6 v7), (h_t, oF A_t c_t_unread c_t_below), (A_t 0, oG A_t_heaps), (A_t_heaps 0, eI cI 6 c_t_heaps_least), (A_t 1, oG A_t_pieces), (A_t_pieces 0, eI cI 6 c_t_pieces_least)]) Γ (fun sz => mX0_hasRow (l := l) (D := D) (sz := sz) (cI := cI) (cJ := cJ) (cZ := cZ) (cW := cW) (cR := cR) (h_t := h_t) (A_t := A_t) (A_t_heaps := A_t_heaps) (A_t_pieces := A_t_pieces) (hf := e13)) eX0_hasRow gX0_addMeter_X0_hasRow rfl rfl 0 rfl rfl rfl (Nat.le_of_ble_eq_true rfl) ⟨Nat.le_of_ble_eq_true rfl, Nat.le_of_ble_eq_true rfl⟩ dX0_addMeter_47 [8, 9, 10, 11, 12] [0, 1, 2, 3, 4, 5, 6, 7] rfl rfl rfl rfl (by decide) rfl ?_
    refine g_if_eq Γ 66 dX0_addMeter_50 (by decide) (fun c14 => ?_) (fun c14 => ?_)
    · have hf := ya_if1 c14 hf
      refine g_aload_n Γ 0 dX0_addMeter_66 rfl ?_
      refine g_iload_n Γ 1 dX0_addMeter_67 rfl ?_
      obtain ⟨v15, e16, hf⟩ := ya_ob hf
      refine g_vi (q := (RX0, TX0, 7)) (wr := [(A_t 3, eQ cR 6 A_t_rows), (A_t_rows 0, eJ cJ 7 (c_t_rows 0)), (A_t_rows 1, eJ cJ 7 (c_t_rows 1)), (A_t_rows 2, eJ cJ 7 (c_t_rows 2)), (A_t_rows 3, eJ cJ 7 (c_t_rows 3)), (A_t_rows 4, eJ cJ 7 (c_t_rows 4)), (A_t_rows 5, eJ cJ 7 (c_t_rows 5)), (A_t 4, eJ cJ 6 v7)]) (ws' := [(A_t 3, eQ cR 6 A_t_rows), (A_t_rows 0, eJ cJ 7 (c_t_rows 0)), (A_t_rows 1, eJ cJ 7 (c_t_rows 1)), (A_t_rows 2, eJ cJ 7 (c_t_rows 2)), (A_t_rows 3, eJ cJ 7 (c_t_rows 3)), (A_t_rows 4, eJ cJ 7 (c_t_rows 4)), (A_t_rows 5, eJ cJ 7 (c_t_rows 5)), (A_t 4, eJ cJ 6 v7), (h_t, oF A_t c_t_unread c_t_below), (A_t 0, oG A_t_heaps), (A_t_heaps 0, eI cI 6 c_t_heaps_least), (A_t 1, oG A_t_pieces), (A_t_pieces 0, eI cI 6 c_t_pieces_least)]) Γ (fun sz => mX0_hasRow (l := l) (D := D) (sz := sz) (cI := cI) (cJ := cJ) (cZ := cZ) (cW := cW) (cR := cR) (h_t := h_t) (A_t := A_t) (A_t_heaps := A_t_heaps) (A_t_pieces := A_t_pieces) (hf := e16)) eX0_hasRow gX0_addMeter_X0_hasRow rfl rfl 0 rfl rfl rfl (Nat.le_of_ble_eq_true rfl) ⟨Nat.le_of_ble_eq_true rfl, Nat.le_of_ble_eq_true rfl⟩ dX0_addMeter_68 [8, 9, 10, 11, 12] [0, 1, 2, 3, 4, 5, 6, 7] rfl rfl rfl rfl (by decide) rfl ?_
      refine g_if_eq Γ 108 dX0_addMeter_71 (by decide) (fun c17 => ?_) (fun c17 => ?_)
      · have hf := ya_if1 c17 hf
        cases hf
        exact g_vret Γ hr dX0_addMeter_108 [8, 9, 10, 11, 12, 0, 1, 2, 3, 4, 5, 6, 7] rfl rfl
      · have hf := ya_if2 c17 hf
        refine g_aload_n Γ 0 dX0_addMeter_74 rfl ?_
        refine g_iload_n Γ 2 dX0_addMeter_75 rfl ?_
        obtain ⟨v18, e19, hf⟩ := ya_ob hf
        refine g_vi (q := (RX0, TX0, 7)) (wr := [(A_t 3, eQ cR 6 A_t_rows), (A_t_rows 0, eJ cJ 7 (c_t_rows 0)), (A_t_rows 1, eJ cJ 7 (c_t_rows 1)), (A_t_rows 2, eJ cJ 7 (c_t_rows 2)), (A_t_rows 3, eJ cJ 7 (c_t_rows 3)), (A_t_rows 4, eJ cJ 7 (c_t_rows 4)), (A_t_rows 5, eJ cJ 7 (c_t_rows 5)), (A_t 4, eJ cJ 6 v7)]) (ws' := [(A_t 3, eQ cR 6 A_t_rows), (A_t_rows 0, eJ cJ 7 (c_t_rows 0)), (A_t_rows 1, eJ cJ 7 (c_t_rows 1)), (A_t_rows 2, eJ cJ 7 (c_t_rows 2)), (A_t_rows 3, eJ cJ 7 (c_t_rows 3)), (A_t_rows 4, eJ cJ 7 (c_t_rows 4)), (A_t_rows 5, eJ cJ 7 (c_t_rows 5)), (A_t 4, eJ cJ 6 v7), (h_t, oF A_t c_t_unread c_t_below), (A_t 0, oG A_t_heaps), (A_t_heaps 0, eI cI 6 c_t_heaps_least), (A_t 1, oG A_t_pieces), (A_t_pieces 0, eI cI 6 c_t_pieces_least)]) Γ (fun sz => mX0_hasRow (l := l) (D := D) (sz := sz) (cI := cI) (cJ := cJ) (cZ := cZ) (cW := cW) (cR := cR) (h_t := h_t) (A_t := A_t) (A_t_heaps := A_t_heaps) (A_t_pieces := A_t_pieces) (hf := e19)) eX0_hasRow gX0_addMeter_X0_hasRow rfl rfl 0 rfl rfl rfl (Nat.le_of_ble_eq_true rfl) ⟨Nat.le_of_ble_eq_true rfl, Nat.le_of_ble_eq_true rfl⟩ dX0_addMeter_76 [8, 9, 10, 11, 12] [0, 1, 2, 3, 4, 5, 6, 7] rfl rfl rfl rfl (by decide) rfl ?_
        refine g_if_eq Γ 108 dX0_addMeter_79 (by decide) (fun c20 => ?_) (fun c20 => ?_)
        · have hf := ya_if1 c20 hf
          cases hf
          exact g_vret Γ hr dX0_addMeter_108 [8, 9, 10, 11, 12, 0, 1, 2, 3, 4, 5, 6, 7] rfl rfl
        · have hf := ya_if2 c20 hf
          refine g_aload_n Γ 0 dX0_addMeter_82 rfl ?_
          refine g_get Γ fX0_addMeter_26 8 rfl rfl dX0_addMeter_83 ?_
          refine g_iload_n Γ 1 dX0_addMeter_86 rfl ?_
          obtain ⟨v21, e22, hf⟩ := ya_ob hf
          have h23 := ya_ix_lt e22
          refine g_aldR Γ e22 0 4 rfl rfl dX0_addMeter_87 ?_
          refine g_iload_n Γ 2 dX0_addMeter_88 rfl ?_
          refine g_dup2 Γ dX0_addMeter_89 rfl rfl ?_
          obtain ⟨v24, e25, hf⟩ := ya_ob hf
          refine g_laldR (M := c_t_rows) Γ e25 h23 1 1 (ya_six rfl rfl rfl rfl rfl rfl) rfl dX0_addMeter_90 ?_
          refine g_iload_n Γ 3 dX0_addMeter_91 rfl ?_
          refine g_i2l Γ dX0_addMeter_92 ?_
          refine g_lsub Γ dX0_addMeter_93 ?_
          obtain ⟨v26, e27, hf⟩ := ya_ob hf
          obtain ⟨v28, e29, hf⟩ := ya_lt_inv hf
          refine g_lastR (M := c_t_rows) (ws' := [(A_t 3, eQ cR 6 A_t_rows), (A_t_rows 0, eJ cJ 7 (v28 0)), (A_t_rows 1, eJ cJ 7 (v28 1)), (A_t_rows 2, eJ cJ 7 (v28 2)), (A_t_rows 3, eJ cJ 7 (v28 3)), (A_t_rows 4, eJ cJ 7 (v28 4)), (A_t_rows 5, eJ cJ 7 (v28 5)), (A_t 4, eJ cJ 6 v7), (h_t, oF A_t c_t_unread c_t_below), (A_t 0, oG A_t_heaps), (A_t_heaps 0, eI cI 6 c_t_heaps_least), (A_t 1, oG A_t_pieces), (A_t_pieces 0, eI cI 6 c_t_pieces_least)]) Γ e27 h23 1 1 (ya_six rfl rfl rfl rfl rfl rfl) rfl dX0_addMeter_94 (fun h => by subst e29 h; rfl) (fun h => by subst e29 h; rfl) (fun h => by subst e29 h; rfl) (fun h => by subst e29 h; rfl) (fun h => by subst e29 h; rfl) (fun h => by subst e29 h; rfl) ?_
          refine g_aload_n Γ 0 dX0_addMeter_95 rfl ?_
          refine g_get Γ fX0_addMeter_26 8 rfl rfl dX0_addMeter_96 ?_
          refine g_iload_n Γ 2 dX0_addMeter_99 rfl ?_
          obtain ⟨v30, e31, hf⟩ := ya_ob hf
          have h32 := ya_ix_lt e31
          refine g_aldR Γ e31 0 4 rfl rfl dX0_addMeter_100 ?_
          refine g_iload_n Γ 1 dX0_addMeter_101 rfl ?_
          refine g_dup2 Γ dX0_addMeter_102 rfl rfl ?_
          obtain ⟨v33, e34, hf⟩ := ya_ob hf
          refine g_laldR (M := v28) Γ e34 h32 1 1 (ya_six rfl rfl rfl rfl rfl rfl) rfl dX0_addMeter_103 ?_
          refine g_iload_n Γ 3 dX0_addMeter_104 rfl ?_
          refine g_i2l Γ dX0_addMeter_105 ?_
          refine g_lsub Γ dX0_addMeter_106 ?_
          obtain ⟨v35, e36, hf⟩ := ya_ob hf
          obtain ⟨v37, e38, hf⟩ := ya_lt_inv hf
          refine g_lastR (M := v28) (ws' := [(A_t 3, eQ cR 6 A_t_rows), (A_t_rows 0, eJ cJ 7 (v37 0)), (A_t_rows 1, eJ cJ 7 (v37 1)), (A_t_rows 2, eJ cJ 7 (v37 2)), (A_t_rows 3, eJ cJ 7 (v37 3)), (A_t_rows 4, eJ cJ 7 (v37 4)), (A_t_rows 5, eJ cJ 7 (v37 5)), (A_t 4, eJ cJ 6 v7), (h_t, oF A_t c_t_unread c_t_below), (A_t 0, oG A_t_heaps), (A_t_heaps 0, eI cI 6 c_t_heaps_least), (A_t 1, oG A_t_pieces), (A_t_pieces 0, eI cI 6 c_t_pieces_least)]) Γ e36 h32 1 1 (ya_six rfl rfl rfl rfl rfl rfl) rfl dX0_addMeter_107 (fun h => by subst e38 h; rfl) (fun h => by subst e38 h; rfl) (fun h => by subst e38 h; rfl) (fun h => by subst e38 h; rfl) (fun h => by subst e38 h; rfl) (fun h => by subst e38 h; rfl) ?_
          cases hf
          exact g_vret Γ hr dX0_addMeter_108 [8, 9, 10, 11, 12, 0, 1, 2, 3, 4, 5, 6, 7] rfl rfl
    · have hf := ya_if2 c14 hf
      refine g_aload_n Γ 0 dX0_addMeter_53 rfl ?_
      refine g_get Γ fX0_addMeter_26 8 rfl rfl dX0_addMeter_54 ?_
      refine g_iload_n Γ 2 dX0_addMeter_57 rfl ?_
      obtain ⟨v39, e40, hf⟩ := ya_ob hf
      have h41 := ya_ix_lt e40
      refine g_aldR Γ e40 0 4 rfl rfl dX0_addMeter_58 ?_
      refine g_iload_n Γ 2 dX0_addMeter_59 rfl ?_
      refine g_dup2 Γ dX0_addMeter_60 rfl rfl ?_
      obtain ⟨v42, e43, hf⟩ := ya_ob hf
      refine g_laldR (M := c_t_rows) Γ e43 h41 1 1 (ya_six rfl rfl rfl rfl rfl rfl) rfl dX0_addMeter_61 ?_
      refine g_iload_n Γ 3 dX0_addMeter_62 rfl ?_
      refine g_i2l Γ dX0_addMeter_63 ?_
      refine g_ladd Γ dX0_addMeter_64 ?_
      obtain ⟨v44, e45, hf⟩ := ya_ob hf
      obtain ⟨v46, e47, hf⟩ := ya_lt_inv hf
      refine g_lastR (M := c_t_rows) (ws' := [(A_t 3, eQ cR 6 A_t_rows), (A_t_rows 0, eJ cJ 7 (v46 0)), (A_t_rows 1, eJ cJ 7 (v46 1)), (A_t_rows 2, eJ cJ 7 (v46 2)), (A_t_rows 3, eJ cJ 7 (v46 3)), (A_t_rows 4, eJ cJ 7 (v46 4)), (A_t_rows 5, eJ cJ 7 (v46 5)), (A_t 4, eJ cJ 6 v7), (h_t, oF A_t c_t_unread c_t_below), (A_t 0, oG A_t_heaps), (A_t_heaps 0, eI cI 6 c_t_heaps_least), (A_t 1, oG A_t_pieces), (A_t_pieces 0, eI cI 6 c_t_pieces_least)]) Γ e45 h41 1 1 (ya_six rfl rfl rfl rfl rfl rfl) rfl dX0_addMeter_65 (fun h => by subst e47 h; rfl) (fun h => by subst e47 h; rfl) (fun h => by subst e47 h; rfl) (fun h => by subst e47 h; rfl) (fun h => by subst e47 h; rfl) (fun h => by subst e47 h; rfl) ?_
      refine g_aload_n Γ 0 dX0_addMeter_66 rfl ?_
      refine g_iload_n Γ 1 dX0_addMeter_67 rfl ?_
      obtain ⟨v48, e49, hf⟩ := ya_ob hf
      refine g_vi (q := (RX0, TX0, 7)) (wr := [(A_t 3, eQ cR 6 A_t_rows), (A_t_rows 0, eJ cJ 7 (v46 0)), (A_t_rows 1, eJ cJ 7 (v46 1)), (A_t_rows 2, eJ cJ 7 (v46 2)), (A_t_rows 3, eJ cJ 7 (v46 3)), (A_t_rows 4, eJ cJ 7 (v46 4)), (A_t_rows 5, eJ cJ 7 (v46 5)), (A_t 4, eJ cJ 6 v7)]) (ws' := [(A_t 3, eQ cR 6 A_t_rows), (A_t_rows 0, eJ cJ 7 (v46 0)), (A_t_rows 1, eJ cJ 7 (v46 1)), (A_t_rows 2, eJ cJ 7 (v46 2)), (A_t_rows 3, eJ cJ 7 (v46 3)), (A_t_rows 4, eJ cJ 7 (v46 4)), (A_t_rows 5, eJ cJ 7 (v46 5)), (A_t 4, eJ cJ 6 v7), (h_t, oF A_t c_t_unread c_t_below), (A_t 0, oG A_t_heaps), (A_t_heaps 0, eI cI 6 c_t_heaps_least), (A_t 1, oG A_t_pieces), (A_t_pieces 0, eI cI 6 c_t_pieces_least)]) Γ (fun sz => mX0_hasRow (l := l) (D := D) (sz := sz) (cI := cI) (cJ := cJ) (cZ := cZ) (cW := cW) (cR := cR) (h_t := h_t) (A_t := A_t) (A_t_heaps := A_t_heaps) (A_t_pieces := A_t_pieces) (hf := e49)) eX0_hasRow gX0_addMeter_X0_hasRow rfl rfl 0 rfl rfl rfl (Nat.le_of_ble_eq_true rfl) ⟨Nat.le_of_ble_eq_true rfl, Nat.le_of_ble_eq_true rfl⟩ dX0_addMeter_68 [8, 9, 10, 11, 12] [0, 1, 2, 3, 4, 5, 6, 7] rfl rfl rfl rfl (by decide) rfl ?_
      refine g_if_eq Γ 108 dX0_addMeter_71 (by decide) (fun c50 => ?_) (fun c50 => ?_)
      · have hf := ya_if1 c50 hf
        cases hf
        exact g_vret Γ hr dX0_addMeter_108 [8, 9, 10, 11, 12, 0, 1, 2, 3, 4, 5, 6, 7] rfl rfl
      · have hf := ya_if2 c50 hf
        refine g_aload_n Γ 0 dX0_addMeter_74 rfl ?_
        refine g_iload_n Γ 2 dX0_addMeter_75 rfl ?_
        obtain ⟨v51, e52, hf⟩ := ya_ob hf
        refine g_vi (q := (RX0, TX0, 7)) (wr := [(A_t 3, eQ cR 6 A_t_rows), (A_t_rows 0, eJ cJ 7 (v46 0)), (A_t_rows 1, eJ cJ 7 (v46 1)), (A_t_rows 2, eJ cJ 7 (v46 2)), (A_t_rows 3, eJ cJ 7 (v46 3)), (A_t_rows 4, eJ cJ 7 (v46 4)), (A_t_rows 5, eJ cJ 7 (v46 5)), (A_t 4, eJ cJ 6 v7)]) (ws' := [(A_t 3, eQ cR 6 A_t_rows), (A_t_rows 0, eJ cJ 7 (v46 0)), (A_t_rows 1, eJ cJ 7 (v46 1)), (A_t_rows 2, eJ cJ 7 (v46 2)), (A_t_rows 3, eJ cJ 7 (v46 3)), (A_t_rows 4, eJ cJ 7 (v46 4)), (A_t_rows 5, eJ cJ 7 (v46 5)), (A_t 4, eJ cJ 6 v7), (h_t, oF A_t c_t_unread c_t_below), (A_t 0, oG A_t_heaps), (A_t_heaps 0, eI cI 6 c_t_heaps_least), (A_t 1, oG A_t_pieces), (A_t_pieces 0, eI cI 6 c_t_pieces_least)]) Γ (fun sz => mX0_hasRow (l := l) (D := D) (sz := sz) (cI := cI) (cJ := cJ) (cZ := cZ) (cW := cW) (cR := cR) (h_t := h_t) (A_t := A_t) (A_t_heaps := A_t_heaps) (A_t_pieces := A_t_pieces) (hf := e52)) eX0_hasRow gX0_addMeter_X0_hasRow rfl rfl 0 rfl rfl rfl (Nat.le_of_ble_eq_true rfl) ⟨Nat.le_of_ble_eq_true rfl, Nat.le_of_ble_eq_true rfl⟩ dX0_addMeter_76 [8, 9, 10, 11, 12] [0, 1, 2, 3, 4, 5, 6, 7] rfl rfl rfl rfl (by decide) rfl ?_
        refine g_if_eq Γ 108 dX0_addMeter_79 (by decide) (fun c53 => ?_) (fun c53 => ?_)
        · have hf := ya_if1 c53 hf
          cases hf
          exact g_vret Γ hr dX0_addMeter_108 [8, 9, 10, 11, 12, 0, 1, 2, 3, 4, 5, 6, 7] rfl rfl
        · have hf := ya_if2 c53 hf
          refine g_aload_n Γ 0 dX0_addMeter_82 rfl ?_
          refine g_get Γ fX0_addMeter_26 8 rfl rfl dX0_addMeter_83 ?_
          refine g_iload_n Γ 1 dX0_addMeter_86 rfl ?_
          obtain ⟨v54, e55, hf⟩ := ya_ob hf
          have h56 := ya_ix_lt e55
          refine g_aldR Γ e55 0 4 rfl rfl dX0_addMeter_87 ?_
          refine g_iload_n Γ 2 dX0_addMeter_88 rfl ?_
          refine g_dup2 Γ dX0_addMeter_89 rfl rfl ?_
          obtain ⟨v57, e58, hf⟩ := ya_ob hf
          refine g_laldR (M := v46) Γ e58 h56 1 1 (ya_six rfl rfl rfl rfl rfl rfl) rfl dX0_addMeter_90 ?_
          refine g_iload_n Γ 3 dX0_addMeter_91 rfl ?_
          refine g_i2l Γ dX0_addMeter_92 ?_
          refine g_lsub Γ dX0_addMeter_93 ?_
          obtain ⟨v59, e60, hf⟩ := ya_ob hf
          obtain ⟨v61, e62, hf⟩ := ya_lt_inv hf
          refine g_lastR (M := v46) (ws' := [(A_t 3, eQ cR 6 A_t_rows), (A_t_rows 0, eJ cJ 7 (v61 0)), (A_t_rows 1, eJ cJ 7 (v61 1)), (A_t_rows 2, eJ cJ 7 (v61 2)), (A_t_rows 3, eJ cJ 7 (v61 3)), (A_t_rows 4, eJ cJ 7 (v61 4)), (A_t_rows 5, eJ cJ 7 (v61 5)), (A_t 4, eJ cJ 6 v7), (h_t, oF A_t c_t_unread c_t_below), (A_t 0, oG A_t_heaps), (A_t_heaps 0, eI cI 6 c_t_heaps_least), (A_t 1, oG A_t_pieces), (A_t_pieces 0, eI cI 6 c_t_pieces_least)]) Γ e60 h56 1 1 (ya_six rfl rfl rfl rfl rfl rfl) rfl dX0_addMeter_94 (fun h => by subst e62 h; rfl) (fun h => by subst e62 h; rfl) (fun h => by subst e62 h; rfl) (fun h => by subst e62 h; rfl) (fun h => by subst e62 h; rfl) (fun h => by subst e62 h; rfl) ?_
          refine g_aload_n Γ 0 dX0_addMeter_95 rfl ?_
          refine g_get Γ fX0_addMeter_26 8 rfl rfl dX0_addMeter_96 ?_
          refine g_iload_n Γ 2 dX0_addMeter_99 rfl ?_
          obtain ⟨v63, e64, hf⟩ := ya_ob hf
          have h65 := ya_ix_lt e64
          refine g_aldR Γ e64 0 4 rfl rfl dX0_addMeter_100 ?_
          refine g_iload_n Γ 1 dX0_addMeter_101 rfl ?_
          refine g_dup2 Γ dX0_addMeter_102 rfl rfl ?_
          obtain ⟨v66, e67, hf⟩ := ya_ob hf
          refine g_laldR (M := v61) Γ e67 h65 1 1 (ya_six rfl rfl rfl rfl rfl rfl) rfl dX0_addMeter_103 ?_
          refine g_iload_n Γ 3 dX0_addMeter_104 rfl ?_
          refine g_i2l Γ dX0_addMeter_105 ?_
          refine g_lsub Γ dX0_addMeter_106 ?_
          obtain ⟨v68, e69, hf⟩ := ya_ob hf
          obtain ⟨v70, e71, hf⟩ := ya_lt_inv hf
          refine g_lastR (M := v61) (ws' := [(A_t 3, eQ cR 6 A_t_rows), (A_t_rows 0, eJ cJ 7 (v70 0)), (A_t_rows 1, eJ cJ 7 (v70 1)), (A_t_rows 2, eJ cJ 7 (v70 2)), (A_t_rows 3, eJ cJ 7 (v70 3)), (A_t_rows 4, eJ cJ 7 (v70 4)), (A_t_rows 5, eJ cJ 7 (v70 5)), (A_t 4, eJ cJ 6 v7), (h_t, oF A_t c_t_unread c_t_below), (A_t 0, oG A_t_heaps), (A_t_heaps 0, eI cI 6 c_t_heaps_least), (A_t 1, oG A_t_pieces), (A_t_pieces 0, eI cI 6 c_t_pieces_least)]) Γ e69 h65 1 1 (ya_six rfl rfl rfl rfl rfl rfl) rfl dX0_addMeter_107 (fun h => by subst e71 h; rfl) (fun h => by subst e71 h; rfl) (fun h => by subst e71 h; rfl) (fun h => by subst e71 h; rfl) (fun h => by subst e71 h; rfl) (fun h => by subst e71 h; rfl) ?_
          cases hf
          exact g_vret Γ hr dX0_addMeter_108 [8, 9, 10, 11, 12, 0, 1, 2, 3, 4, 5, 6, 7] rfl rfl
  · have hf := ya_if2 c11 hf
    refine g_aload_n Γ 0 dX0_addMeter_32 rfl ?_
    refine g_get Γ fX0_addMeter_26 8 rfl rfl dX0_addMeter_33 ?_
    refine g_iload_n Γ 1 dX0_addMeter_36 rfl ?_
    obtain ⟨v72, e73, hf⟩ := ya_ob hf
    have h74 := ya_ix_lt e73
    refine g_aldR Γ e73 0 4 rfl rfl dX0_addMeter_37 ?_
    refine g_iload_n Γ 1 dX0_addMeter_38 rfl ?_
    refine g_dup2 Γ dX0_addMeter_39 rfl rfl ?_
    obtain ⟨v75, e76, hf⟩ := ya_ob hf
    refine g_laldR (M := c_t_rows) Γ e76 h74 1 1 (ya_six rfl rfl rfl rfl rfl rfl) rfl dX0_addMeter_40 ?_
    refine g_iload_n Γ 3 dX0_addMeter_41 rfl ?_
    refine g_i2l Γ dX0_addMeter_42 ?_
    refine g_ladd Γ dX0_addMeter_43 ?_
    obtain ⟨v77, e78, hf⟩ := ya_ob hf
    obtain ⟨v79, e80, hf⟩ := ya_lt_inv hf
    refine g_lastR (M := c_t_rows) (ws' := [(A_t 3, eQ cR 6 A_t_rows), (A_t_rows 0, eJ cJ 7 (v79 0)), (A_t_rows 1, eJ cJ 7 (v79 1)), (A_t_rows 2, eJ cJ 7 (v79 2)), (A_t_rows 3, eJ cJ 7 (v79 3)), (A_t_rows 4, eJ cJ 7 (v79 4)), (A_t_rows 5, eJ cJ 7 (v79 5)), (A_t 4, eJ cJ 6 v7), (h_t, oF A_t c_t_unread c_t_below), (A_t 0, oG A_t_heaps), (A_t_heaps 0, eI cI 6 c_t_heaps_least), (A_t 1, oG A_t_pieces), (A_t_pieces 0, eI cI 6 c_t_pieces_least)]) Γ e78 h74 1 1 (ya_six rfl rfl rfl rfl rfl rfl) rfl dX0_addMeter_44 (fun h => by subst e80 h; rfl) (fun h => by subst e80 h; rfl) (fun h => by subst e80 h; rfl) (fun h => by subst e80 h; rfl) (fun h => by subst e80 h; rfl) (fun h => by subst e80 h; rfl) ?_
    refine g_aload_n Γ 0 dX0_addMeter_45 rfl ?_
    refine g_iload_n Γ 2 dX0_addMeter_46 rfl ?_
    obtain ⟨v81, e82, hf⟩ := ya_ob hf
    refine g_vi (q := (RX0, TX0, 7)) (wr := [(A_t 3, eQ cR 6 A_t_rows), (A_t_rows 0, eJ cJ 7 (v79 0)), (A_t_rows 1, eJ cJ 7 (v79 1)), (A_t_rows 2, eJ cJ 7 (v79 2)), (A_t_rows 3, eJ cJ 7 (v79 3)), (A_t_rows 4, eJ cJ 7 (v79 4)), (A_t_rows 5, eJ cJ 7 (v79 5)), (A_t 4, eJ cJ 6 v7)]) (ws' := [(A_t 3, eQ cR 6 A_t_rows), (A_t_rows 0, eJ cJ 7 (v79 0)), (A_t_rows 1, eJ cJ 7 (v79 1)), (A_t_rows 2, eJ cJ 7 (v79 2)), (A_t_rows 3, eJ cJ 7 (v79 3)), (A_t_rows 4, eJ cJ 7 (v79 4)), (A_t_rows 5, eJ cJ 7 (v79 5)), (A_t 4, eJ cJ 6 v7), (h_t, oF A_t c_t_unread c_t_below), (A_t 0, oG A_t_heaps), (A_t_heaps 0, eI cI 6 c_t_heaps_least), (A_t 1, oG A_t_pieces), (A_t_pieces 0, eI cI 6 c_t_pieces_least)]) Γ (fun sz => mX0_hasRow (l := l) (D := D) (sz := sz) (cI := cI) (cJ := cJ) (cZ := cZ) (cW := cW) (cR := cR) (h_t := h_t) (A_t := A_t) (A_t_heaps := A_t_heaps) (A_t_pieces := A_t_pieces) (hf := e82)) eX0_hasRow gX0_addMeter_X0_hasRow rfl rfl 0 rfl rfl rfl (Nat.le_of_ble_eq_true rfl) ⟨Nat.le_of_ble_eq_true rfl, Nat.le_of_ble_eq_true rfl⟩ dX0_addMeter_47 [8, 9, 10, 11, 12] [0, 1, 2, 3, 4, 5, 6, 7] rfl rfl rfl rfl (by decide) rfl ?_
    refine g_if_eq Γ 66 dX0_addMeter_50 (by decide) (fun c83 => ?_) (fun c83 => ?_)
    · have hf := ya_if1 c83 hf
      refine g_aload_n Γ 0 dX0_addMeter_66 rfl ?_
      refine g_iload_n Γ 1 dX0_addMeter_67 rfl ?_
      obtain ⟨v84, e85, hf⟩ := ya_ob hf
      refine g_vi (q := (RX0, TX0, 7)) (wr := [(A_t 3, eQ cR 6 A_t_rows), (A_t_rows 0, eJ cJ 7 (v79 0)), (A_t_rows 1, eJ cJ 7 (v79 1)), (A_t_rows 2, eJ cJ 7 (v79 2)), (A_t_rows 3, eJ cJ 7 (v79 3)), (A_t_rows 4, eJ cJ 7 (v79 4)), (A_t_rows 5, eJ cJ 7 (v79 5)), (A_t 4, eJ cJ 6 v7)]) (ws' := [(A_t 3, eQ cR 6 A_t_rows), (A_t_rows 0, eJ cJ 7 (v79 0)), (A_t_rows 1, eJ cJ 7 (v79 1)), (A_t_rows 2, eJ cJ 7 (v79 2)), (A_t_rows 3, eJ cJ 7 (v79 3)), (A_t_rows 4, eJ cJ 7 (v79 4)), (A_t_rows 5, eJ cJ 7 (v79 5)), (A_t 4, eJ cJ 6 v7), (h_t, oF A_t c_t_unread c_t_below), (A_t 0, oG A_t_heaps), (A_t_heaps 0, eI cI 6 c_t_heaps_least), (A_t 1, oG A_t_pieces), (A_t_pieces 0, eI cI 6 c_t_pieces_least)]) Γ (fun sz => mX0_hasRow (l := l) (D := D) (sz := sz) (cI := cI) (cJ := cJ) (cZ := cZ) (cW := cW) (cR := cR) (h_t := h_t) (A_t := A_t) (A_t_heaps := A_t_heaps) (A_t_pieces := A_t_pieces) (hf := e85)) eX0_hasRow gX0_addMeter_X0_hasRow rfl rfl 0 rfl rfl rfl (Nat.le_of_ble_eq_true rfl) ⟨Nat.le_of_ble_eq_true rfl, Nat.le_of_ble_eq_true rfl⟩ dX0_addMeter_68 [8, 9, 10, 11, 12] [0, 1, 2, 3, 4, 5, 6, 7] rfl rfl rfl rfl (by decide) rfl ?_
      refine g_if_eq Γ 108 dX0_addMeter_71 (by decide) (fun c86 => ?_) (fun c86 => ?_)
      · have hf := ya_if1 c86 hf
        cases hf
        exact g_vret Γ hr dX0_addMeter_108 [8, 9, 10, 11, 12, 0, 1, 2, 3, 4, 5, 6, 7] rfl rfl
      · have hf := ya_if2 c86 hf
        refine g_aload_n Γ 0 dX0_addMeter_74 rfl ?_
        refine g_iload_n Γ 2 dX0_addMeter_75 rfl ?_
        obtain ⟨v87, e88, hf⟩ := ya_ob hf
        refine g_vi (q := (RX0, TX0, 7)) (wr := [(A_t 3, eQ cR 6 A_t_rows), (A_t_rows 0, eJ cJ 7 (v79 0)), (A_t_rows 1, eJ cJ 7 (v79 1)), (A_t_rows 2, eJ cJ 7 (v79 2)), (A_t_rows 3, eJ cJ 7 (v79 3)), (A_t_rows 4, eJ cJ 7 (v79 4)), (A_t_rows 5, eJ cJ 7 (v79 5)), (A_t 4, eJ cJ 6 v7)]) (ws' := [(A_t 3, eQ cR 6 A_t_rows), (A_t_rows 0, eJ cJ 7 (v79 0)), (A_t_rows 1, eJ cJ 7 (v79 1)), (A_t_rows 2, eJ cJ 7 (v79 2)), (A_t_rows 3, eJ cJ 7 (v79 3)), (A_t_rows 4, eJ cJ 7 (v79 4)), (A_t_rows 5, eJ cJ 7 (v79 5)), (A_t 4, eJ cJ 6 v7), (h_t, oF A_t c_t_unread c_t_below), (A_t 0, oG A_t_heaps), (A_t_heaps 0, eI cI 6 c_t_heaps_least), (A_t 1, oG A_t_pieces), (A_t_pieces 0, eI cI 6 c_t_pieces_least)]) Γ (fun sz => mX0_hasRow (l := l) (D := D) (sz := sz) (cI := cI) (cJ := cJ) (cZ := cZ) (cW := cW) (cR := cR) (h_t := h_t) (A_t := A_t) (A_t_heaps := A_t_heaps) (A_t_pieces := A_t_pieces) (hf := e88)) eX0_hasRow gX0_addMeter_X0_hasRow rfl rfl 0 rfl rfl rfl (Nat.le_of_ble_eq_true rfl) ⟨Nat.le_of_ble_eq_true rfl, Nat.le_of_ble_eq_true rfl⟩ dX0_addMeter_76 [8, 9, 10, 11, 12] [0, 1, 2, 3, 4, 5, 6, 7] rfl rfl rfl rfl (by decide) rfl ?_
        refine g_if_eq Γ 108 dX0_addMeter_79 (by decide) (fun c89 => ?_) (fun c89 => ?_)
        · have hf := ya_if1 c89 hf
          cases hf
          exact g_vret Γ hr dX0_addMeter_108 [8, 9, 10, 11, 12, 0, 1, 2, 3, 4, 5, 6, 7] rfl rfl
        · have hf := ya_if2 c89 hf
          refine g_aload_n Γ 0 dX0_addMeter_82 rfl ?_
          refine g_get Γ fX0_addMeter_26 8 rfl rfl dX0_addMeter_83 ?_
          refine g_iload_n Γ 1 dX0_addMeter_86 rfl ?_
          obtain ⟨v90, e91, hf⟩ := ya_ob hf
          have h92 := ya_ix_lt e91
          refine g_aldR Γ e91 0 4 rfl rfl dX0_addMeter_87 ?_
          refine g_iload_n Γ 2 dX0_addMeter_88 rfl ?_
          refine g_dup2 Γ dX0_addMeter_89 rfl rfl ?_
          obtain ⟨v93, e94, hf⟩ := ya_ob hf
          refine g_laldR (M := v79) Γ e94 h92 1 1 (ya_six rfl rfl rfl rfl rfl rfl) rfl dX0_addMeter_90 ?_
          refine g_iload_n Γ 3 dX0_addMeter_91 rfl ?_
          refine g_i2l Γ dX0_addMeter_92 ?_
          refine g_lsub Γ dX0_addMeter_93 ?_
          obtain ⟨v95, e96, hf⟩ := ya_ob hf
          obtain ⟨v97, e98, hf⟩ := ya_lt_inv hf
          refine g_lastR (M := v79) (ws' := [(A_t 3, eQ cR 6 A_t_rows), (A_t_rows 0, eJ cJ 7 (v97 0)), (A_t_rows 1, eJ cJ 7 (v97 1)), (A_t_rows 2, eJ cJ 7 (v97 2)), (A_t_rows 3, eJ cJ 7 (v97 3)), (A_t_rows 4, eJ cJ 7 (v97 4)), (A_t_rows 5, eJ cJ 7 (v97 5)), (A_t 4, eJ cJ 6 v7), (h_t, oF A_t c_t_unread c_t_below), (A_t 0, oG A_t_heaps), (A_t_heaps 0, eI cI 6 c_t_heaps_least), (A_t 1, oG A_t_pieces), (A_t_pieces 0, eI cI 6 c_t_pieces_least)]) Γ e96 h92 1 1 (ya_six rfl rfl rfl rfl rfl rfl) rfl dX0_addMeter_94 (fun h => by subst e98 h; rfl) (fun h => by subst e98 h; rfl) (fun h => by subst e98 h; rfl) (fun h => by subst e98 h; rfl) (fun h => by subst e98 h; rfl) (fun h => by subst e98 h; rfl) ?_
          refine g_aload_n Γ 0 dX0_addMeter_95 rfl ?_
          refine g_get Γ fX0_addMeter_26 8 rfl rfl dX0_addMeter_96 ?_
          refine g_iload_n Γ 2 dX0_addMeter_99 rfl ?_
          obtain ⟨v99, e100, hf⟩ := ya_ob hf
          have h101 := ya_ix_lt e100
          refine g_aldR Γ e100 0 4 rfl rfl dX0_addMeter_100 ?_
          refine g_iload_n Γ 1 dX0_addMeter_101 rfl ?_
          refine g_dup2 Γ dX0_addMeter_102 rfl rfl ?_
          obtain ⟨v102, e103, hf⟩ := ya_ob hf
          refine g_laldR (M := v97) Γ e103 h101 1 1 (ya_six rfl rfl rfl rfl rfl rfl) rfl dX0_addMeter_103 ?_
          refine g_iload_n Γ 3 dX0_addMeter_104 rfl ?_
          refine g_i2l Γ dX0_addMeter_105 ?_
          refine g_lsub Γ dX0_addMeter_106 ?_
          obtain ⟨v104, e105, hf⟩ := ya_ob hf
          obtain ⟨v106, e107, hf⟩ := ya_lt_inv hf
          refine g_lastR (M := v97) (ws' := [(A_t 3, eQ cR 6 A_t_rows), (A_t_rows 0, eJ cJ 7 (v106 0)), (A_t_rows 1, eJ cJ 7 (v106 1)), (A_t_rows 2, eJ cJ 7 (v106 2)), (A_t_rows 3, eJ cJ 7 (v106 3)), (A_t_rows 4, eJ cJ 7 (v106 4)), (A_t_rows 5, eJ cJ 7 (v106 5)), (A_t 4, eJ cJ 6 v7), (h_t, oF A_t c_t_unread c_t_below), (A_t 0, oG A_t_heaps), (A_t_heaps 0, eI cI 6 c_t_heaps_least), (A_t 1, oG A_t_pieces), (A_t_pieces 0, eI cI 6 c_t_pieces_least)]) Γ e105 h101 1 1 (ya_six rfl rfl rfl rfl rfl rfl) rfl dX0_addMeter_107 (fun h => by subst e107 h; rfl) (fun h => by subst e107 h; rfl) (fun h => by subst e107 h; rfl) (fun h => by subst e107 h; rfl) (fun h => by subst e107 h; rfl) (fun h => by subst e107 h; rfl) ?_
          cases hf
          exact g_vret Γ hr dX0_addMeter_108 [8, 9, 10, 11, 12, 0, 1, 2, 3, 4, 5, 6, 7] rfl rfl
    · have hf := ya_if2 c83 hf
      refine g_aload_n Γ 0 dX0_addMeter_53 rfl ?_
      refine g_get Γ fX0_addMeter_26 8 rfl rfl dX0_addMeter_54 ?_
      refine g_iload_n Γ 2 dX0_addMeter_57 rfl ?_
      obtain ⟨v108, e109, hf⟩ := ya_ob hf
      have h110 := ya_ix_lt e109
      refine g_aldR Γ e109 0 4 rfl rfl dX0_addMeter_58 ?_
      refine g_iload_n Γ 2 dX0_addMeter_59 rfl ?_
      refine g_dup2 Γ dX0_addMeter_60 rfl rfl ?_
      obtain ⟨v111, e112, hf⟩ := ya_ob hf
      refine g_laldR (M := v79) Γ e112 h110 1 1 (ya_six rfl rfl rfl rfl rfl rfl) rfl dX0_addMeter_61 ?_
      refine g_iload_n Γ 3 dX0_addMeter_62 rfl ?_
      refine g_i2l Γ dX0_addMeter_63 ?_
      refine g_ladd Γ dX0_addMeter_64 ?_
      obtain ⟨v113, e114, hf⟩ := ya_ob hf
      obtain ⟨v115, e116, hf⟩ := ya_lt_inv hf
      refine g_lastR (M := v79) (ws' := [(A_t 3, eQ cR 6 A_t_rows), (A_t_rows 0, eJ cJ 7 (v115 0)), (A_t_rows 1, eJ cJ 7 (v115 1)), (A_t_rows 2, eJ cJ 7 (v115 2)), (A_t_rows 3, eJ cJ 7 (v115 3)), (A_t_rows 4, eJ cJ 7 (v115 4)), (A_t_rows 5, eJ cJ 7 (v115 5)), (A_t 4, eJ cJ 6 v7), (h_t, oF A_t c_t_unread c_t_below), (A_t 0, oG A_t_heaps), (A_t_heaps 0, eI cI 6 c_t_heaps_least), (A_t 1, oG A_t_pieces), (A_t_pieces 0, eI cI 6 c_t_pieces_least)]) Γ e114 h110 1 1 (ya_six rfl rfl rfl rfl rfl rfl) rfl dX0_addMeter_65 (fun h => by subst e116 h; rfl) (fun h => by subst e116 h; rfl) (fun h => by subst e116 h; rfl) (fun h => by subst e116 h; rfl) (fun h => by subst e116 h; rfl) (fun h => by subst e116 h; rfl) ?_
      refine g_aload_n Γ 0 dX0_addMeter_66 rfl ?_
      refine g_iload_n Γ 1 dX0_addMeter_67 rfl ?_
      obtain ⟨v117, e118, hf⟩ := ya_ob hf
      refine g_vi (q := (RX0, TX0, 7)) (wr := [(A_t 3, eQ cR 6 A_t_rows), (A_t_rows 0, eJ cJ 7 (v115 0)), (A_t_rows 1, eJ cJ 7 (v115 1)), (A_t_rows 2, eJ cJ 7 (v115 2)), (A_t_rows 3, eJ cJ 7 (v115 3)), (A_t_rows 4, eJ cJ 7 (v115 4)), (A_t_rows 5, eJ cJ 7 (v115 5)), (A_t 4, eJ cJ 6 v7)]) (ws' := [(A_t 3, eQ cR 6 A_t_rows), (A_t_rows 0, eJ cJ 7 (v115 0)), (A_t_rows 1, eJ cJ 7 (v115 1)), (A_t_rows 2, eJ cJ 7 (v115 2)), (A_t_rows 3, eJ cJ 7 (v115 3)), (A_t_rows 4, eJ cJ 7 (v115 4)), (A_t_rows 5, eJ cJ 7 (v115 5)), (A_t 4, eJ cJ 6 v7), (h_t, oF A_t c_t_unread c_t_below), (A_t 0, oG A_t_heaps), (A_t_heaps 0, eI cI 6 c_t_heaps_least), (A_t 1, oG A_t_pieces), (A_t_pieces 0, eI cI 6 c_t_pieces_least)]) Γ (fun sz => mX0_hasRow (l := l) (D := D) (sz := sz) (cI := cI) (cJ := cJ) (cZ := cZ) (cW := cW) (cR := cR) (h_t := h_t) (A_t := A_t) (A_t_heaps := A_t_heaps) (A_t_pieces := A_t_pieces) (hf := e118)) eX0_hasRow gX0_addMeter_X0_hasRow rfl rfl 0 rfl rfl rfl (Nat.le_of_ble_eq_true rfl) ⟨Nat.le_of_ble_eq_true rfl, Nat.le_of_ble_eq_true rfl⟩ dX0_addMeter_68 [8, 9, 10, 11, 12] [0, 1, 2, 3, 4, 5, 6, 7] rfl rfl rfl rfl (by decide) rfl ?_
      refine g_if_eq Γ 108 dX0_addMeter_71 (by decide) (fun c119 => ?_) (fun c119 => ?_)
      · have hf := ya_if1 c119 hf
        cases hf
        exact g_vret Γ hr dX0_addMeter_108 [8, 9, 10, 11, 12, 0, 1, 2, 3, 4, 5, 6, 7] rfl rfl
      · have hf := ya_if2 c119 hf
        refine g_aload_n Γ 0 dX0_addMeter_74 rfl ?_
        refine g_iload_n Γ 2 dX0_addMeter_75 rfl ?_
        obtain ⟨v120, e121, hf⟩ := ya_ob hf
        refine g_vi (q := (RX0, TX0, 7)) (wr := [(A_t 3, eQ cR 6 A_t_rows), (A_t_rows 0, eJ cJ 7 (v115 0)), (A_t_rows 1, eJ cJ 7 (v115 1)), (A_t_rows 2, eJ cJ 7 (v115 2)), (A_t_rows 3, eJ cJ 7 (v115 3)), (A_t_rows 4, eJ cJ 7 (v115 4)), (A_t_rows 5, eJ cJ 7 (v115 5)), (A_t 4, eJ cJ 6 v7)]) (ws' := [(A_t 3, eQ cR 6 A_t_rows), (A_t_rows 0, eJ cJ 7 (v115 0)), (A_t_rows 1, eJ cJ 7 (v115 1)), (A_t_rows 2, eJ cJ 7 (v115 2)), (A_t_rows 3, eJ cJ 7 (v115 3)), (A_t_rows 4, eJ cJ 7 (v115 4)), (A_t_rows 5, eJ cJ 7 (v115 5)), (A_t 4, eJ cJ 6 v7), (h_t, oF A_t c_t_unread c_t_below), (A_t 0, oG A_t_heaps), (A_t_heaps 0, eI cI 6 c_t_heaps_least), (A_t 1, oG A_t_pieces), (A_t_pieces 0, eI cI 6 c_t_pieces_least)]) Γ (fun sz => mX0_hasRow (l := l) (D := D) (sz := sz) (cI := cI) (cJ := cJ) (cZ := cZ) (cW := cW) (cR := cR) (h_t := h_t) (A_t := A_t) (A_t_heaps := A_t_heaps) (A_t_pieces := A_t_pieces) (hf := e121)) eX0_hasRow gX0_addMeter_X0_hasRow rfl rfl 0 rfl rfl rfl (Nat.le_of_ble_eq_true rfl) ⟨Nat.le_of_ble_eq_true rfl, Nat.le_of_ble_eq_true rfl⟩ dX0_addMeter_76 [8, 9, 10, 11, 12] [0, 1, 2, 3, 4, 5, 6, 7] rfl rfl rfl rfl (by decide) rfl ?_
        refine g_if_eq Γ 108 dX0_addMeter_79 (by decide) (fun c122 => ?_) (fun c122 => ?_)
        · have hf := ya_if1 c122 hf
          cases hf
          exact g_vret Γ hr dX0_addMeter_108 [8, 9, 10, 11, 12, 0, 1, 2, 3, 4, 5, 6, 7] rfl rfl
        · have hf := ya_if2 c122 hf
          refine g_aload_n Γ 0 dX0_addMeter_82 rfl ?_
          refine g_get Γ fX0_addMeter_26 8 rfl rfl dX0_addMeter_83 ?_
          refine g_iload_n Γ 1 dX0_addMeter_86 rfl ?_
          obtain ⟨v123, e124, hf⟩ := ya_ob hf
          have h125 := ya_ix_lt e124
          refine g_aldR Γ e124 0 4 rfl rfl dX0_addMeter_87 ?_
          refine g_iload_n Γ 2 dX0_addMeter_88 rfl ?_
          refine g_dup2 Γ dX0_addMeter_89 rfl rfl ?_
          obtain ⟨v126, e127, hf⟩ := ya_ob hf
          refine g_laldR (M := v115) Γ e127 h125 1 1 (ya_six rfl rfl rfl rfl rfl rfl) rfl dX0_addMeter_90 ?_
          refine g_iload_n Γ 3 dX0_addMeter_91 rfl ?_
          refine g_i2l Γ dX0_addMeter_92 ?_
          refine g_lsub Γ dX0_addMeter_93 ?_
          obtain ⟨v128, e129, hf⟩ := ya_ob hf
          obtain ⟨v130, e131, hf⟩ := ya_lt_inv hf
          refine g_lastR (M := v115) (ws' := [(A_t 3, eQ cR 6 A_t_rows), (A_t_rows 0, eJ cJ 7 (v130 0)), (A_t_rows 1, eJ cJ 7 (v130 1)), (A_t_rows 2, eJ cJ 7 (v130 2)), (A_t_rows 3, eJ cJ 7 (v130 3)), (A_t_rows 4, eJ cJ 7 (v130 4)), (A_t_rows 5, eJ cJ 7 (v130 5)), (A_t 4, eJ cJ 6 v7), (h_t, oF A_t c_t_unread c_t_below), (A_t 0, oG A_t_heaps), (A_t_heaps 0, eI cI 6 c_t_heaps_least), (A_t 1, oG A_t_pieces), (A_t_pieces 0, eI cI 6 c_t_pieces_least)]) Γ e129 h125 1 1 (ya_six rfl rfl rfl rfl rfl rfl) rfl dX0_addMeter_94 (fun h => by subst e131 h; rfl) (fun h => by subst e131 h; rfl) (fun h => by subst e131 h; rfl) (fun h => by subst e131 h; rfl) (fun h => by subst e131 h; rfl) (fun h => by subst e131 h; rfl) ?_
          refine g_aload_n Γ 0 dX0_addMeter_95 rfl ?_
          refine g_get Γ fX0_addMeter_26 8 rfl rfl dX0_addMeter_96 ?_
          refine g_iload_n Γ 2 dX0_addMeter_99 rfl ?_
          obtain ⟨v132, e133, hf⟩ := ya_ob hf
          have h134 := ya_ix_lt e133
          refine g_aldR Γ e133 0 4 rfl rfl dX0_addMeter_100 ?_
          refine g_iload_n Γ 1 dX0_addMeter_101 rfl ?_
          refine g_dup2 Γ dX0_addMeter_102 rfl rfl ?_
          obtain ⟨v135, e136, hf⟩ := ya_ob hf
          refine g_laldR (M := v130) Γ e136 h134 1 1 (ya_six rfl rfl rfl rfl rfl rfl) rfl dX0_addMeter_103 ?_
          refine g_iload_n Γ 3 dX0_addMeter_104 rfl ?_
          refine g_i2l Γ dX0_addMeter_105 ?_
          refine g_lsub Γ dX0_addMeter_106 ?_
          obtain ⟨v137, e138, hf⟩ := ya_ob hf
          obtain ⟨v139, e140, hf⟩ := ya_lt_inv hf
          refine g_lastR (M := v130) (ws' := [(A_t 3, eQ cR 6 A_t_rows), (A_t_rows 0, eJ cJ 7 (v139 0)), (A_t_rows 1, eJ cJ 7 (v139 1)), (A_t_rows 2, eJ cJ 7 (v139 2)), (A_t_rows 3, eJ cJ 7 (v139 3)), (A_t_rows 4, eJ cJ 7 (v139 4)), (A_t_rows 5, eJ cJ 7 (v139 5)), (A_t 4, eJ cJ 6 v7), (h_t, oF A_t c_t_unread c_t_below), (A_t 0, oG A_t_heaps), (A_t_heaps 0, eI cI 6 c_t_heaps_least), (A_t 1, oG A_t_pieces), (A_t_pieces 0, eI cI 6 c_t_pieces_least)]) Γ e138 h134 1 1 (ya_six rfl rfl rfl rfl rfl rfl) rfl dX0_addMeter_107 (fun h => by subst e140 h; rfl) (fun h => by subst e140 h; rfl) (fun h => by subst e140 h; rfl) (fun h => by subst e140 h; rfl) (fun h => by subst e140 h; rfl) (fun h => by subst e140 h; rfl) ?_
          cases hf
          exact g_vret Γ hr dX0_addMeter_108 [8, 9, 10, 11, 12, 0, 1, 2, 3, 4, 5, 6, 7] rfl rfl

set_option maxRecDepth 20000 in
theorem ggX0_fillSystem_X0_hasRow : GoodIn wsX0_fillSystem wsX0_hasRow := goodIn_r _ [16, 6, 7, 17, 44, 45, 46, 47, 48, 49, 50, 51] (by decide +kernel) (by decide +kernel)
set_option maxRecDepth 20000 in
theorem gX0_fillSystem_X0_hasRow : GoodIn wsX0_fillSystem (wsV RX0 66 RX0 yX0_hasRow wsX0_hasRow) := goodIn_app (goodIn_of _ (by decide +kernel)) ggX0_fillSystem_X0_hasRow
set_option maxRecDepth 20000 in
theorem ggX0_fillSystem_X4_holds : GoodIn wsX0_fillSystem wsX4_holds := goodIn_r _ [20] (by decide +kernel) (by decide +kernel)
set_option maxRecDepth 20000 in
theorem gX0_fillSystem_X4_holds_n73 : GoodIn wsX0_fillSystem (wsX4_holds) := ggX0_fillSystem_X4_holds
set_option maxRecDepth 20000 in
theorem ggX0_fillSystem_X1_parts : GoodIn wsX0_fillSystem wsX1_parts := goodIn_r _ [25, 26, 27, 28, 51, 33, 34, 35, 36, 37, 38, 39, 40, 41, 42, 43] (by decide +kernel) (by decide +kernel)
set_option maxRecDepth 20000 in
theorem gX0_fillSystem_X1_parts : GoodIn wsX0_fillSystem (wsV RX0 77 RX1 yX1_parts wsX1_parts) := goodIn_app (goodIn_of _ (by decide +kernel)) ggX0_fillSystem_X1_parts
set_option maxRecDepth 20000 in
theorem ggX0_fillSystem_X0_addMeter : GoodIn wsX0_fillSystem wsX0_addMeter := goodIn_r _ [32, 3, 2, 12, 13, 14, 15, 16, 6, 7, 17, 44, 45, 46, 47, 48, 49, 50, 51] (by decide +kernel) (by decide +kernel)
set_option maxRecDepth 20000 in
theorem gX0_fillSystem_X0_addMeter : GoodIn wsX0_fillSystem (wsV RX0 92 RX0 yX0_addMeter wsX0_addMeter) := goodIn_app (goodIn_of _ (by decide +kernel)) ggX0_fillSystem_X0_addMeter
theorem dX0_fillSystem_0 : decode cX0_fillSystem 0 = .ok (.iconst 0, 1) := by decide +kernel
theorem dX0_fillSystem_1 : decode cX0_fillSystem 1 = .ok (.istore_n 2, 1) := by decide +kernel
theorem dX0_fillSystem_2 : decode cX0_fillSystem 2 = .ok (.iload_n 2, 1) := by decide +kernel
theorem dX0_fillSystem_3 : decode cX0_fillSystem 3 = .ok (.aload_n 1, 1) := by decide +kernel
theorem dX0_fillSystem_4 : decode cX0_fillSystem 4 = .ok (.getfield 55, 3) := by decide +kernel
theorem dX0_fillSystem_7 : decode cX0_fillSystem 7 = .ok (.if_icmp .ge 60, 3) := by decide +kernel
theorem dX0_fillSystem_10 : decode cX0_fillSystem 10 = .ok (.iconst 0, 1) := by decide +kernel
theorem dX0_fillSystem_11 : decode cX0_fillSystem 11 = .ok (.istore_n 3, 1) := by decide +kernel
theorem dX0_fillSystem_12 : decode cX0_fillSystem 12 = .ok (.iload_n 3, 1) := by decide +kernel
theorem dX0_fillSystem_13 : decode cX0_fillSystem 13 = .ok (.bipush 6, 2) := by decide +kernel
theorem dX0_fillSystem_15 : decode cX0_fillSystem 15 = .ok (.if_icmp .gt 18, 3) := by decide +kernel
theorem dX0_fillSystem_18 : decode cX0_fillSystem 18 = .ok (.aload_n 0, 1) := by decide +kernel
theorem dX0_fillSystem_19 : decode cX0_fillSystem 19 = .ok (.getfield 26, 3) := by decide +kernel
theorem dX0_fillSystem_22 : decode cX0_fillSystem 22 = .ok (.iload_n 2, 1) := by decide +kernel
theorem dX0_fillSystem_23 : decode cX0_fillSystem 23 = .ok (.aaload, 1) := by decide +kernel
theorem dX0_fillSystem_24 : decode cX0_fillSystem 24 = .ok (.iload_n 3, 1) := by decide +kernel
theorem dX0_fillSystem_25 : decode cX0_fillSystem 25 = .ok (.lconst 0, 1) := by decide +kernel
theorem dX0_fillSystem_26 : decode cX0_fillSystem 26 = .ok (.lastore, 1) := by decide +kernel
theorem dX0_fillSystem_27 : decode cX0_fillSystem 27 = .ok (.iinc 3 1, 3) := by decide +kernel
theorem dX0_fillSystem_30 : decode cX0_fillSystem 30 = .ok (.goto (-18), 3) := by decide +kernel
theorem dX0_fillSystem_33 : decode cX0_fillSystem 33 = .ok (.aload_n 0, 1) := by decide +kernel
theorem dX0_fillSystem_34 : decode cX0_fillSystem 34 = .ok (.getfield 26, 3) := by decide +kernel
theorem dX0_fillSystem_37 : decode cX0_fillSystem 37 = .ok (.iload_n 2, 1) := by decide +kernel
theorem dX0_fillSystem_38 : decode cX0_fillSystem 38 = .ok (.aaload, 1) := by decide +kernel
theorem dX0_fillSystem_39 : decode cX0_fillSystem 39 = .ok (.iload_n 2, 1) := by decide +kernel
theorem dX0_fillSystem_40 : decode cX0_fillSystem 40 = .ok (.aload_n 0, 1) := by decide +kernel
theorem dX0_fillSystem_41 : decode cX0_fillSystem 41 = .ok (.iload_n 2, 1) := by decide +kernel
theorem dX0_fillSystem_42 : decode cX0_fillSystem 42 = .ok (.invokevirtual 66, 3) := by decide +kernel
theorem dX0_fillSystem_45 : decode cX0_fillSystem 45 = .ok (.ifCond .eq 7, 3) := by decide +kernel
theorem dX0_fillSystem_48 : decode cX0_fillSystem 48 = .ok (.lconst 0, 1) := by decide +kernel
theorem dX0_fillSystem_49 : decode cX0_fillSystem 49 = .ok (.goto 4, 3) := by decide +kernel
theorem dX0_fillSystem_52 : decode cX0_fillSystem 52 = .ok (.lconst 1, 1) := by decide +kernel
theorem dX0_fillSystem_53 : decode cX0_fillSystem 53 = .ok (.lastore, 1) := by decide +kernel
theorem dX0_fillSystem_54 : decode cX0_fillSystem 54 = .ok (.aload_n 0, 1) := by decide +kernel
theorem dX0_fillSystem_55 : decode cX0_fillSystem 55 = .ok (.getfield 29, 3) := by decide +kernel
theorem dX0_fillSystem_58 : decode cX0_fillSystem 58 = .ok (.iload_n 2, 1) := by decide +kernel
theorem dX0_fillSystem_59 : decode cX0_fillSystem 59 = .ok (.lconst 0, 1) := by decide +kernel
theorem dX0_fillSystem_60 : decode cX0_fillSystem 60 = .ok (.lastore, 1) := by decide +kernel
theorem dX0_fillSystem_61 : decode cX0_fillSystem 61 = .ok (.iinc 2 1, 3) := by decide +kernel
theorem dX0_fillSystem_64 : decode cX0_fillSystem 64 = .ok (.goto (-62), 3) := by decide +kernel
theorem dX0_fillSystem_67 : decode cX0_fillSystem 67 = .ok (.iconst 0, 1) := by decide +kernel
theorem dX0_fillSystem_68 : decode cX0_fillSystem 68 = .ok (.istore_n 2, 1) := by decide +kernel
theorem dX0_fillSystem_69 : decode cX0_fillSystem 69 = .ok (.iload_n 2, 1) := by decide +kernel
theorem dX0_fillSystem_70 : decode cX0_fillSystem 70 = .ok (.aload_n 1, 1) := by decide +kernel
theorem dX0_fillSystem_71 : decode cX0_fillSystem 71 = .ok (.getfield 70, 3) := by decide +kernel
theorem dX0_fillSystem_74 : decode cX0_fillSystem 74 = .ok (.if_icmp .ge 76, 3) := by decide +kernel
theorem dX0_fillSystem_77 : decode cX0_fillSystem 77 = .ok (.aload_n 0, 1) := by decide +kernel
theorem dX0_fillSystem_78 : decode cX0_fillSystem 78 = .ok (.getfield 33, 3) := by decide +kernel
theorem dX0_fillSystem_81 : decode cX0_fillSystem 81 = .ok (.iload_n 2, 1) := by decide +kernel
theorem dX0_fillSystem_82 : decode cX0_fillSystem 82 = .ok (.invokestatic 73, 3) := by decide +kernel
theorem dX0_fillSystem_85 : decode cX0_fillSystem 85 = .ok (.ifCond .ne 59, 3) := by decide +kernel
theorem dX0_fillSystem_88 : decode cX0_fillSystem 88 = .ok (.aload_n 0, 1) := by decide +kernel
theorem dX0_fillSystem_89 : decode cX0_fillSystem 89 = .ok (.getfield 12, 3) := by decide +kernel
theorem dX0_fillSystem_92 : decode cX0_fillSystem 92 = .ok (.aload_n 1, 1) := by decide +kernel
theorem dX0_fillSystem_93 : decode cX0_fillSystem 93 = .ok (.iload_n 2, 1) := by decide +kernel
theorem dX0_fillSystem_94 : decode cX0_fillSystem 94 = .ok (.invokevirtual 77, 3) := by decide +kernel
theorem dX0_fillSystem_97 : decode cX0_fillSystem 97 = .ok (.ifCond .eq 47, 3) := by decide +kernel
theorem dX0_fillSystem_100 : decode cX0_fillSystem 100 = .ok (.aload_n 0, 1) := by decide +kernel
theorem dX0_fillSystem_101 : decode cX0_fillSystem 101 = .ok (.aload_n 0, 1) := by decide +kernel
theorem dX0_fillSystem_102 : decode cX0_fillSystem 102 = .ok (.getfield 12, 3) := by decide +kernel
theorem dX0_fillSystem_105 : decode cX0_fillSystem 105 = .ok (.getfield 62, 3) := by decide +kernel
theorem dX0_fillSystem_108 : decode cX0_fillSystem 108 = .ok (.aload_n 1, 1) := by decide +kernel
theorem dX0_fillSystem_109 : decode cX0_fillSystem 109 = .ok (.getfield 80, 3) := by decide +kernel
theorem dX0_fillSystem_112 : decode cX0_fillSystem 112 = .ok (.iload_n 2, 1) := by decide +kernel
theorem dX0_fillSystem_113 : decode cX0_fillSystem 113 = .ok (.iaload, 1) := by decide +kernel
theorem dX0_fillSystem_114 : decode cX0_fillSystem 114 = .ok (.iaload, 1) := by decide +kernel
theorem dX0_fillSystem_115 : decode cX0_fillSystem 115 = .ok (.aload_n 0, 1) := by decide +kernel
theorem dX0_fillSystem_116 : decode cX0_fillSystem 116 = .ok (.getfield 12, 3) := by decide +kernel
theorem dX0_fillSystem_119 : decode cX0_fillSystem 119 = .ok (.getfield 62, 3) := by decide +kernel
theorem dX0_fillSystem_122 : decode cX0_fillSystem 122 = .ok (.aload_n 1, 1) := by decide +kernel
theorem dX0_fillSystem_123 : decode cX0_fillSystem 123 = .ok (.getfield 83, 3) := by decide +kernel
theorem dX0_fillSystem_126 : decode cX0_fillSystem 126 = .ok (.iload_n 2, 1) := by decide +kernel
theorem dX0_fillSystem_127 : decode cX0_fillSystem 127 = .ok (.iaload, 1) := by decide +kernel
theorem dX0_fillSystem_128 : decode cX0_fillSystem 128 = .ok (.iaload, 1) := by decide +kernel
theorem dX0_fillSystem_129 : decode cX0_fillSystem 129 = .ok (.aload_n 1, 1) := by decide +kernel
theorem dX0_fillSystem_130 : decode cX0_fillSystem 130 = .ok (.getfield 86, 3) := by decide +kernel
theorem dX0_fillSystem_133 : decode cX0_fillSystem 133 = .ok (.iload_n 2, 1) := by decide +kernel
theorem dX0_fillSystem_134 : decode cX0_fillSystem 134 = .ok (.iaload, 1) := by decide +kernel
theorem dX0_fillSystem_135 : decode cX0_fillSystem 135 = .ok (.aload_n 1, 1) := by decide +kernel
theorem dX0_fillSystem_136 : decode cX0_fillSystem 136 = .ok (.getfield 89, 3) := by decide +kernel
theorem dX0_fillSystem_139 : decode cX0_fillSystem 139 = .ok (.iload_n 2, 1) := by decide +kernel
theorem dX0_fillSystem_140 : decode cX0_fillSystem 140 = .ok (.iaload, 1) := by decide +kernel
theorem dX0_fillSystem_141 : decode cX0_fillSystem 141 = .ok (.invokevirtual 92, 3) := by decide +kernel
theorem dX0_fillSystem_144 : decode cX0_fillSystem 144 = .ok (.iinc 2 1, 3) := by decide +kernel
theorem dX0_fillSystem_147 : decode cX0_fillSystem 147 = .ok (.goto (-78), 3) := by decide +kernel
theorem dX0_fillSystem_150 : decode cX0_fillSystem 150 = .ok (.iconst 0, 1) := by decide +kernel
theorem dX0_fillSystem_151 : decode cX0_fillSystem 151 = .ok (.istore_n 2, 1) := by decide +kernel
theorem dX0_fillSystem_152 : decode cX0_fillSystem 152 = .ok (.iload_n 2, 1) := by decide +kernel
theorem dX0_fillSystem_153 : decode cX0_fillSystem 153 = .ok (.aload_n 1, 1) := by decide +kernel
theorem dX0_fillSystem_154 : decode cX0_fillSystem 154 = .ok (.getfield 55, 3) := by decide +kernel
theorem dX0_fillSystem_157 : decode cX0_fillSystem 157 = .ok (.if_icmp .ge 37, 3) := by decide +kernel
theorem dX0_fillSystem_160 : decode cX0_fillSystem 160 = .ok (.aload_n 0, 1) := by decide +kernel
theorem dX0_fillSystem_161 : decode cX0_fillSystem 161 = .ok (.getfield 26, 3) := by decide +kernel
theorem dX0_fillSystem_164 : decode cX0_fillSystem 164 = .ok (.iload_n 2, 1) := by decide +kernel
theorem dX0_fillSystem_165 : decode cX0_fillSystem 165 = .ok (.aaload, 1) := by decide +kernel
theorem dX0_fillSystem_166 : decode cX0_fillSystem 166 = .ok (.bipush 6, 2) := by decide +kernel
theorem dX0_fillSystem_168 : decode cX0_fillSystem 168 = .ok (.aload_n 0, 1) := by decide +kernel
theorem dX0_fillSystem_169 : decode cX0_fillSystem 169 = .ok (.iload_n 2, 1) := by decide +kernel
theorem dX0_fillSystem_170 : decode cX0_fillSystem 170 = .ok (.invokevirtual 66, 3) := by decide +kernel
theorem dX0_fillSystem_173 : decode cX0_fillSystem 173 = .ok (.ifCond .eq 13, 3) := by decide +kernel
theorem dX0_fillSystem_176 : decode cX0_fillSystem 176 = .ok (.aload_n 0, 1) := by decide +kernel
theorem dX0_fillSystem_177 : decode cX0_fillSystem 177 = .ok (.getfield 29, 3) := by decide +kernel
theorem dX0_fillSystem_180 : decode cX0_fillSystem 180 = .ok (.iload_n 2, 1) := by decide +kernel
theorem dX0_fillSystem_181 : decode cX0_fillSystem 181 = .ok (.laload, 1) := by decide +kernel
theorem dX0_fillSystem_182 : decode cX0_fillSystem 182 = .ok (.lneg, 1) := by decide +kernel
theorem dX0_fillSystem_183 : decode cX0_fillSystem 183 = .ok (.goto 4, 3) := by decide +kernel
theorem dX0_fillSystem_186 : decode cX0_fillSystem 186 = .ok (.lconst 0, 1) := by decide +kernel
theorem dX0_fillSystem_187 : decode cX0_fillSystem 187 = .ok (.lastore, 1) := by decide +kernel
theorem dX0_fillSystem_188 : decode cX0_fillSystem 188 = .ok (.iinc 2 1, 3) := by decide +kernel
theorem dX0_fillSystem_191 : decode cX0_fillSystem 191 = .ok (.goto (-39), 3) := by decide +kernel
theorem dX0_fillSystem_194 : decode cX0_fillSystem 194 = .ok (.return_, 1) := by decide +kernel
/-! ===== FlowMeters$Fit.fillSystem(LFlowMeters$Works;)V ===== -/
def fX0_fillSystem_L12 (N : Nat) (n : Nat) (y2 : Int32) (y3 : Int32) (d_t_rows : Nat → Nat → Int64) : Option (Nat → Nat → Int64) := match n with
  | 0 => none
  | n + 1 =>
    (if 6 < y3 then
        some d_t_rows
      else
        (ya_ix 6 y2).bind fun v3 =>
        (ya_wr (d_t_rows v3) 7 y3 0).bind fun v6 =>
        ya_lt (ya_up d_t_rows v3 v6) fun v8 =>
        ya_lt (y3 + 1) fun v10 =>
        fX0_fillSystem_L12 N n y2 v10 v8)
def fX0_fillSystem_L2 (N : Nat) (n : Nat) (y2 : Int32) (d_t_heaps_least : Nat → Int32) (d_t_pieces_least : Nat → Int32) (d_t_rows : Nat → Nat → Int64) (d_t_surplus : Nat → Int64) (d_w_knots : Int32) : Option ((Nat → Nat → Int64) × (Nat → Int64)) := match n with
  | 0 => none
  | n + 1 =>
    (if d_w_knots ≤ y2 then
        some (d_t_rows, d_t_surplus)
      else
        (fX0_fillSystem_L12 N N y2 0 d_t_rows).bind fun v12 =>
        (ya_ix 6 y2).bind fun v14 =>
        (fX0_hasRow d_t_heaps_least d_t_pieces_least y2).bind fun v17 =>
        (if v17 = 0 then
          (ya_wr (v12 v14) 7 y2 1).bind fun v20 =>
          ya_lt (ya_up v12 v14 v20) fun v22 =>
          (ya_wr d_t_surplus 6 y2 0).bind fun v24 =>
          ya_lt (y2 + 1) fun v26 =>
          fX0_fillSystem_L2 N n v26 d_t_heaps_least d_t_pieces_least v22 v24 d_w_knots
        else
          (ya_wr (v12 v14) 7 y2 0).bind fun v28 =>
          ya_lt (ya_up v12 v14 v28) fun v30 =>
          (ya_wr d_t_surplus 6 y2 0).bind fun v32 =>
          ya_lt (y2 + 1) fun v34 =>
          fX0_fillSystem_L2 N n v34 d_t_heaps_least d_t_pieces_least v30 v32 d_w_knots))
def fX0_fillSystem_L69 (N : Nat) (n : Nat) (y2 : Int32) (d_t_unread : Int32) (d_t_heaps_least : Nat → Int32) (d_t_pieces_least : Nat → Int32) (d_t_rows : Nat → Nat → Int64) (d_t_surplus : Nat → Int64) (d_w_flows : Int32) (d_w_from : Nat → Int32) (d_w_to : Nat → Int32) (d_w_reading : Nat → Int32) (d_w_miss : Nat → Int32) : Option ((Nat → Nat → Int64) × (Nat → Int64)) := match n with
  | 0 => none
  | n + 1 =>
    (if d_w_flows ≤ y2 then
        some (d_t_rows, d_t_surplus)
      else
        (fX4_holds d_t_unread y2).bind fun v40 =>
        (if v40 = 0 then
          (fX1_parts d_t_heaps_least d_w_from d_w_to y2).bind fun v45 =>
          (if v45 = 0 then
            ya_lt (y2 + 1) fun v48 =>
            fX0_fillSystem_L69 N n v48 d_t_unread d_t_heaps_least d_t_pieces_least d_t_rows d_t_surplus d_w_flows d_w_from d_w_to d_w_reading d_w_miss
          else
            (ya_rd d_w_from 10 y2).bind fun v50 =>
            (ya_rd d_t_heaps_least 6 v50).bind fun v52 =>
            (ya_rd d_w_to 10 y2).bind fun v54 =>
            (ya_rd d_t_heaps_least 6 v54).bind fun v56 =>
            (ya_rd d_w_miss 10 y2).bind fun v58 =>
            (ya_rd d_w_reading 10 y2).bind fun v60 =>
            (fX0_addMeter d_t_heaps_least d_t_pieces_least d_t_rows d_t_surplus v52 v56 v58 v60).bind fun (v62, v63) =>
            ya_lt (y2 + 1) fun v65 =>
            fX0_fillSystem_L69 N n v65 d_t_unread d_t_heaps_least d_t_pieces_least v62 v63 d_w_flows d_w_from d_w_to d_w_reading d_w_miss)
        else
          ya_lt (y2 + 1) fun v43 =>
          fX0_fillSystem_L69 N n v43 d_t_unread d_t_heaps_least d_t_pieces_least d_t_rows d_t_surplus d_w_flows d_w_from d_w_to d_w_reading d_w_miss))
def fX0_fillSystem_L152 (N : Nat) (n : Nat) (y2 : Int32) (d_t_heaps_least : Nat → Int32) (d_t_pieces_least : Nat → Int32) (d_t_rows : Nat → Nat → Int64) (d_t_surplus : Nat → Int64) (d_w_knots : Int32) : Option (Nat → Nat → Int64) := match n with
  | 0 => none
  | n + 1 =>
    (if d_w_knots ≤ y2 then
        some d_t_rows
      else
        (ya_ix 6 y2).bind fun v71 =>
        (fX0_hasRow d_t_heaps_least d_t_pieces_least y2).bind fun v74 =>
        (if v74 = 0 then
          (ya_wr (d_t_rows v71) 7 6 0).bind fun v77 =>
          ya_lt (ya_up d_t_rows v71 v77) fun v79 =>
          ya_lt (y2 + 1) fun v81 =>
          fX0_fillSystem_L152 N n v81 d_t_heaps_least d_t_pieces_least v79 d_t_surplus d_w_knots
        else
          (ya_rd d_t_surplus 6 y2).bind fun v83 =>
          (ya_wr (d_t_rows v71) 7 6 (-v83)).bind fun v85 =>
          ya_lt (ya_up d_t_rows v71 v85) fun v87 =>
          ya_lt (y2 + 1) fun v89 =>
          fX0_fillSystem_L152 N n v89 d_t_heaps_least d_t_pieces_least v87 d_t_surplus d_w_knots))
def fX0_fillSystem (N : Nat) (c_t_unread : Int32) (c_t_heaps_least : Nat → Int32) (c_t_pieces_least : Nat → Int32) (c_t_rows : Nat → Nat → Int64) (c_t_surplus : Nat → Int64) (c_w_knots : Int32) (c_w_flows : Int32) (c_w_from : Nat → Int32) (c_w_to : Nat → Int32) (c_w_reading : Nat → Int32) (c_w_miss : Nat → Int32)  : Option ((Nat → Nat → Int64) × (Nat → Int64)) :=
  (fX0_fillSystem_L2 N N 0 c_t_heaps_least c_t_pieces_least c_t_rows c_t_surplus c_w_knots).bind fun (v36, v37) =>
  (fX0_fillSystem_L69 N N 0 c_t_unread c_t_heaps_least c_t_pieces_least v36 v37 c_w_flows c_w_from c_w_to c_w_reading c_w_miss).bind fun (v67, v68) =>
  (fX0_fillSystem_L152 N N 0 c_t_heaps_least c_t_pieces_least v67 v68 c_w_knots).bind fun v91 =>
  some (v91, v68)
theorem fX0_fillSystem_55 : yF wsX0_fillSystem RX0 55 3 0 RX3 TX3 11 := ⟨rfl, by decide, by decide +kernel, by decide +kernel⟩
theorem fX0_fillSystem_26 : yF wsX0_fillSystem RX0 26 0 3 RX0 TX0 7 := ⟨rfl, by decide, by decide +kernel, by decide +kernel⟩
theorem fX0_fillSystem_29 : yF wsX0_fillSystem RX0 29 0 4 RX0 TX0 7 := ⟨rfl, by decide, by decide +kernel, by decide +kernel⟩
theorem fX0_fillSystem_70 : yF wsX0_fillSystem RX0 70 3 1 RX3 TX3 11 := ⟨rfl, by decide, by decide +kernel, by decide +kernel⟩
theorem fX0_fillSystem_33 : yF wsX0_fillSystem RX0 33 0 5 RX0 TX0 7 := ⟨rfl, by decide, by decide +kernel, by decide +kernel⟩
theorem fX0_fillSystem_12 : yF wsX0_fillSystem RX0 12 0 0 RX0 TX0 7 := ⟨rfl, by decide, by decide +kernel, by decide +kernel⟩
theorem fX0_fillSystem_62 : yF wsX0_fillSystem RX0 62 1 0 RX1 TX1 1 := ⟨rfl, by decide, by decide +kernel, by decide +kernel⟩
theorem fX0_fillSystem_80 : yF wsX0_fillSystem RX0 80 3 3 RX3 TX3 11 := ⟨rfl, by decide, by decide +kernel, by decide +kernel⟩
theorem fX0_fillSystem_83 : yF wsX0_fillSystem RX0 83 3 4 RX3 TX3 11 := ⟨rfl, by decide, by decide +kernel, by decide +kernel⟩
theorem fX0_fillSystem_86 : yF wsX0_fillSystem RX0 86 3 6 RX3 TX3 11 := ⟨rfl, by decide, by decide +kernel, by decide +kernel⟩
theorem fX0_fillSystem_89 : yF wsX0_fillSystem RX0 89 3 5 RX3 TX3 11 := ⟨rfl, by decide, by decide +kernel, by decide +kernel⟩
abbrev rmX0_fillSystem : Room := { frames := 2, cells := 0, slots := 0, locals := 45 }
theorem eX0_fillSystem : yY yX0_fillSystem wsX0_fillSystem cX0_fillSystem 4 none rmX0_fillSystem 1 := ⟨⟨_, rfl⟩, rfl, rfl, by decide, by decide, by decide +kernel⟩
set_option maxHeartbeats 4000000 in
set_option maxRecDepth 100000 in
theorem mX0_fillSystem {l : Launch} {D : va_G} {sz : Nat} {cI cJ cZ cW cR : ClassId} {N : Nat} {h_t : Nat} {h_w : Nat} {A_t : Nat → Nat} {A_t_heaps : Nat → Nat} {A_t_pieces : Nat → Nat} {A_t_rows : Nat → Nat} {A_w : Nat → Nat} {c_t_unread : Int32} {c_t_below : Int64} {c_t_heaps_least : Nat → Int32} {c_t_pieces_least : Nat → Int32} {c_t_rows : Nat → Nat → Int64} {c_t_surplus : Nat → Int64} {c_w_knots : Int32} {c_w_flows : Int32} {c_w_readSet : Int32} {c_w_from : Nat → Int32} {c_w_to : Nat → Int32} {c_w_reading : Nat → Int32} {c_w_miss : Nat → Int32} {zc_t_rows : Nat → Nat → Int64} {zc_t_surplus : Nat → Int64} (hf : fX0_fillSystem N c_t_unread c_t_heaps_least c_t_pieces_least c_t_rows c_t_surplus c_w_knots c_w_flows c_w_from c_w_to c_w_reading c_w_miss = some (zc_t_rows, zc_t_surplus)) : Met l yX0_fillSystem wsX0_fillSystem rmX0_fillSystem (yP D (yT cI cJ cZ cW cR) [(h_t, oF A_t c_t_unread c_t_below), (A_t 0, oG A_t_heaps), (A_t_heaps 0, eI cI 6 c_t_heaps_least), (A_t 1, oG A_t_pieces), (A_t_pieces 0, eI cI 6 c_t_pieces_least), (A_t 3, eQ cR 6 A_t_rows), (A_t_rows 0, eJ cJ 7 (c_t_rows 0)), (A_t_rows 1, eJ cJ 7 (c_t_rows 1)), (A_t_rows 2, eJ cJ 7 (c_t_rows 2)), (A_t_rows 3, eJ cJ 7 (c_t_rows 3)), (A_t_rows 4, eJ cJ 7 (c_t_rows 4)), (A_t_rows 5, eJ cJ 7 (c_t_rows 5)), (A_t 4, eJ cJ 6 c_t_surplus), (h_w, oW A_w c_w_knots c_w_flows c_w_readSet), (A_w 0, eI cI 10 c_w_from), (A_w 1, eI cI 10 c_w_to), (A_w 2, eI cI 10 c_w_reading), (A_w 3, eI cI 10 c_w_miss)] sz [.ref h_t, .ref h_w]) (yQv D (yT cI cJ cZ cW cR) [(h_t, oF A_t c_t_unread c_t_below), (A_t 0, oG A_t_heaps), (A_t_heaps 0, eI cI 6 c_t_heaps_least), (A_t 1, oG A_t_pieces), (A_t_pieces 0, eI cI 6 c_t_pieces_least), (A_t 3, eQ cR 6 A_t_rows), (A_t_rows 0, eJ cJ 7 (zc_t_rows 0)), (A_t_rows 1, eJ cJ 7 (zc_t_rows 1)), (A_t_rows 2, eJ cJ 7 (zc_t_rows 2)), (A_t_rows 3, eJ cJ 7 (zc_t_rows 3)), (A_t_rows 4, eJ cJ 7 (zc_t_rows 4)), (A_t_rows 5, eJ cJ 7 (zc_t_rows 5)), (A_t 4, eJ cJ 6 zc_t_surplus), (h_w, oW A_w c_w_knots c_w_flows c_w_readSet), (A_w 0, eI cI 10 c_w_from), (A_w 1, eI cI 10 c_w_to), (A_w 2, eI cI 10 c_w_reading), (A_w 3, eI cI 10 c_w_miss)] (va_A [(h_t, oF A_t c_t_unread c_t_below), (A_t 0, oG A_t_heaps), (A_t_heaps 0, eI cI 6 c_t_heaps_least), (A_t 1, oG A_t_pieces), (A_t_pieces 0, eI cI 6 c_t_pieces_least), (A_t 3, eQ cR 6 A_t_rows), (A_t_rows 0, eJ cJ 7 (c_t_rows 0)), (A_t_rows 1, eJ cJ 7 (c_t_rows 1)), (A_t_rows 2, eJ cJ 7 (c_t_rows 2)), (A_t_rows 3, eJ cJ 7 (c_t_rows 3)), (A_t_rows 4, eJ cJ 7 (c_t_rows 4)), (A_t_rows 5, eJ cJ 7 (c_t_rows 5)), (A_t 4, eJ cJ 6 c_t_surplus), (h_w, oW A_w c_w_knots c_w_flows c_w_readSet), (A_w 0, eI cI 10 c_w_from), (A_w 1, eI cI 10 c_w_to), (A_w 2, eI cI 10 c_w_reading), (A_w 3, eI cI 10 c_w_miss)] sz)) 0 0 (va_A [(h_t, oF A_t c_t_unread c_t_below), (A_t 0, oG A_t_heaps), (A_t_heaps 0, eI cI 6 c_t_heaps_least), (A_t 1, oG A_t_pieces), (A_t_pieces 0, eI cI 6 c_t_pieces_least), (A_t 3, eQ cR 6 A_t_rows), (A_t_rows 0, eJ cJ 7 (c_t_rows 0)), (A_t_rows 1, eJ cJ 7 (c_t_rows 1)), (A_t_rows 2, eJ cJ 7 (c_t_rows 2)), (A_t_rows 3, eJ cJ 7 (c_t_rows 3)), (A_t_rows 4, eJ cJ 7 (c_t_rows 4)), (A_t_rows 5, eJ cJ 7 (c_t_rows 5)), (A_t 4, eJ cJ 6 c_t_surplus), (h_w, oW A_w c_w_knots c_w_flows c_w_readSet), (A_w 0, eI cI 10 c_w_from), (A_w 1, eI cI 10 c_w_to), (A_w 2, eI cI 10 c_w_reading), (A_w 3, eI cI 10 c_w_miss)] sz) := by
  refine yM (cc := cX0_fillSystem) (maxL := 4) (ret := none) RX0 (by decide) rfl rfl (Nat.le_of_ble_eq_true rfl) ?_
  intro p e s m below meth c Γ hr
  have loop12 : ∀ (n : Nat) (y2 : Int32) (y3 : Int32) (d_t_unread : Int32) (d_t_below : Int64) (d_t_heaps_least : Nat → Int32) (d_t_pieces_least : Nat → Int32) (d_t_rows : Nat → Nat → Int64) (d_t_surplus : Nat → Int64) (d_w_knots : Int32) (d_w_flows : Int32) (d_w_readSet : Int32) (d_w_from : Nat → Int32) (d_w_to : Nat → Int32) (d_w_reading : Nat → Int32) (d_w_miss : Nat → Int32) (w0 : Nat → Nat → Int64), fX0_fillSystem_L12 N n y2 y3 d_t_rows = some w0 → yG p l e (headSpec wsX0_fillSystem rmX0_fillSystem).room s m (List.toArray [.ref h_t, .ref h_w]) below meth c D (va_A [(h_t, oF A_t c_t_unread c_t_below), (A_t 0, oG A_t_heaps), (A_t_heaps 0, eI cI 6 c_t_heaps_least), (A_t 1, oG A_t_pieces), (A_t_pieces 0, eI cI 6 c_t_pieces_least), (A_t 3, eQ cR 6 A_t_rows), (A_t_rows 0, eJ cJ 7 (c_t_rows 0)), (A_t_rows 1, eJ cJ 7 (c_t_rows 1)), (A_t_rows 2, eJ cJ 7 (c_t_rows 2)), (A_t_rows 3, eJ cJ 7 (c_t_rows 3)), (A_t_rows 4, eJ cJ 7 (c_t_rows 4)), (A_t_rows 5, eJ cJ 7 (c_t_rows 5)), (A_t 4, eJ cJ 6 c_t_surplus), (h_w, oW A_w c_w_knots c_w_flows c_w_readSet), (A_w 0, eI cI 10 c_w_from), (A_w 1, eI cI 10 c_w_to), (A_w 2, eI cI 10 c_w_reading), (A_w 3, eI cI 10 c_w_miss)] sz) 4 0 0 (MQ below (yQv D (yT cI cJ cZ cW cR) [(h_t, oF A_t c_t_unread c_t_below), (A_t 0, oG A_t_heaps), (A_t_heaps 0, eI cI 6 c_t_heaps_least), (A_t 1, oG A_t_pieces), (A_t_pieces 0, eI cI 6 c_t_pieces_least), (A_t 3, eQ cR 6 A_t_rows), (A_t_rows 0, eJ cJ 7 (zc_t_rows 0)), (A_t_rows 1, eJ cJ 7 (zc_t_rows 1)), (A_t_rows 2, eJ cJ 7 (zc_t_rows 2)), (A_t_rows 3, eJ cJ 7 (zc_t_rows 3)), (A_t_rows 4, eJ cJ 7 (zc_t_rows 4)), (A_t_rows 5, eJ cJ 7 (zc_t_rows 5)), (A_t 4, eJ cJ 6 zc_t_surplus), (h_w, oW A_w c_w_knots c_w_flows c_w_readSet), (A_w 0, eI cI 10 c_w_from), (A_w 1, eI cI 10 c_w_to), (A_w 2, eI cI 10 c_w_reading), (A_w 3, eI cI 10 c_w_miss)] (va_A [(h_t, oF A_t c_t_unread c_t_below), (A_t 0, oG A_t_heaps), (A_t_heaps 0, eI cI 6 c_t_heaps_least), (A_t 1, oG A_t_pieces), (A_t_pieces 0, eI cI 6 c_t_pieces_least), (A_t 3, eQ cR 6 A_t_rows), (A_t_rows 0, eJ cJ 7 (c_t_rows 0)), (A_t_rows 1, eJ cJ 7 (c_t_rows 1)), (A_t_rows 2, eJ cJ 7 (c_t_rows 2)), (A_t_rows 3, eJ cJ 7 (c_t_rows 3)), (A_t_rows 4, eJ cJ 7 (c_t_rows 4)), (A_t_rows 5, eJ cJ 7 (c_t_rows 5)), (A_t 4, eJ cJ 6 c_t_surplus), (h_w, oW A_w c_w_knots c_w_flows c_w_readSet), (A_w 0, eI cI 10 c_w_from), (A_w 1, eI cI 10 c_w_to), (A_w 2, eI cI 10 c_w_reading), (A_w 3, eI cI 10 c_w_miss)] sz)) (List.toArray [.ref h_t, .ref h_w]) s 0 0 (va_A [(h_t, oF A_t c_t_unread c_t_below), (A_t 0, oG A_t_heaps), (A_t_heaps 0, eI cI 6 c_t_heaps_least), (A_t 1, oG A_t_pieces), (A_t_pieces 0, eI cI 6 c_t_pieces_least), (A_t 3, eQ cR 6 A_t_rows), (A_t_rows 0, eJ cJ 7 (c_t_rows 0)), (A_t_rows 1, eJ cJ 7 (c_t_rows 1)), (A_t_rows 2, eJ cJ 7 (c_t_rows 2)), (A_t_rows 3, eJ cJ 7 (c_t_rows 3)), (A_t_rows 4, eJ cJ 7 (c_t_rows 4)), (A_t_rows 5, eJ cJ 7 (c_t_rows 5)), (A_t 4, eJ cJ 6 c_t_surplus), (h_w, oW A_w c_w_knots c_w_flows c_w_readSet), (A_w 0, eI cI 10 c_w_from), (A_w 1, eI cI 10 c_w_to), (A_w 2, eI cI 10 c_w_reading), (A_w 3, eI cI 10 c_w_miss)] sz)) 33 [(0, .ref h_t), (1, .ref h_w), (2, .int y2)] [] [(h_t, oF A_t d_t_unread d_t_below), (A_t 0, oG A_t_heaps), (A_t_heaps 0, eI cI 6 d_t_heaps_least), (A_t 1, oG A_t_pieces), (A_t_pieces 0, eI cI 6 d_t_pieces_least), (A_t 3, eQ cR 6 A_t_rows), (A_t_rows 0, eJ cJ 7 (w0 0)), (A_t_rows 1, eJ cJ 7 (w0 1)), (A_t_rows 2, eJ cJ 7 (w0 2)), (A_t_rows 3, eJ cJ 7 (w0 3)), (A_t_rows 4, eJ cJ 7 (w0 4)), (A_t_rows 5, eJ cJ 7 (w0 5)), (A_t 4, eJ cJ 6 d_t_surplus), (h_w, oW A_w d_w_knots d_w_flows d_w_readSet), (A_w 0, eI cI 10 d_w_from), (A_w 1, eI cI 10 d_w_to), (A_w 2, eI cI 10 d_w_reading), (A_w 3, eI cI 10 d_w_miss)] → yG p l e (headSpec wsX0_fillSystem rmX0_fillSystem).room s m (List.toArray [.ref h_t, .ref h_w]) below meth c D (va_A [(h_t, oF A_t c_t_unread c_t_below), (A_t 0, oG A_t_heaps), (A_t_heaps 0, eI cI 6 c_t_heaps_least), (A_t 1, oG A_t_pieces), (A_t_pieces 0, eI cI 6 c_t_pieces_least), (A_t 3, eQ cR 6 A_t_rows), (A_t_rows 0, eJ cJ 7 (c_t_rows 0)), (A_t_rows 1, eJ cJ 7 (c_t_rows 1)), (A_t_rows 2, eJ cJ 7 (c_t_rows 2)), (A_t_rows 3, eJ cJ 7 (c_t_rows 3)), (A_t_rows 4, eJ cJ 7 (c_t_rows 4)), (A_t_rows 5, eJ cJ 7 (c_t_rows 5)), (A_t 4, eJ cJ 6 c_t_surplus), (h_w, oW A_w c_w_knots c_w_flows c_w_readSet), (A_w 0, eI cI 10 c_w_from), (A_w 1, eI cI 10 c_w_to), (A_w 2, eI cI 10 c_w_reading), (A_w 3, eI cI 10 c_w_miss)] sz) 4 0 0 (MQ below (yQv D (yT cI cJ cZ cW cR) [(h_t, oF A_t c_t_unread c_t_below), (A_t 0, oG A_t_heaps), (A_t_heaps 0, eI cI 6 c_t_heaps_least), (A_t 1, oG A_t_pieces), (A_t_pieces 0, eI cI 6 c_t_pieces_least), (A_t 3, eQ cR 6 A_t_rows), (A_t_rows 0, eJ cJ 7 (zc_t_rows 0)), (A_t_rows 1, eJ cJ 7 (zc_t_rows 1)), (A_t_rows 2, eJ cJ 7 (zc_t_rows 2)), (A_t_rows 3, eJ cJ 7 (zc_t_rows 3)), (A_t_rows 4, eJ cJ 7 (zc_t_rows 4)), (A_t_rows 5, eJ cJ 7 (zc_t_rows 5)), (A_t 4, eJ cJ 6 zc_t_surplus), (h_w, oW A_w c_w_knots c_w_flows c_w_readSet), (A_w 0, eI cI 10 c_w_from), (A_w 1, eI cI 10 c_w_to), (A_w 2, eI cI 10 c_w_reading), (A_w 3, eI cI 10 c_w_miss)] (va_A [(h_t, oF A_t c_t_unread c_t_below), (A_t 0, oG A_t_heaps), (A_t_heaps 0, eI cI 6 c_t_heaps_least), (A_t 1, oG A_t_pieces), (A_t_pieces 0, eI cI 6 c_t_pieces_least), (A_t 3, eQ cR 6 A_t_rows), (A_t_rows 0, eJ cJ 7 (c_t_rows 0)), (A_t_rows 1, eJ cJ 7 (c_t_rows 1)), (A_t_rows 2, eJ cJ 7 (c_t_rows 2)), (A_t_rows 3, eJ cJ 7 (c_t_rows 3)), (A_t_rows 4, eJ cJ 7 (c_t_rows 4)), (A_t_rows 5, eJ cJ 7 (c_t_rows 5)), (A_t 4, eJ cJ 6 c_t_surplus), (h_w, oW A_w c_w_knots c_w_flows c_w_readSet), (A_w 0, eI cI 10 c_w_from), (A_w 1, eI cI 10 c_w_to), (A_w 2, eI cI 10 c_w_reading), (A_w 3, eI cI 10 c_w_miss)] sz)) (List.toArray [.ref h_t, .ref h_w]) s 0 0 (va_A [(h_t, oF A_t c_t_unread c_t_below), (A_t 0, oG A_t_heaps), (A_t_heaps 0, eI cI 6 c_t_heaps_least), (A_t 1, oG A_t_pieces), (A_t_pieces 0, eI cI 6 c_t_pieces_least), (A_t 3, eQ cR 6 A_t_rows), (A_t_rows 0, eJ cJ 7 (c_t_rows 0)), (A_t_rows 1, eJ cJ 7 (c_t_rows 1)), (A_t_rows 2, eJ cJ 7 (c_t_rows 2)), (A_t_rows 3, eJ cJ 7 (c_t_rows 3)), (A_t_rows 4, eJ cJ 7 (c_t_rows 4)), (A_t_rows 5, eJ cJ 7 (c_t_rows 5)), (A_t 4, eJ cJ 6 c_t_surplus), (h_w, oW A_w c_w_knots c_w_flows c_w_readSet), (A_w 0, eI cI 10 c_w_from), (A_w 1, eI cI 10 c_w_to), (A_w 2, eI cI 10 c_w_reading), (A_w 3, eI cI 10 c_w_miss)] sz)) 12 [(0, .ref h_t), (1, .ref h_w), (2, .int y2), (3, .int y3)] [] [(h_t, oF A_t d_t_unread d_t_below), (A_t 0, oG A_t_heaps), (A_t_heaps 0, eI cI 6 d_t_heaps_least), (A_t 1, oG A_t_pieces), (A_t_pieces 0, eI cI 6 d_t_pieces_least), (A_t 3, eQ cR 6 A_t_rows), (A_t_rows 0, eJ cJ 7 (d_t_rows 0)), (A_t_rows 1, eJ cJ 7 (d_t_rows 1)), (A_t_rows 2, eJ cJ 7 (d_t_rows 2)), (A_t_rows 3, eJ cJ 7 (d_t_rows 3)), (A_t_rows 4, eJ cJ 7 (d_t_rows 4)), (A_t_rows 5, eJ cJ 7 (d_t_rows 5)), (A_t 4, eJ cJ 6 d_t_surplus), (h_w, oW A_w d_w_knots d_w_flows d_w_readSet), (A_w 0, eI cI 10 d_w_from), (A_w 1, eI cI 10 d_w_to), (A_w 2, eI cI 10 d_w_reading), (A_w 3, eI cI 10 d_w_miss)] := by
    intro n
    induction n with
    | zero =>
      intro y2 y3 d_t_unread d_t_below d_t_heaps_least d_t_pieces_least d_t_rows d_t_surplus d_w_knots d_w_flows d_w_readSet d_w_from d_w_to d_w_reading d_w_miss w0 hf
      cases hf
    | succ n ih =>
      intro y2 y3 d_t_unread d_t_below d_t_heaps_least d_t_pieces_least d_t_rows d_t_surplus d_w_knots d_w_flows d_w_readSet d_w_from d_w_to d_w_reading d_w_miss w0 hf hk
      unfold fX0_fillSystem_L12 at hf
      refine g_iload_n Γ 3 dX0_fillSystem_12 rfl ?_
      refine g_bipush (v := 6) Γ dX0_fillSystem_13 (by decide) ?_
      refine g_icmp_gt Γ 33 dX0_fillSystem_15 (by decide) (fun c2 => ?_) (fun c2 => ?_)
      · have hf := ya_if1 c2 hf
        cases hf
        refine g_lv [0, 1, 2] rfl ?_
        exact hk
      · have hf := ya_if2 c2 hf
        refine g_aload_n Γ 0 dX0_fillSystem_18 rfl ?_
        refine g_get Γ fX0_fillSystem_26 0 rfl rfl dX0_fillSystem_19 ?_
        refine g_iload_n Γ 2 dX0_fillSystem_22 rfl ?_
        obtain ⟨v3, e4, hf⟩ := ya_ob hf
        have h5 := ya_ix_lt e4
        refine g_aldR Γ e4 5 4 rfl rfl dX0_fillSystem_23 ?_
        refine g_iload_n Γ 3 dX0_fillSystem_24 rfl ?_
        refine g_lconst (v := 0) Γ dX0_fillSystem_25 (by decide) ?_
        obtain ⟨v6, e7, hf⟩ := ya_ob hf
        obtain ⟨v8, e9, hf⟩ := ya_lt_inv hf
        refine g_lastR (M := d_t_rows) (ws' := [(h_t, oF A_t d_t_unread d_t_below), (A_t 0, oG A_t_heaps), (A_t_heaps 0, eI cI 6 d_t_heaps_least), (A_t 1, oG A_t_pieces), (A_t_pieces 0, eI cI 6 d_t_pieces_least), (A_t 3, eQ cR 6 A_t_rows), (A_t_rows 0, eJ cJ 7 (v8 0)), (A_t_rows 1, eJ cJ 7 (v8 1)), (A_t_rows 2, eJ cJ 7 (v8 2)), (A_t_rows 3, eJ cJ 7 (v8 3)), (A_t_rows 4, eJ cJ 7 (v8 4)), (A_t_rows 5, eJ cJ 7 (v8 5)), (A_t 4, eJ cJ 6 d_t_surplus), (h_w, oW A_w d_w_knots d_w_flows d_w_readSet), (A_w 0, eI cI 10 d_w_from), (A_w 1, eI cI 10 d_w_to), (A_w 2, eI cI 10 d_w_reading), (A_w 3, eI cI 10 d_w_miss)]) Γ e7 h5 6 1 (ya_six rfl rfl rfl rfl rfl rfl) rfl dX0_fillSystem_26 (fun h => by subst e9 h; rfl) (fun h => by subst e9 h; rfl) (fun h => by subst e9 h; rfl) (fun h => by subst e9 h; rfl) (fun h => by subst e9 h; rfl) (fun h => by subst e9 h; rfl) ?_
        obtain ⟨v10, e11, hf⟩ := ya_lt_inv hf
        refine g_iinc (lv' := [(3, .int v10), (0, .ref h_t), (1, .ref h_w), (2, .int y2)]) Γ 3 dX0_fillSystem_27 rfl (by rw [e11]; rfl) (by decide) rfl ?_
        refine g_goto Γ 12 dX0_fillSystem_30 (by decide) ?_
        refine g_lv [1, 2, 3, 0] rfl ?_
        exact ih _ _ _ _ _ _ _ _ _ _ _ _ _ _ _ _ hf hk
  have loop2 : ∀ (n : Nat) (y2 : Int32) (d_t_unread : Int32) (d_t_below : Int64) (d_t_heaps_least : Nat → Int32) (d_t_pieces_least : Nat → Int32) (d_t_rows : Nat → Nat → Int64) (d_t_surplus : Nat → Int64) (d_w_knots : Int32) (d_w_flows : Int32) (d_w_readSet : Int32) (d_w_from : Nat → Int32) (d_w_to : Nat → Int32) (d_w_reading : Nat → Int32) (d_w_miss : Nat → Int32) (w0 : Nat → Nat → Int64) (w1 : Nat → Int64), fX0_fillSystem_L2 N n y2 d_t_heaps_least d_t_pieces_least d_t_rows d_t_surplus d_w_knots = some (w0, w1) → yG p l e (headSpec wsX0_fillSystem rmX0_fillSystem).room s m (List.toArray [.ref h_t, .ref h_w]) below meth c D (va_A [(h_t, oF A_t c_t_unread c_t_below), (A_t 0, oG A_t_heaps), (A_t_heaps 0, eI cI 6 c_t_heaps_least), (A_t 1, oG A_t_pieces), (A_t_pieces 0, eI cI 6 c_t_pieces_least), (A_t 3, eQ cR 6 A_t_rows), (A_t_rows 0, eJ cJ 7 (c_t_rows 0)), (A_t_rows 1, eJ cJ 7 (c_t_rows 1)), (A_t_rows 2, eJ cJ 7 (c_t_rows 2)), (A_t_rows 3, eJ cJ 7 (c_t_rows 3)), (A_t_rows 4, eJ cJ 7 (c_t_rows 4)), (A_t_rows 5, eJ cJ 7 (c_t_rows 5)), (A_t 4, eJ cJ 6 c_t_surplus), (h_w, oW A_w c_w_knots c_w_flows c_w_readSet), (A_w 0, eI cI 10 c_w_from), (A_w 1, eI cI 10 c_w_to), (A_w 2, eI cI 10 c_w_reading), (A_w 3, eI cI 10 c_w_miss)] sz) 4 0 0 (MQ below (yQv D (yT cI cJ cZ cW cR) [(h_t, oF A_t c_t_unread c_t_below), (A_t 0, oG A_t_heaps), (A_t_heaps 0, eI cI 6 c_t_heaps_least), (A_t 1, oG A_t_pieces), (A_t_pieces 0, eI cI 6 c_t_pieces_least), (A_t 3, eQ cR 6 A_t_rows), (A_t_rows 0, eJ cJ 7 (zc_t_rows 0)), (A_t_rows 1, eJ cJ 7 (zc_t_rows 1)), (A_t_rows 2, eJ cJ 7 (zc_t_rows 2)), (A_t_rows 3, eJ cJ 7 (zc_t_rows 3)), (A_t_rows 4, eJ cJ 7 (zc_t_rows 4)), (A_t_rows 5, eJ cJ 7 (zc_t_rows 5)), (A_t 4, eJ cJ 6 zc_t_surplus), (h_w, oW A_w c_w_knots c_w_flows c_w_readSet), (A_w 0, eI cI 10 c_w_from), (A_w 1, eI cI 10 c_w_to), (A_w 2, eI cI 10 c_w_reading), (A_w 3, eI cI 10 c_w_miss)] (va_A [(h_t, oF A_t c_t_unread c_t_below), (A_t 0, oG A_t_heaps), (A_t_heaps 0, eI cI 6 c_t_heaps_least), (A_t 1, oG A_t_pieces), (A_t_pieces 0, eI cI 6 c_t_pieces_least), (A_t 3, eQ cR 6 A_t_rows), (A_t_rows 0, eJ cJ 7 (c_t_rows 0)), (A_t_rows 1, eJ cJ 7 (c_t_rows 1)), (A_t_rows 2, eJ cJ 7 (c_t_rows 2)), (A_t_rows 3, eJ cJ 7 (c_t_rows 3)), (A_t_rows 4, eJ cJ 7 (c_t_rows 4)), (A_t_rows 5, eJ cJ 7 (c_t_rows 5)), (A_t 4, eJ cJ 6 c_t_surplus), (h_w, oW A_w c_w_knots c_w_flows c_w_readSet), (A_w 0, eI cI 10 c_w_from), (A_w 1, eI cI 10 c_w_to), (A_w 2, eI cI 10 c_w_reading), (A_w 3, eI cI 10 c_w_miss)] sz)) (List.toArray [.ref h_t, .ref h_w]) s 0 0 (va_A [(h_t, oF A_t c_t_unread c_t_below), (A_t 0, oG A_t_heaps), (A_t_heaps 0, eI cI 6 c_t_heaps_least), (A_t 1, oG A_t_pieces), (A_t_pieces 0, eI cI 6 c_t_pieces_least), (A_t 3, eQ cR 6 A_t_rows), (A_t_rows 0, eJ cJ 7 (c_t_rows 0)), (A_t_rows 1, eJ cJ 7 (c_t_rows 1)), (A_t_rows 2, eJ cJ 7 (c_t_rows 2)), (A_t_rows 3, eJ cJ 7 (c_t_rows 3)), (A_t_rows 4, eJ cJ 7 (c_t_rows 4)), (A_t_rows 5, eJ cJ 7 (c_t_rows 5)), (A_t 4, eJ cJ 6 c_t_surplus), (h_w, oW A_w c_w_knots c_w_flows c_w_readSet), (A_w 0, eI cI 10 c_w_from), (A_w 1, eI cI 10 c_w_to), (A_w 2, eI cI 10 c_w_reading), (A_w 3, eI cI 10 c_w_miss)] sz)) 67 [(0, .ref h_t), (1, .ref h_w)] [] [(h_t, oF A_t d_t_unread d_t_below), (A_t 0, oG A_t_heaps), (A_t_heaps 0, eI cI 6 d_t_heaps_least), (A_t 1, oG A_t_pieces), (A_t_pieces 0, eI cI 6 d_t_pieces_least), (A_t 3, eQ cR 6 A_t_rows), (A_t_rows 0, eJ cJ 7 (w0 0)), (A_t_rows 1, eJ cJ 7 (w0 1)), (A_t_rows 2, eJ cJ 7 (w0 2)), (A_t_rows 3, eJ cJ 7 (w0 3)), (A_t_rows 4, eJ cJ 7 (w0 4)), (A_t_rows 5, eJ cJ 7 (w0 5)), (A_t 4, eJ cJ 6 w1), (h_w, oW A_w d_w_knots d_w_flows d_w_readSet), (A_w 0, eI cI 10 d_w_from), (A_w 1, eI cI 10 d_w_to), (A_w 2, eI cI 10 d_w_reading), (A_w 3, eI cI 10 d_w_miss)] → yG p l e (headSpec wsX0_fillSystem rmX0_fillSystem).room s m (List.toArray [.ref h_t, .ref h_w]) below meth c D (va_A [(h_t, oF A_t c_t_unread c_t_below), (A_t 0, oG A_t_heaps), (A_t_heaps 0, eI cI 6 c_t_heaps_least), (A_t 1, oG A_t_pieces), (A_t_pieces 0, eI cI 6 c_t_pieces_least), (A_t 3, eQ cR 6 A_t_rows), (A_t_rows 0, eJ cJ 7 (c_t_rows 0)), (A_t_rows 1, eJ cJ 7 (c_t_rows 1)), (A_t_rows 2, eJ cJ 7 (c_t_rows 2)), (A_t_rows 3, eJ cJ 7 (c_t_rows 3)), (A_t_rows 4, eJ cJ 7 (c_t_rows 4)), (A_t_rows 5, eJ cJ 7 (c_t_rows 5)), (A_t 4, eJ cJ 6 c_t_surplus), (h_w, oW A_w c_w_knots c_w_flows c_w_readSet), (A_w 0, eI cI 10 c_w_from), (A_w 1, eI cI 10 c_w_to), (A_w 2, eI cI 10 c_w_reading), (A_w 3, eI cI 10 c_w_miss)] sz) 4 0 0 (MQ below (yQv D (yT cI cJ cZ cW cR) [(h_t, oF A_t c_t_unread c_t_below), (A_t 0, oG A_t_heaps), (A_t_heaps 0, eI cI 6 c_t_heaps_least), (A_t 1, oG A_t_pieces), (A_t_pieces 0, eI cI 6 c_t_pieces_least), (A_t 3, eQ cR 6 A_t_rows), (A_t_rows 0, eJ cJ 7 (zc_t_rows 0)), (A_t_rows 1, eJ cJ 7 (zc_t_rows 1)), (A_t_rows 2, eJ cJ 7 (zc_t_rows 2)), (A_t_rows 3, eJ cJ 7 (zc_t_rows 3)), (A_t_rows 4, eJ cJ 7 (zc_t_rows 4)), (A_t_rows 5, eJ cJ 7 (zc_t_rows 5)), (A_t 4, eJ cJ 6 zc_t_surplus), (h_w, oW A_w c_w_knots c_w_flows c_w_readSet), (A_w 0, eI cI 10 c_w_from), (A_w 1, eI cI 10 c_w_to), (A_w 2, eI cI 10 c_w_reading), (A_w 3, eI cI 10 c_w_miss)] (va_A [(h_t, oF A_t c_t_unread c_t_below), (A_t 0, oG A_t_heaps), (A_t_heaps 0, eI cI 6 c_t_heaps_least), (A_t 1, oG A_t_pieces), (A_t_pieces 0, eI cI 6 c_t_pieces_least), (A_t 3, eQ cR 6 A_t_rows), (A_t_rows 0, eJ cJ 7 (c_t_rows 0)), (A_t_rows 1, eJ cJ 7 (c_t_rows 1)), (A_t_rows 2, eJ cJ 7 (c_t_rows 2)), (A_t_rows 3, eJ cJ 7 (c_t_rows 3)), (A_t_rows 4, eJ cJ 7 (c_t_rows 4)), (A_t_rows 5, eJ cJ 7 (c_t_rows 5)), (A_t 4, eJ cJ 6 c_t_surplus), (h_w, oW A_w c_w_knots c_w_flows c_w_readSet), (A_w 0, eI cI 10 c_w_from), (A_w 1, eI cI 10 c_w_to), (A_w 2, eI cI 10 c_w_reading), (A_w 3, eI cI 10 c_w_miss)] sz)) (List.toArray [.ref h_t, .ref h_w]) s 0 0 (va_A [(h_t, oF A_t c_t_unread c_t_below), (A_t 0, oG A_t_heaps), (A_t_heaps 0, eI cI 6 c_t_heaps_least), (A_t 1, oG A_t_pieces), (A_t_pieces 0, eI cI 6 c_t_pieces_least), (A_t 3, eQ cR 6 A_t_rows), (A_t_rows 0, eJ cJ 7 (c_t_rows 0)), (A_t_rows 1, eJ cJ 7 (c_t_rows 1)), (A_t_rows 2, eJ cJ 7 (c_t_rows 2)), (A_t_rows 3, eJ cJ 7 (c_t_rows 3)), (A_t_rows 4, eJ cJ 7 (c_t_rows 4)), (A_t_rows 5, eJ cJ 7 (c_t_rows 5)), (A_t 4, eJ cJ 6 c_t_surplus), (h_w, oW A_w c_w_knots c_w_flows c_w_readSet), (A_w 0, eI cI 10 c_w_from), (A_w 1, eI cI 10 c_w_to), (A_w 2, eI cI 10 c_w_reading), (A_w 3, eI cI 10 c_w_miss)] sz)) 2 [(0, .ref h_t), (1, .ref h_w), (2, .int y2)] [] [(h_t, oF A_t d_t_unread d_t_below), (A_t 0, oG A_t_heaps), (A_t_heaps 0, eI cI 6 d_t_heaps_least), (A_t 1, oG A_t_pieces), (A_t_pieces 0, eI cI 6 d_t_pieces_least), (A_t 3, eQ cR 6 A_t_rows), (A_t_rows 0, eJ cJ 7 (d_t_rows 0)), (A_t_rows 1, eJ cJ 7 (d_t_rows 1)), (A_t_rows 2, eJ cJ 7 (d_t_rows 2)), (A_t_rows 3, eJ cJ 7 (d_t_rows 3)), (A_t_rows 4, eJ cJ 7 (d_t_rows 4)), (A_t_rows 5, eJ cJ 7 (d_t_rows 5)), (A_t 4, eJ cJ 6 d_t_surplus), (h_w, oW A_w d_w_knots d_w_flows d_w_readSet), (A_w 0, eI cI 10 d_w_from), (A_w 1, eI cI 10 d_w_to), (A_w 2, eI cI 10 d_w_reading), (A_w 3, eI cI 10 d_w_miss)] := by
    intro n
    induction n with
    | zero =>
      intro y2 d_t_unread d_t_below d_t_heaps_least d_t_pieces_least d_t_rows d_t_surplus d_w_knots d_w_flows d_w_readSet d_w_from d_w_to d_w_reading d_w_miss w0 w1 hf
      cases hf
    | succ n ih =>
      intro y2 d_t_unread d_t_below d_t_heaps_least d_t_pieces_least d_t_rows d_t_surplus d_w_knots d_w_flows d_w_readSet d_w_from d_w_to d_w_reading d_w_miss w0 w1 hf hk
      unfold fX0_fillSystem_L2 at hf
      refine g_iload_n Γ 2 dX0_fillSystem_2 rfl ?_
      refine g_aload_n Γ 1 dX0_fillSystem_3 rfl ?_
      refine g_get Γ fX0_fillSystem_55 13 rfl rfl dX0_fillSystem_4 ?_
      refine g_icmp_ge Γ 67 dX0_fillSystem_7 (by decide) (fun c1 => ?_) (fun c1 => ?_)
      · have hf := ya_if1 c1 hf
        cases hf
        refine g_lv [0, 1] rfl ?_
        exact hk
      · have hf := ya_if2 c1 hf
        refine g_iconst (v := 0) Γ dX0_fillSystem_10 (by decide) ?_
        refine g_istore_n (lv' := [(3, .int 0), (0, .ref h_t), (1, .ref h_w), (2, .int y2)]) Γ dX0_fillSystem_11 (by decide) rfl ?_
        obtain ⟨v12, e13, hf⟩ := ya_ob hf
        refine g_lv [1, 2, 3, 0] rfl ?_
        refine loop12 N _ _ _ _ _ _ _ _ _ _ _ _ _ _ _ _ e13  ?_
        refine g_aload_n Γ 0 dX0_fillSystem_33 rfl ?_
        refine g_get Γ fX0_fillSystem_26 0 rfl rfl dX0_fillSystem_34 ?_
        refine g_iload_n Γ 2 dX0_fillSystem_37 rfl ?_
        obtain ⟨v14, e15, hf⟩ := ya_ob hf
        have h16 := ya_ix_lt e15
        refine g_aldR Γ e15 5 4 rfl rfl dX0_fillSystem_38 ?_
        refine g_iload_n Γ 2 dX0_fillSystem_39 rfl ?_
        refine g_aload_n Γ 0 dX0_fillSystem_40 rfl ?_
        refine g_iload_n Γ 2 dX0_fillSystem_41 rfl ?_
        obtain ⟨v17, e18, hf⟩ := ya_ob hf
        refine g_vi (q := (RX0, TX0, 7)) (wr := [(A_t 3, eQ cR 6 A_t_rows), (A_t_rows 0, eJ cJ 7 (v12 0)), (A_t_rows 1, eJ cJ 7 (v12 1)), (A_t_rows 2, eJ cJ 7 (v12 2)), (A_t_rows 3, eJ cJ 7 (v12 3)), (A_t_rows 4, eJ cJ 7 (v12 4)), (A_t_rows 5, eJ cJ 7 (v12 5)), (A_t 4, eJ cJ 6 d_t_surplus), (h_w, oW A_w d_w_knots d_w_flows d_w_readSet), (A_w 0, eI cI 10 d_w_from), (A_w 1, eI cI 10 d_w_to), (A_w 2, eI cI 10 d_w_reading), (A_w 3, eI cI 10 d_w_miss)]) (ws' := [(A_t 3, eQ cR 6 A_t_rows), (A_t_rows 0, eJ cJ 7 (v12 0)), (A_t_rows 1, eJ cJ 7 (v12 1)), (A_t_rows 2, eJ cJ 7 (v12 2)), (A_t_rows 3, eJ cJ 7 (v12 3)), (A_t_rows 4, eJ cJ 7 (v12 4)), (A_t_rows 5, eJ cJ 7 (v12 5)), (A_t 4, eJ cJ 6 d_t_surplus), (h_w, oW A_w d_w_knots d_w_flows d_w_readSet), (A_w 0, eI cI 10 d_w_from), (A_w 1, eI cI 10 d_w_to), (A_w 2, eI cI 10 d_w_reading), (A_w 3, eI cI 10 d_w_miss), (h_t, oF A_t d_t_unread d_t_below), (A_t 0, oG A_t_heaps), (A_t_heaps 0, eI cI 6 d_t_heaps_least), (A_t 1, oG A_t_pieces), (A_t_pieces 0, eI cI 6 d_t_pieces_least)]) Γ (fun sz => mX0_hasRow (l := l) (D := D) (sz := sz) (cI := cI) (cJ := cJ) (cZ := cZ) (cW := cW) (cR := cR) (h_t := h_t) (A_t := A_t) (A_t_heaps := A_t_heaps) (A_t_pieces := A_t_pieces) (hf := e18)) eX0_hasRow gX0_fillSystem_X0_hasRow rfl rfl 0 rfl rfl rfl (Nat.le_of_ble_eq_true rfl) ⟨Nat.le_of_ble_eq_true rfl, Nat.le_of_ble_eq_true rfl⟩ dX0_fillSystem_42 [0, 1, 2, 3, 4] [5, 6, 7, 8, 9, 10, 11, 12, 13, 14, 15, 16, 17] rfl rfl rfl rfl (by decide) rfl ?_
        refine g_if_eq Γ 52 dX0_fillSystem_45 (by decide) (fun c19 => ?_) (fun c19 => ?_)
        · have hf := ya_if1 c19 hf
          refine g_lconst (v := 1) Γ dX0_fillSystem_52 (by decide) ?_
          obtain ⟨v20, e21, hf⟩ := ya_ob hf
          obtain ⟨v22, e23, hf⟩ := ya_lt_inv hf
          refine g_lastR (M := v12) (ws' := [(A_t 3, eQ cR 6 A_t_rows), (A_t_rows 0, eJ cJ 7 (v22 0)), (A_t_rows 1, eJ cJ 7 (v22 1)), (A_t_rows 2, eJ cJ 7 (v22 2)), (A_t_rows 3, eJ cJ 7 (v22 3)), (A_t_rows 4, eJ cJ 7 (v22 4)), (A_t_rows 5, eJ cJ 7 (v22 5)), (A_t 4, eJ cJ 6 d_t_surplus), (h_w, oW A_w d_w_knots d_w_flows d_w_readSet), (A_w 0, eI cI 10 d_w_from), (A_w 1, eI cI 10 d_w_to), (A_w 2, eI cI 10 d_w_reading), (A_w 3, eI cI 10 d_w_miss), (h_t, oF A_t d_t_unread d_t_below), (A_t 0, oG A_t_heaps), (A_t_heaps 0, eI cI 6 d_t_heaps_least), (A_t 1, oG A_t_pieces), (A_t_pieces 0, eI cI 6 d_t_pieces_least)]) Γ e21 h16 1 1 (ya_six rfl rfl rfl rfl rfl rfl) rfl dX0_fillSystem_53 (fun h => by subst e23 h; rfl) (fun h => by subst e23 h; rfl) (fun h => by subst e23 h; rfl) (fun h => by subst e23 h; rfl) (fun h => by subst e23 h; rfl) (fun h => by subst e23 h; rfl) ?_
          refine g_aload_n Γ 0 dX0_fillSystem_54 rfl ?_
          refine g_get Γ fX0_fillSystem_29 13 rfl rfl dX0_fillSystem_55 ?_
          refine g_iload_n Γ 2 dX0_fillSystem_58 rfl ?_
          refine g_lconst (v := 0) Γ dX0_fillSystem_59 (by decide) ?_
          obtain ⟨v24, e25, hf⟩ := ya_ob hf
          refine g_last (ws' := [(A_t 3, eQ cR 6 A_t_rows), (A_t_rows 0, eJ cJ 7 (v22 0)), (A_t_rows 1, eJ cJ 7 (v22 1)), (A_t_rows 2, eJ cJ 7 (v22 2)), (A_t_rows 3, eJ cJ 7 (v22 3)), (A_t_rows 4, eJ cJ 7 (v22 4)), (A_t_rows 5, eJ cJ 7 (v22 5)), (A_t 4, eJ cJ 6 v24), (h_w, oW A_w d_w_knots d_w_flows d_w_readSet), (A_w 0, eI cI 10 d_w_from), (A_w 1, eI cI 10 d_w_to), (A_w 2, eI cI 10 d_w_reading), (A_w 3, eI cI 10 d_w_miss), (h_t, oF A_t d_t_unread d_t_below), (A_t 0, oG A_t_heaps), (A_t_heaps 0, eI cI 6 d_t_heaps_least), (A_t 1, oG A_t_pieces), (A_t_pieces 0, eI cI 6 d_t_pieces_least)]) Γ e25 7 1 rfl rfl dX0_fillSystem_60 rfl ?_
          obtain ⟨v26, e27, hf⟩ := ya_lt_inv hf
          refine g_iinc (lv' := [(2, .int v26), (0, .ref h_t), (1, .ref h_w)]) Γ 2 dX0_fillSystem_61 rfl (by rw [e27]; rfl) (by decide) rfl ?_
          refine g_goto Γ 2 dX0_fillSystem_64 (by decide) ?_
          refine g_lv [1, 2, 0] rfl ?_
          refine g_ws (ws' := [(h_t, oF A_t d_t_unread d_t_below), (A_t 0, oG A_t_heaps), (A_t_heaps 0, eI cI 6 d_t_heaps_least), (A_t 1, oG A_t_pieces), (A_t_pieces 0, eI cI 6 d_t_pieces_least), (A_t 3, eQ cR 6 A_t_rows), (A_t_rows 0, eJ cJ 7 (v22 0)), (A_t_rows 1, eJ cJ 7 (v22 1)), (A_t_rows 2, eJ cJ 7 (v22 2)), (A_t_rows 3, eJ cJ 7 (v22 3)), (A_t_rows 4, eJ cJ 7 (v22 4)), (A_t_rows 5, eJ cJ 7 (v22 5)), (A_t 4, eJ cJ 6 v24), (h_w, oW A_w d_w_knots d_w_flows d_w_readSet), (A_w 0, eI cI 10 d_w_from), (A_w 1, eI cI 10 d_w_to), (A_w 2, eI cI 10 d_w_reading), (A_w 3, eI cI 10 d_w_miss)]) [13, 14, 15, 16, 17, 0, 1, 2, 3, 4, 5, 6, 7, 8, 9, 10, 11, 12] rfl rfl ?_
          exact ih _ _ _ _ _ _ _ _ _ _ _ _ _ _ _ _ hf hk
        · have hf := ya_if2 c19 hf
          refine g_lconst (v := 0) Γ dX0_fillSystem_48 (by decide) ?_
          refine g_goto Γ 53 dX0_fillSystem_49 (by decide) ?_
          obtain ⟨v28, e29, hf⟩ := ya_ob hf
          obtain ⟨v30, e31, hf⟩ := ya_lt_inv hf
          refine g_lastR (M := v12) (ws' := [(A_t 3, eQ cR 6 A_t_rows), (A_t_rows 0, eJ cJ 7 (v30 0)), (A_t_rows 1, eJ cJ 7 (v30 1)), (A_t_rows 2, eJ cJ 7 (v30 2)), (A_t_rows 3, eJ cJ 7 (v30 3)), (A_t_rows 4, eJ cJ 7 (v30 4)), (A_t_rows 5, eJ cJ 7 (v30 5)), (A_t 4, eJ cJ 6 d_t_surplus), (h_w, oW A_w d_w_knots d_w_flows d_w_readSet), (A_w 0, eI cI 10 d_w_from), (A_w 1, eI cI 10 d_w_to), (A_w 2, eI cI 10 d_w_reading), (A_w 3, eI cI 10 d_w_miss), (h_t, oF A_t d_t_unread d_t_below), (A_t 0, oG A_t_heaps), (A_t_heaps 0, eI cI 6 d_t_heaps_least), (A_t 1, oG A_t_pieces), (A_t_pieces 0, eI cI 6 d_t_pieces_least)]) Γ e29 h16 1 1 (ya_six rfl rfl rfl rfl rfl rfl) rfl dX0_fillSystem_53 (fun h => by subst e31 h; rfl) (fun h => by subst e31 h; rfl) (fun h => by subst e31 h; rfl) (fun h => by subst e31 h; rfl) (fun h => by subst e31 h; rfl) (fun h => by subst e31 h; rfl) ?_
          refine g_aload_n Γ 0 dX0_fillSystem_54 rfl ?_
          refine g_get Γ fX0_fillSystem_29 13 rfl rfl dX0_fillSystem_55 ?_
          refine g_iload_n Γ 2 dX0_fillSystem_58 rfl ?_
          refine g_lconst (v := 0) Γ dX0_fillSystem_59 (by decide) ?_
          obtain ⟨v32, e33, hf⟩ := ya_ob hf
          refine g_last (ws' := [(A_t 3, eQ cR 6 A_t_rows), (A_t_rows 0, eJ cJ 7 (v30 0)), (A_t_rows 1, eJ cJ 7 (v30 1)), (A_t_rows 2, eJ cJ 7 (v30 2)), (A_t_rows 3, eJ cJ 7 (v30 3)), (A_t_rows 4, eJ cJ 7 (v30 4)), (A_t_rows 5, eJ cJ 7 (v30 5)), (A_t 4, eJ cJ 6 v32), (h_w, oW A_w d_w_knots d_w_flows d_w_readSet), (A_w 0, eI cI 10 d_w_from), (A_w 1, eI cI 10 d_w_to), (A_w 2, eI cI 10 d_w_reading), (A_w 3, eI cI 10 d_w_miss), (h_t, oF A_t d_t_unread d_t_below), (A_t 0, oG A_t_heaps), (A_t_heaps 0, eI cI 6 d_t_heaps_least), (A_t 1, oG A_t_pieces), (A_t_pieces 0, eI cI 6 d_t_pieces_least)]) Γ e33 7 1 rfl rfl dX0_fillSystem_60 rfl ?_
          obtain ⟨v34, e35, hf⟩ := ya_lt_inv hf
          refine g_iinc (lv' := [(2, .int v34), (0, .ref h_t), (1, .ref h_w)]) Γ 2 dX0_fillSystem_61 rfl (by rw [e35]; rfl) (by decide) rfl ?_
          refine g_goto Γ 2 dX0_fillSystem_64 (by decide) ?_
          refine g_lv [1, 2, 0] rfl ?_
          refine g_ws (ws' := [(h_t, oF A_t d_t_unread d_t_below), (A_t 0, oG A_t_heaps), (A_t_heaps 0, eI cI 6 d_t_heaps_least), (A_t 1, oG A_t_pieces), (A_t_pieces 0, eI cI 6 d_t_pieces_least), (A_t 3, eQ cR 6 A_t_rows), (A_t_rows 0, eJ cJ 7 (v30 0)), (A_t_rows 1, eJ cJ 7 (v30 1)), (A_t_rows 2, eJ cJ 7 (v30 2)), (A_t_rows 3, eJ cJ 7 (v30 3)), (A_t_rows 4, eJ cJ 7 (v30 4)), (A_t_rows 5, eJ cJ 7 (v30 5)), (A_t 4, eJ cJ 6 v32), (h_w, oW A_w d_w_knots d_w_flows d_w_readSet), (A_w 0, eI cI 10 d_w_from), (A_w 1, eI cI 10 d_w_to), (A_w 2, eI cI 10 d_w_reading), (A_w 3, eI cI 10 d_w_miss)]) [13, 14, 15, 16, 17, 0, 1, 2, 3, 4, 5, 6, 7, 8, 9, 10, 11, 12] rfl rfl ?_
          exact ih _ _ _ _ _ _ _ _ _ _ _ _ _ _ _ _ hf hk
  have loop69 : ∀ (n : Nat) (y2 : Int32) (d_t_unread : Int32) (d_t_below : Int64) (d_t_heaps_least : Nat → Int32) (d_t_pieces_least : Nat → Int32) (d_t_rows : Nat → Nat → Int64) (d_t_surplus : Nat → Int64) (d_w_knots : Int32) (d_w_flows : Int32) (d_w_readSet : Int32) (d_w_from : Nat → Int32) (d_w_to : Nat → Int32) (d_w_reading : Nat → Int32) (d_w_miss : Nat → Int32) (w0 : Nat → Nat → Int64) (w1 : Nat → Int64), fX0_fillSystem_L69 N n y2 d_t_unread d_t_heaps_least d_t_pieces_least d_t_rows d_t_surplus d_w_flows d_w_from d_w_to d_w_reading d_w_miss = some (w0, w1) → yG p l e (headSpec wsX0_fillSystem rmX0_fillSystem).room s m (List.toArray [.ref h_t, .ref h_w]) below meth c D (va_A [(h_t, oF A_t c_t_unread c_t_below), (A_t 0, oG A_t_heaps), (A_t_heaps 0, eI cI 6 c_t_heaps_least), (A_t 1, oG A_t_pieces), (A_t_pieces 0, eI cI 6 c_t_pieces_least), (A_t 3, eQ cR 6 A_t_rows), (A_t_rows 0, eJ cJ 7 (c_t_rows 0)), (A_t_rows 1, eJ cJ 7 (c_t_rows 1)), (A_t_rows 2, eJ cJ 7 (c_t_rows 2)), (A_t_rows 3, eJ cJ 7 (c_t_rows 3)), (A_t_rows 4, eJ cJ 7 (c_t_rows 4)), (A_t_rows 5, eJ cJ 7 (c_t_rows 5)), (A_t 4, eJ cJ 6 c_t_surplus), (h_w, oW A_w c_w_knots c_w_flows c_w_readSet), (A_w 0, eI cI 10 c_w_from), (A_w 1, eI cI 10 c_w_to), (A_w 2, eI cI 10 c_w_reading), (A_w 3, eI cI 10 c_w_miss)] sz) 4 0 0 (MQ below (yQv D (yT cI cJ cZ cW cR) [(h_t, oF A_t c_t_unread c_t_below), (A_t 0, oG A_t_heaps), (A_t_heaps 0, eI cI 6 c_t_heaps_least), (A_t 1, oG A_t_pieces), (A_t_pieces 0, eI cI 6 c_t_pieces_least), (A_t 3, eQ cR 6 A_t_rows), (A_t_rows 0, eJ cJ 7 (zc_t_rows 0)), (A_t_rows 1, eJ cJ 7 (zc_t_rows 1)), (A_t_rows 2, eJ cJ 7 (zc_t_rows 2)), (A_t_rows 3, eJ cJ 7 (zc_t_rows 3)), (A_t_rows 4, eJ cJ 7 (zc_t_rows 4)), (A_t_rows 5, eJ cJ 7 (zc_t_rows 5)), (A_t 4, eJ cJ 6 zc_t_surplus), (h_w, oW A_w c_w_knots c_w_flows c_w_readSet), (A_w 0, eI cI 10 c_w_from), (A_w 1, eI cI 10 c_w_to), (A_w 2, eI cI 10 c_w_reading), (A_w 3, eI cI 10 c_w_miss)] (va_A [(h_t, oF A_t c_t_unread c_t_below), (A_t 0, oG A_t_heaps), (A_t_heaps 0, eI cI 6 c_t_heaps_least), (A_t 1, oG A_t_pieces), (A_t_pieces 0, eI cI 6 c_t_pieces_least), (A_t 3, eQ cR 6 A_t_rows), (A_t_rows 0, eJ cJ 7 (c_t_rows 0)), (A_t_rows 1, eJ cJ 7 (c_t_rows 1)), (A_t_rows 2, eJ cJ 7 (c_t_rows 2)), (A_t_rows 3, eJ cJ 7 (c_t_rows 3)), (A_t_rows 4, eJ cJ 7 (c_t_rows 4)), (A_t_rows 5, eJ cJ 7 (c_t_rows 5)), (A_t 4, eJ cJ 6 c_t_surplus), (h_w, oW A_w c_w_knots c_w_flows c_w_readSet), (A_w 0, eI cI 10 c_w_from), (A_w 1, eI cI 10 c_w_to), (A_w 2, eI cI 10 c_w_reading), (A_w 3, eI cI 10 c_w_miss)] sz)) (List.toArray [.ref h_t, .ref h_w]) s 0 0 (va_A [(h_t, oF A_t c_t_unread c_t_below), (A_t 0, oG A_t_heaps), (A_t_heaps 0, eI cI 6 c_t_heaps_least), (A_t 1, oG A_t_pieces), (A_t_pieces 0, eI cI 6 c_t_pieces_least), (A_t 3, eQ cR 6 A_t_rows), (A_t_rows 0, eJ cJ 7 (c_t_rows 0)), (A_t_rows 1, eJ cJ 7 (c_t_rows 1)), (A_t_rows 2, eJ cJ 7 (c_t_rows 2)), (A_t_rows 3, eJ cJ 7 (c_t_rows 3)), (A_t_rows 4, eJ cJ 7 (c_t_rows 4)), (A_t_rows 5, eJ cJ 7 (c_t_rows 5)), (A_t 4, eJ cJ 6 c_t_surplus), (h_w, oW A_w c_w_knots c_w_flows c_w_readSet), (A_w 0, eI cI 10 c_w_from), (A_w 1, eI cI 10 c_w_to), (A_w 2, eI cI 10 c_w_reading), (A_w 3, eI cI 10 c_w_miss)] sz)) 150 [(0, .ref h_t), (1, .ref h_w)] [] [(h_t, oF A_t d_t_unread d_t_below), (A_t 0, oG A_t_heaps), (A_t_heaps 0, eI cI 6 d_t_heaps_least), (A_t 1, oG A_t_pieces), (A_t_pieces 0, eI cI 6 d_t_pieces_least), (A_t 3, eQ cR 6 A_t_rows), (A_t_rows 0, eJ cJ 7 (w0 0)), (A_t_rows 1, eJ cJ 7 (w0 1)), (A_t_rows 2, eJ cJ 7 (w0 2)), (A_t_rows 3, eJ cJ 7 (w0 3)), (A_t_rows 4, eJ cJ 7 (w0 4)), (A_t_rows 5, eJ cJ 7 (w0 5)), (A_t 4, eJ cJ 6 w1), (h_w, oW A_w d_w_knots d_w_flows d_w_readSet), (A_w 0, eI cI 10 d_w_from), (A_w 1, eI cI 10 d_w_to), (A_w 2, eI cI 10 d_w_reading), (A_w 3, eI cI 10 d_w_miss)] → yG p l e (headSpec wsX0_fillSystem rmX0_fillSystem).room s m (List.toArray [.ref h_t, .ref h_w]) below meth c D (va_A [(h_t, oF A_t c_t_unread c_t_below), (A_t 0, oG A_t_heaps), (A_t_heaps 0, eI cI 6 c_t_heaps_least), (A_t 1, oG A_t_pieces), (A_t_pieces 0, eI cI 6 c_t_pieces_least), (A_t 3, eQ cR 6 A_t_rows), (A_t_rows 0, eJ cJ 7 (c_t_rows 0)), (A_t_rows 1, eJ cJ 7 (c_t_rows 1)), (A_t_rows 2, eJ cJ 7 (c_t_rows 2)), (A_t_rows 3, eJ cJ 7 (c_t_rows 3)), (A_t_rows 4, eJ cJ 7 (c_t_rows 4)), (A_t_rows 5, eJ cJ 7 (c_t_rows 5)), (A_t 4, eJ cJ 6 c_t_surplus), (h_w, oW A_w c_w_knots c_w_flows c_w_readSet), (A_w 0, eI cI 10 c_w_from), (A_w 1, eI cI 10 c_w_to), (A_w 2, eI cI 10 c_w_reading), (A_w 3, eI cI 10 c_w_miss)] sz) 4 0 0 (MQ below (yQv D (yT cI cJ cZ cW cR) [(h_t, oF A_t c_t_unread c_t_below), (A_t 0, oG A_t_heaps), (A_t_heaps 0, eI cI 6 c_t_heaps_least), (A_t 1, oG A_t_pieces), (A_t_pieces 0, eI cI 6 c_t_pieces_least), (A_t 3, eQ cR 6 A_t_rows), (A_t_rows 0, eJ cJ 7 (zc_t_rows 0)), (A_t_rows 1, eJ cJ 7 (zc_t_rows 1)), (A_t_rows 2, eJ cJ 7 (zc_t_rows 2)), (A_t_rows 3, eJ cJ 7 (zc_t_rows 3)), (A_t_rows 4, eJ cJ 7 (zc_t_rows 4)), (A_t_rows 5, eJ cJ 7 (zc_t_rows 5)), (A_t 4, eJ cJ 6 zc_t_surplus), (h_w, oW A_w c_w_knots c_w_flows c_w_readSet), (A_w 0, eI cI 10 c_w_from), (A_w 1, eI cI 10 c_w_to), (A_w 2, eI cI 10 c_w_reading), (A_w 3, eI cI 10 c_w_miss)] (va_A [(h_t, oF A_t c_t_unread c_t_below), (A_t 0, oG A_t_heaps), (A_t_heaps 0, eI cI 6 c_t_heaps_least), (A_t 1, oG A_t_pieces), (A_t_pieces 0, eI cI 6 c_t_pieces_least), (A_t 3, eQ cR 6 A_t_rows), (A_t_rows 0, eJ cJ 7 (c_t_rows 0)), (A_t_rows 1, eJ cJ 7 (c_t_rows 1)), (A_t_rows 2, eJ cJ 7 (c_t_rows 2)), (A_t_rows 3, eJ cJ 7 (c_t_rows 3)), (A_t_rows 4, eJ cJ 7 (c_t_rows 4)), (A_t_rows 5, eJ cJ 7 (c_t_rows 5)), (A_t 4, eJ cJ 6 c_t_surplus), (h_w, oW A_w c_w_knots c_w_flows c_w_readSet), (A_w 0, eI cI 10 c_w_from), (A_w 1, eI cI 10 c_w_to), (A_w 2, eI cI 10 c_w_reading), (A_w 3, eI cI 10 c_w_miss)] sz)) (List.toArray [.ref h_t, .ref h_w]) s 0 0 (va_A [(h_t, oF A_t c_t_unread c_t_below), (A_t 0, oG A_t_heaps), (A_t_heaps 0, eI cI 6 c_t_heaps_least), (A_t 1, oG A_t_pieces), (A_t_pieces 0, eI cI 6 c_t_pieces_least), (A_t 3, eQ cR 6 A_t_rows), (A_t_rows 0, eJ cJ 7 (c_t_rows 0)), (A_t_rows 1, eJ cJ 7 (c_t_rows 1)), (A_t_rows 2, eJ cJ 7 (c_t_rows 2)), (A_t_rows 3, eJ cJ 7 (c_t_rows 3)), (A_t_rows 4, eJ cJ 7 (c_t_rows 4)), (A_t_rows 5, eJ cJ 7 (c_t_rows 5)), (A_t 4, eJ cJ 6 c_t_surplus), (h_w, oW A_w c_w_knots c_w_flows c_w_readSet), (A_w 0, eI cI 10 c_w_from), (A_w 1, eI cI 10 c_w_to), (A_w 2, eI cI 10 c_w_reading), (A_w 3, eI cI 10 c_w_miss)] sz)) 69 [(0, .ref h_t), (1, .ref h_w), (2, .int y2)] [] [(h_t, oF A_t d_t_unread d_t_below), (A_t 0, oG A_t_heaps), (A_t_heaps 0, eI cI 6 d_t_heaps_least), (A_t 1, oG A_t_pieces), (A_t_pieces 0, eI cI 6 d_t_pieces_least), (A_t 3, eQ cR 6 A_t_rows), (A_t_rows 0, eJ cJ 7 (d_t_rows 0)), (A_t_rows 1, eJ cJ 7 (d_t_rows 1)), (A_t_rows 2, eJ cJ 7 (d_t_rows 2)), (A_t_rows 3, eJ cJ 7 (d_t_rows 3)), (A_t_rows 4, eJ cJ 7 (d_t_rows 4)), (A_t_rows 5, eJ cJ 7 (d_t_rows 5)), (A_t 4, eJ cJ 6 d_t_surplus), (h_w, oW A_w d_w_knots d_w_flows d_w_readSet), (A_w 0, eI cI 10 d_w_from), (A_w 1, eI cI 10 d_w_to), (A_w 2, eI cI 10 d_w_reading), (A_w 3, eI cI 10 d_w_miss)] := by
    intro n
    induction n with
    | zero =>
      intro y2 d_t_unread d_t_below d_t_heaps_least d_t_pieces_least d_t_rows d_t_surplus d_w_knots d_w_flows d_w_readSet d_w_from d_w_to d_w_reading d_w_miss w0 w1 hf
      cases hf
    | succ n ih =>
      intro y2 d_t_unread d_t_below d_t_heaps_least d_t_pieces_least d_t_rows d_t_surplus d_w_knots d_w_flows d_w_readSet d_w_from d_w_to d_w_reading d_w_miss w0 w1 hf hk
      unfold fX0_fillSystem_L69 at hf
      refine g_iload_n Γ 2 dX0_fillSystem_69 rfl ?_
      refine g_aload_n Γ 1 dX0_fillSystem_70 rfl ?_
      refine g_get Γ fX0_fillSystem_70 13 rfl rfl dX0_fillSystem_71 ?_
      refine g_icmp_ge Γ 150 dX0_fillSystem_74 (by decide) (fun c39 => ?_) (fun c39 => ?_)
      · have hf := ya_if1 c39 hf
        cases hf
        refine g_lv [0, 1] rfl ?_
        exact hk
      · have hf := ya_if2 c39 hf
        refine g_aload_n Γ 0 dX0_fillSystem_77 rfl ?_
        refine g_get Γ fX0_fillSystem_33 0 rfl rfl dX0_fillSystem_78 ?_
        refine g_iload_n Γ 2 dX0_fillSystem_81 rfl ?_
        obtain ⟨v40, e41, hf⟩ := ya_ob hf
        refine g_ni (wr := [(h_t, oF A_t d_t_unread d_t_below), (A_t 0, oG A_t_heaps), (A_t_heaps 0, eI cI 6 d_t_heaps_least), (A_t 1, oG A_t_pieces), (A_t_pieces 0, eI cI 6 d_t_pieces_least), (A_t 3, eQ cR 6 A_t_rows), (A_t_rows 0, eJ cJ 7 (d_t_rows 0)), (A_t_rows 1, eJ cJ 7 (d_t_rows 1)), (A_t_rows 2, eJ cJ 7 (d_t_rows 2)), (A_t_rows 3, eJ cJ 7 (d_t_rows 3)), (A_t_rows 4, eJ cJ 7 (d_t_rows 4)), (A_t_rows 5, eJ cJ 7 (d_t_rows 5)), (A_t 4, eJ cJ 6 d_t_surplus), (h_w, oW A_w d_w_knots d_w_flows d_w_readSet), (A_w 0, eI cI 10 d_w_from), (A_w 1, eI cI 10 d_w_to), (A_w 2, eI cI 10 d_w_reading), (A_w 3, eI cI 10 d_w_miss)]) (ws' := [(h_t, oF A_t d_t_unread d_t_below), (A_t 0, oG A_t_heaps), (A_t_heaps 0, eI cI 6 d_t_heaps_least), (A_t 1, oG A_t_pieces), (A_t_pieces 0, eI cI 6 d_t_pieces_least), (A_t 3, eQ cR 6 A_t_rows), (A_t_rows 0, eJ cJ 7 (d_t_rows 0)), (A_t_rows 1, eJ cJ 7 (d_t_rows 1)), (A_t_rows 2, eJ cJ 7 (d_t_rows 2)), (A_t_rows 3, eJ cJ 7 (d_t_rows 3)), (A_t_rows 4, eJ cJ 7 (d_t_rows 4)), (A_t_rows 5, eJ cJ 7 (d_t_rows 5)), (A_t 4, eJ cJ 6 d_t_surplus), (h_w, oW A_w d_w_knots d_w_flows d_w_readSet), (A_w 0, eI cI 10 d_w_from), (A_w 1, eI cI 10 d_w_to), (A_w 2, eI cI 10 d_w_reading), (A_w 3, eI cI 10 d_w_miss)]) Γ (fun sz => mX4_holds (l := l) (D := D) (sz := sz) (cI := cI) (cJ := cJ) (cZ := cZ) (cW := cW) (cR := cR)  (hf := e41)) eX4_holds ggX0_fillSystem_X4_holds (by decide +kernel) (by decide +kernel) (by decide +kernel) rfl rfl (Nat.le_of_ble_eq_true rfl) ⟨Nat.le_of_ble_eq_true rfl, Nat.le_of_ble_eq_true rfl⟩ dX0_fillSystem_82 [] [0, 1, 2, 3, 4, 5, 6, 7, 8, 9, 10, 11, 12, 13, 14, 15, 16, 17] rfl rfl rfl rfl (by decide) rfl ?_
        refine g_if_ne Γ 144 dX0_fillSystem_85 (by decide) (fun c42 => ?_) (fun c42 => ?_)
        · have hf := ya_if2 c42 hf
          obtain ⟨v43, e44, hf⟩ := ya_lt_inv hf
          refine g_iinc (lv' := [(2, .int v43), (0, .ref h_t), (1, .ref h_w)]) Γ 2 dX0_fillSystem_144 rfl (by rw [e44]; rfl) (by decide) rfl ?_
          refine g_goto Γ 69 dX0_fillSystem_147 (by decide) ?_
          refine g_lv [1, 2, 0] rfl ?_
          exact ih _ _ _ _ _ _ _ _ _ _ _ _ _ _ _ _ hf hk
        · have hf := ya_if1 c42 hf
          refine g_aload_n Γ 0 dX0_fillSystem_88 rfl ?_
          refine g_get Γ fX0_fillSystem_12 0 rfl rfl dX0_fillSystem_89 ?_
          refine g_aload_n Γ 1 dX0_fillSystem_92 rfl ?_
          refine g_iload_n Γ 2 dX0_fillSystem_93 rfl ?_
          obtain ⟨v45, e46, hf⟩ := ya_ob hf
          refine g_vi (q := (RX1, TX1, 1)) (wr := [(h_t, oF A_t d_t_unread d_t_below), (A_t 1, oG A_t_pieces), (A_t_pieces 0, eI cI 6 d_t_pieces_least), (A_t 3, eQ cR 6 A_t_rows), (A_t_rows 0, eJ cJ 7 (d_t_rows 0)), (A_t_rows 1, eJ cJ 7 (d_t_rows 1)), (A_t_rows 2, eJ cJ 7 (d_t_rows 2)), (A_t_rows 3, eJ cJ 7 (d_t_rows 3)), (A_t_rows 4, eJ cJ 7 (d_t_rows 4)), (A_t_rows 5, eJ cJ 7 (d_t_rows 5)), (A_t 4, eJ cJ 6 d_t_surplus), (A_w 2, eI cI 10 d_w_reading), (A_w 3, eI cI 10 d_w_miss)]) (ws' := [(h_t, oF A_t d_t_unread d_t_below), (A_t 1, oG A_t_pieces), (A_t_pieces 0, eI cI 6 d_t_pieces_least), (A_t 3, eQ cR 6 A_t_rows), (A_t_rows 0, eJ cJ 7 (d_t_rows 0)), (A_t_rows 1, eJ cJ 7 (d_t_rows 1)), (A_t_rows 2, eJ cJ 7 (d_t_rows 2)), (A_t_rows 3, eJ cJ 7 (d_t_rows 3)), (A_t_rows 4, eJ cJ 7 (d_t_rows 4)), (A_t_rows 5, eJ cJ 7 (d_t_rows 5)), (A_t 4, eJ cJ 6 d_t_surplus), (A_w 2, eI cI 10 d_w_reading), (A_w 3, eI cI 10 d_w_miss), (A_t 0, oG A_t_heaps), (A_t_heaps 0, eI cI 6 d_t_heaps_least), (h_w, oW A_w d_w_knots d_w_flows d_w_readSet), (A_w 0, eI cI 10 d_w_from), (A_w 1, eI cI 10 d_w_to)]) Γ (fun sz => mX1_parts (l := l) (D := D) (sz := sz) (cI := cI) (cJ := cJ) (cZ := cZ) (cW := cW) (cR := cR) (h_t := A_t 0) (h_w := h_w) (A_t := A_t_heaps) (A_w := A_w) (hf := e46)) eX1_parts gX0_fillSystem_X1_parts rfl rfl 0 rfl rfl rfl (Nat.le_of_ble_eq_true rfl) ⟨Nat.le_of_ble_eq_true rfl, Nat.le_of_ble_eq_true rfl⟩ dX0_fillSystem_94 [1, 2, 13, 14, 15] [0, 3, 4, 5, 6, 7, 8, 9, 10, 11, 12, 16, 17] rfl rfl rfl rfl (by decide) rfl ?_
          refine g_if_eq Γ 144 dX0_fillSystem_97 (by decide) (fun c47 => ?_) (fun c47 => ?_)
          · have hf := ya_if1 c47 hf
            obtain ⟨v48, e49, hf⟩ := ya_lt_inv hf
            refine g_iinc (lv' := [(2, .int v48), (0, .ref h_t), (1, .ref h_w)]) Γ 2 dX0_fillSystem_144 rfl (by rw [e49]; rfl) (by decide) rfl ?_
            refine g_goto Γ 69 dX0_fillSystem_147 (by decide) ?_
            refine g_lv [1, 2, 0] rfl ?_
            refine g_ws (ws' := [(h_t, oF A_t d_t_unread d_t_below), (A_t 0, oG A_t_heaps), (A_t_heaps 0, eI cI 6 d_t_heaps_least), (A_t 1, oG A_t_pieces), (A_t_pieces 0, eI cI 6 d_t_pieces_least), (A_t 3, eQ cR 6 A_t_rows), (A_t_rows 0, eJ cJ 7 (d_t_rows 0)), (A_t_rows 1, eJ cJ 7 (d_t_rows 1)), (A_t_rows 2, eJ cJ 7 (d_t_rows 2)), (A_t_rows 3, eJ cJ 7 (d_t_rows 3)), (A_t_rows 4, eJ cJ 7 (d_t_rows 4)), (A_t_rows 5, eJ cJ 7 (d_t_rows 5)), (A_t 4, eJ cJ 6 d_t_surplus), (h_w, oW A_w d_w_knots d_w_flows d_w_readSet), (A_w 0, eI cI 10 d_w_from), (A_w 1, eI cI 10 d_w_to), (A_w 2, eI cI 10 d_w_reading), (A_w 3, eI cI 10 d_w_miss)]) [0, 13, 14, 1, 2, 3, 4, 5, 6, 7, 8, 9, 10, 15, 16, 17, 11, 12] rfl rfl ?_
            exact ih _ _ _ _ _ _ _ _ _ _ _ _ _ _ _ _ hf hk
          · have hf := ya_if2 c47 hf
            refine g_aload_n Γ 0 dX0_fillSystem_100 rfl ?_
            refine g_aload_n Γ 0 dX0_fillSystem_101 rfl ?_
            refine g_get Γ fX0_fillSystem_12 0 rfl rfl dX0_fillSystem_102 ?_
            refine g_get Γ fX0_fillSystem_62 13 rfl rfl dX0_fillSystem_105 ?_
            refine g_aload_n Γ 1 dX0_fillSystem_108 rfl ?_
            refine g_get Γ fX0_fillSystem_80 15 rfl rfl dX0_fillSystem_109 ?_
            refine g_iload_n Γ 2 dX0_fillSystem_112 rfl ?_
            obtain ⟨v50, e51, hf⟩ := ya_ob hf
            refine g_iald Γ e51 16 0 rfl rfl dX0_fillSystem_113 ?_
            obtain ⟨v52, e53, hf⟩ := ya_ob hf
            refine g_iald Γ e53 14 0 rfl rfl dX0_fillSystem_114 ?_
            refine g_aload_n Γ 0 dX0_fillSystem_115 rfl ?_
            refine g_get Γ fX0_fillSystem_12 0 rfl rfl dX0_fillSystem_116 ?_
            refine g_get Γ fX0_fillSystem_62 13 rfl rfl dX0_fillSystem_119 ?_
            refine g_aload_n Γ 1 dX0_fillSystem_122 rfl ?_
            refine g_get Γ fX0_fillSystem_83 15 rfl rfl dX0_fillSystem_123 ?_
            refine g_iload_n Γ 2 dX0_fillSystem_126 rfl ?_
            obtain ⟨v54, e55, hf⟩ := ya_ob hf
            refine g_iald Γ e55 17 0 rfl rfl dX0_fillSystem_127 ?_
            obtain ⟨v56, e57, hf⟩ := ya_ob hf
            refine g_iald Γ e57 14 0 rfl rfl dX0_fillSystem_128 ?_
            refine g_aload_n Γ 1 dX0_fillSystem_129 rfl ?_
            refine g_get Γ fX0_fillSystem_86 15 rfl rfl dX0_fillSystem_130 ?_
            refine g_iload_n Γ 2 dX0_fillSystem_133 rfl ?_
            obtain ⟨v58, e59, hf⟩ := ya_ob hf
            refine g_iald Γ e59 12 0 rfl rfl dX0_fillSystem_134 ?_
            refine g_aload_n Γ 1 dX0_fillSystem_135 rfl ?_
            refine g_get Γ fX0_fillSystem_89 15 rfl rfl dX0_fillSystem_136 ?_
            refine g_iload_n Γ 2 dX0_fillSystem_139 rfl ?_
            obtain ⟨v60, e61, hf⟩ := ya_ob hf
            refine g_iald Γ e61 11 0 rfl rfl dX0_fillSystem_140 ?_
            obtain ⟨⟨v62, v63⟩, e64, hf⟩ := ya_ob hf
            refine g_vv (q := (RX0, TX0, 7)) (wr := [(A_w 2, eI cI 10 d_w_reading), (A_w 3, eI cI 10 d_w_miss), (h_w, oW A_w d_w_knots d_w_flows d_w_readSet), (A_w 0, eI cI 10 d_w_from), (A_w 1, eI cI 10 d_w_to)]) (ws' := [(A_w 2, eI cI 10 d_w_reading), (A_w 3, eI cI 10 d_w_miss), (h_w, oW A_w d_w_knots d_w_flows d_w_readSet), (A_w 0, eI cI 10 d_w_from), (A_w 1, eI cI 10 d_w_to), (h_t, oF A_t d_t_unread d_t_below), (A_t 0, oG A_t_heaps), (A_t_heaps 0, eI cI 6 d_t_heaps_least), (A_t 1, oG A_t_pieces), (A_t_pieces 0, eI cI 6 d_t_pieces_least), (A_t 3, eQ cR 6 A_t_rows), (A_t_rows 0, eJ cJ 7 (v62 0)), (A_t_rows 1, eJ cJ 7 (v62 1)), (A_t_rows 2, eJ cJ 7 (v62 2)), (A_t_rows 3, eJ cJ 7 (v62 3)), (A_t_rows 4, eJ cJ 7 (v62 4)), (A_t_rows 5, eJ cJ 7 (v62 5)), (A_t 4, eJ cJ 6 v63)]) Γ (fun sz => mX0_addMeter (l := l) (D := D) (sz := sz) (cI := cI) (cJ := cJ) (cZ := cZ) (cW := cW) (cR := cR) (h_t := h_t) (A_t := A_t) (A_t_heaps := A_t_heaps) (A_t_pieces := A_t_pieces) (A_t_rows := A_t_rows) (hf := e64)) eX0_addMeter gX0_fillSystem_X0_addMeter rfl rfl 0 rfl rfl rfl (Nat.le_of_ble_eq_true rfl) ⟨Nat.le_of_ble_eq_true rfl, Nat.le_of_ble_eq_true rfl⟩ dX0_fillSystem_141 [0, 13, 14, 1, 2, 3, 4, 5, 6, 7, 8, 9, 10] [11, 12, 15, 16, 17] rfl rfl rfl rfl (by decide) rfl ?_
            obtain ⟨v65, e66, hf⟩ := ya_lt_inv hf
            refine g_iinc (lv' := [(2, .int v65), (0, .ref h_t), (1, .ref h_w)]) Γ 2 dX0_fillSystem_144 rfl (by rw [e66]; rfl) (by decide) rfl ?_
            refine g_goto Γ 69 dX0_fillSystem_147 (by decide) ?_
            refine g_lv [1, 2, 0] rfl ?_
            refine g_ws (ws' := [(h_t, oF A_t d_t_unread d_t_below), (A_t 0, oG A_t_heaps), (A_t_heaps 0, eI cI 6 d_t_heaps_least), (A_t 1, oG A_t_pieces), (A_t_pieces 0, eI cI 6 d_t_pieces_least), (A_t 3, eQ cR 6 A_t_rows), (A_t_rows 0, eJ cJ 7 (v62 0)), (A_t_rows 1, eJ cJ 7 (v62 1)), (A_t_rows 2, eJ cJ 7 (v62 2)), (A_t_rows 3, eJ cJ 7 (v62 3)), (A_t_rows 4, eJ cJ 7 (v62 4)), (A_t_rows 5, eJ cJ 7 (v62 5)), (A_t 4, eJ cJ 6 v63), (h_w, oW A_w d_w_knots d_w_flows d_w_readSet), (A_w 0, eI cI 10 d_w_from), (A_w 1, eI cI 10 d_w_to), (A_w 2, eI cI 10 d_w_reading), (A_w 3, eI cI 10 d_w_miss)]) [5, 6, 7, 8, 9, 10, 11, 12, 13, 14, 15, 16, 17, 2, 3, 4, 0, 1] rfl rfl ?_
            exact ih _ _ _ _ _ _ _ _ _ _ _ _ _ _ _ _ hf hk
  have loop152 : ∀ (n : Nat) (y2 : Int32) (d_t_unread : Int32) (d_t_below : Int64) (d_t_heaps_least : Nat → Int32) (d_t_pieces_least : Nat → Int32) (d_t_rows : Nat → Nat → Int64) (d_t_surplus : Nat → Int64) (d_w_knots : Int32) (d_w_flows : Int32) (d_w_readSet : Int32) (d_w_from : Nat → Int32) (d_w_to : Nat → Int32) (d_w_reading : Nat → Int32) (d_w_miss : Nat → Int32) (w0 : Nat → Nat → Int64), fX0_fillSystem_L152 N n y2 d_t_heaps_least d_t_pieces_least d_t_rows d_t_surplus d_w_knots = some w0 → yG p l e (headSpec wsX0_fillSystem rmX0_fillSystem).room s m (List.toArray [.ref h_t, .ref h_w]) below meth c D (va_A [(h_t, oF A_t c_t_unread c_t_below), (A_t 0, oG A_t_heaps), (A_t_heaps 0, eI cI 6 c_t_heaps_least), (A_t 1, oG A_t_pieces), (A_t_pieces 0, eI cI 6 c_t_pieces_least), (A_t 3, eQ cR 6 A_t_rows), (A_t_rows 0, eJ cJ 7 (c_t_rows 0)), (A_t_rows 1, eJ cJ 7 (c_t_rows 1)), (A_t_rows 2, eJ cJ 7 (c_t_rows 2)), (A_t_rows 3, eJ cJ 7 (c_t_rows 3)), (A_t_rows 4, eJ cJ 7 (c_t_rows 4)), (A_t_rows 5, eJ cJ 7 (c_t_rows 5)), (A_t 4, eJ cJ 6 c_t_surplus), (h_w, oW A_w c_w_knots c_w_flows c_w_readSet), (A_w 0, eI cI 10 c_w_from), (A_w 1, eI cI 10 c_w_to), (A_w 2, eI cI 10 c_w_reading), (A_w 3, eI cI 10 c_w_miss)] sz) 4 0 0 (MQ below (yQv D (yT cI cJ cZ cW cR) [(h_t, oF A_t c_t_unread c_t_below), (A_t 0, oG A_t_heaps), (A_t_heaps 0, eI cI 6 c_t_heaps_least), (A_t 1, oG A_t_pieces), (A_t_pieces 0, eI cI 6 c_t_pieces_least), (A_t 3, eQ cR 6 A_t_rows), (A_t_rows 0, eJ cJ 7 (zc_t_rows 0)), (A_t_rows 1, eJ cJ 7 (zc_t_rows 1)), (A_t_rows 2, eJ cJ 7 (zc_t_rows 2)), (A_t_rows 3, eJ cJ 7 (zc_t_rows 3)), (A_t_rows 4, eJ cJ 7 (zc_t_rows 4)), (A_t_rows 5, eJ cJ 7 (zc_t_rows 5)), (A_t 4, eJ cJ 6 zc_t_surplus), (h_w, oW A_w c_w_knots c_w_flows c_w_readSet), (A_w 0, eI cI 10 c_w_from), (A_w 1, eI cI 10 c_w_to), (A_w 2, eI cI 10 c_w_reading), (A_w 3, eI cI 10 c_w_miss)] (va_A [(h_t, oF A_t c_t_unread c_t_below), (A_t 0, oG A_t_heaps), (A_t_heaps 0, eI cI 6 c_t_heaps_least), (A_t 1, oG A_t_pieces), (A_t_pieces 0, eI cI 6 c_t_pieces_least), (A_t 3, eQ cR 6 A_t_rows), (A_t_rows 0, eJ cJ 7 (c_t_rows 0)), (A_t_rows 1, eJ cJ 7 (c_t_rows 1)), (A_t_rows 2, eJ cJ 7 (c_t_rows 2)), (A_t_rows 3, eJ cJ 7 (c_t_rows 3)), (A_t_rows 4, eJ cJ 7 (c_t_rows 4)), (A_t_rows 5, eJ cJ 7 (c_t_rows 5)), (A_t 4, eJ cJ 6 c_t_surplus), (h_w, oW A_w c_w_knots c_w_flows c_w_readSet), (A_w 0, eI cI 10 c_w_from), (A_w 1, eI cI 10 c_w_to), (A_w 2, eI cI 10 c_w_reading), (A_w 3, eI cI 10 c_w_miss)] sz)) (List.toArray [.ref h_t, .ref h_w]) s 0 0 (va_A [(h_t, oF A_t c_t_unread c_t_below), (A_t 0, oG A_t_heaps), (A_t_heaps 0, eI cI 6 c_t_heaps_least), (A_t 1, oG A_t_pieces), (A_t_pieces 0, eI cI 6 c_t_pieces_least), (A_t 3, eQ cR 6 A_t_rows), (A_t_rows 0, eJ cJ 7 (c_t_rows 0)), (A_t_rows 1, eJ cJ 7 (c_t_rows 1)), (A_t_rows 2, eJ cJ 7 (c_t_rows 2)), (A_t_rows 3, eJ cJ 7 (c_t_rows 3)), (A_t_rows 4, eJ cJ 7 (c_t_rows 4)), (A_t_rows 5, eJ cJ 7 (c_t_rows 5)), (A_t 4, eJ cJ 6 c_t_surplus), (h_w, oW A_w c_w_knots c_w_flows c_w_readSet), (A_w 0, eI cI 10 c_w_from), (A_w 1, eI cI 10 c_w_to), (A_w 2, eI cI 10 c_w_reading), (A_w 3, eI cI 10 c_w_miss)] sz)) 194 [] [] [(h_t, oF A_t d_t_unread d_t_below), (A_t 0, oG A_t_heaps), (A_t_heaps 0, eI cI 6 d_t_heaps_least), (A_t 1, oG A_t_pieces), (A_t_pieces 0, eI cI 6 d_t_pieces_least), (A_t 3, eQ cR 6 A_t_rows), (A_t_rows 0, eJ cJ 7 (w0 0)), (A_t_rows 1, eJ cJ 7 (w0 1)), (A_t_rows 2, eJ cJ 7 (w0 2)), (A_t_rows 3, eJ cJ 7 (w0 3)), (A_t_rows 4, eJ cJ 7 (w0 4)), (A_t_rows 5, eJ cJ 7 (w0 5)), (A_t 4, eJ cJ 6 d_t_surplus), (h_w, oW A_w d_w_knots d_w_flows d_w_readSet), (A_w 0, eI cI 10 d_w_from), (A_w 1, eI cI 10 d_w_to), (A_w 2, eI cI 10 d_w_reading), (A_w 3, eI cI 10 d_w_miss)] → yG p l e (headSpec wsX0_fillSystem rmX0_fillSystem).room s m (List.toArray [.ref h_t, .ref h_w]) below meth c D (va_A [(h_t, oF A_t c_t_unread c_t_below), (A_t 0, oG A_t_heaps), (A_t_heaps 0, eI cI 6 c_t_heaps_least), (A_t 1, oG A_t_pieces), (A_t_pieces 0, eI cI 6 c_t_pieces_least), (A_t 3, eQ cR 6 A_t_rows), (A_t_rows 0, eJ cJ 7 (c_t_rows 0)), (A_t_rows 1, eJ cJ 7 (c_t_rows 1)), (A_t_rows 2, eJ cJ 7 (c_t_rows 2)), (A_t_rows 3, eJ cJ 7 (c_t_rows 3)), (A_t_rows 4, eJ cJ 7 (c_t_rows 4)), (A_t_rows 5, eJ cJ 7 (c_t_rows 5)), (A_t 4, eJ cJ 6 c_t_surplus), (h_w, oW A_w c_w_knots c_w_flows c_w_readSet), (A_w 0, eI cI 10 c_w_from), (A_w 1, eI cI 10 c_w_to), (A_w 2, eI cI 10 c_w_reading), (A_w 3, eI cI 10 c_w_miss)] sz) 4 0 0 (MQ below (yQv D (yT cI cJ cZ cW cR) [(h_t, oF A_t c_t_unread c_t_below), (A_t 0, oG A_t_heaps), (A_t_heaps 0, eI cI 6 c_t_heaps_least), (A_t 1, oG A_t_pieces), (A_t_pieces 0, eI cI 6 c_t_pieces_least), (A_t 3, eQ cR 6 A_t_rows), (A_t_rows 0, eJ cJ 7 (zc_t_rows 0)), (A_t_rows 1, eJ cJ 7 (zc_t_rows 1)), (A_t_rows 2, eJ cJ 7 (zc_t_rows 2)), (A_t_rows 3, eJ cJ 7 (zc_t_rows 3)), (A_t_rows 4, eJ cJ 7 (zc_t_rows 4)), (A_t_rows 5, eJ cJ 7 (zc_t_rows 5)), (A_t 4, eJ cJ 6 zc_t_surplus), (h_w, oW A_w c_w_knots c_w_flows c_w_readSet), (A_w 0, eI cI 10 c_w_from), (A_w 1, eI cI 10 c_w_to), (A_w 2, eI cI 10 c_w_reading), (A_w 3, eI cI 10 c_w_miss)] (va_A [(h_t, oF A_t c_t_unread c_t_below), (A_t 0, oG A_t_heaps), (A_t_heaps 0, eI cI 6 c_t_heaps_least), (A_t 1, oG A_t_pieces), (A_t_pieces 0, eI cI 6 c_t_pieces_least), (A_t 3, eQ cR 6 A_t_rows), (A_t_rows 0, eJ cJ 7 (c_t_rows 0)), (A_t_rows 1, eJ cJ 7 (c_t_rows 1)), (A_t_rows 2, eJ cJ 7 (c_t_rows 2)), (A_t_rows 3, eJ cJ 7 (c_t_rows 3)), (A_t_rows 4, eJ cJ 7 (c_t_rows 4)), (A_t_rows 5, eJ cJ 7 (c_t_rows 5)), (A_t 4, eJ cJ 6 c_t_surplus), (h_w, oW A_w c_w_knots c_w_flows c_w_readSet), (A_w 0, eI cI 10 c_w_from), (A_w 1, eI cI 10 c_w_to), (A_w 2, eI cI 10 c_w_reading), (A_w 3, eI cI 10 c_w_miss)] sz)) (List.toArray [.ref h_t, .ref h_w]) s 0 0 (va_A [(h_t, oF A_t c_t_unread c_t_below), (A_t 0, oG A_t_heaps), (A_t_heaps 0, eI cI 6 c_t_heaps_least), (A_t 1, oG A_t_pieces), (A_t_pieces 0, eI cI 6 c_t_pieces_least), (A_t 3, eQ cR 6 A_t_rows), (A_t_rows 0, eJ cJ 7 (c_t_rows 0)), (A_t_rows 1, eJ cJ 7 (c_t_rows 1)), (A_t_rows 2, eJ cJ 7 (c_t_rows 2)), (A_t_rows 3, eJ cJ 7 (c_t_rows 3)), (A_t_rows 4, eJ cJ 7 (c_t_rows 4)), (A_t_rows 5, eJ cJ 7 (c_t_rows 5)), (A_t 4, eJ cJ 6 c_t_surplus), (h_w, oW A_w c_w_knots c_w_flows c_w_readSet), (A_w 0, eI cI 10 c_w_from), (A_w 1, eI cI 10 c_w_to), (A_w 2, eI cI 10 c_w_reading), (A_w 3, eI cI 10 c_w_miss)] sz)) 152 [(0, .ref h_t), (1, .ref h_w), (2, .int y2)] [] [(h_t, oF A_t d_t_unread d_t_below), (A_t 0, oG A_t_heaps), (A_t_heaps 0, eI cI 6 d_t_heaps_least), (A_t 1, oG A_t_pieces), (A_t_pieces 0, eI cI 6 d_t_pieces_least), (A_t 3, eQ cR 6 A_t_rows), (A_t_rows 0, eJ cJ 7 (d_t_rows 0)), (A_t_rows 1, eJ cJ 7 (d_t_rows 1)), (A_t_rows 2, eJ cJ 7 (d_t_rows 2)), (A_t_rows 3, eJ cJ 7 (d_t_rows 3)), (A_t_rows 4, eJ cJ 7 (d_t_rows 4)), (A_t_rows 5, eJ cJ 7 (d_t_rows 5)), (A_t 4, eJ cJ 6 d_t_surplus), (h_w, oW A_w d_w_knots d_w_flows d_w_readSet), (A_w 0, eI cI 10 d_w_from), (A_w 1, eI cI 10 d_w_to), (A_w 2, eI cI 10 d_w_reading), (A_w 3, eI cI 10 d_w_miss)] := by
    intro n
    induction n with
    | zero =>
      intro y2 d_t_unread d_t_below d_t_heaps_least d_t_pieces_least d_t_rows d_t_surplus d_w_knots d_w_flows d_w_readSet d_w_from d_w_to d_w_reading d_w_miss w0 hf
      cases hf
    | succ n ih =>
      intro y2 d_t_unread d_t_below d_t_heaps_least d_t_pieces_least d_t_rows d_t_surplus d_w_knots d_w_flows d_w_readSet d_w_from d_w_to d_w_reading d_w_miss w0 hf hk
      unfold fX0_fillSystem_L152 at hf
      refine g_iload_n Γ 2 dX0_fillSystem_152 rfl ?_
      refine g_aload_n Γ 1 dX0_fillSystem_153 rfl ?_
      refine g_get Γ fX0_fillSystem_55 13 rfl rfl dX0_fillSystem_154 ?_
      refine g_icmp_ge Γ 194 dX0_fillSystem_157 (by decide) (fun c70 => ?_) (fun c70 => ?_)
      · have hf := ya_if1 c70 hf
        cases hf
        refine g_lv [] rfl ?_
        exact hk
      · have hf := ya_if2 c70 hf
        refine g_aload_n Γ 0 dX0_fillSystem_160 rfl ?_
        refine g_get Γ fX0_fillSystem_26 0 rfl rfl dX0_fillSystem_161 ?_
        refine g_iload_n Γ 2 dX0_fillSystem_164 rfl ?_
        obtain ⟨v71, e72, hf⟩ := ya_ob hf
        have h73 := ya_ix_lt e72
        refine g_aldR Γ e72 5 4 rfl rfl dX0_fillSystem_165 ?_
        refine g_bipush (v := 6) Γ dX0_fillSystem_166 (by decide) ?_
        refine g_aload_n Γ 0 dX0_fillSystem_168 rfl ?_
        refine g_iload_n Γ 2 dX0_fillSystem_169 rfl ?_
        obtain ⟨v74, e75, hf⟩ := ya_ob hf
        refine g_vi (q := (RX0, TX0, 7)) (wr := [(A_t 3, eQ cR 6 A_t_rows), (A_t_rows 0, eJ cJ 7 (d_t_rows 0)), (A_t_rows 1, eJ cJ 7 (d_t_rows 1)), (A_t_rows 2, eJ cJ 7 (d_t_rows 2)), (A_t_rows 3, eJ cJ 7 (d_t_rows 3)), (A_t_rows 4, eJ cJ 7 (d_t_rows 4)), (A_t_rows 5, eJ cJ 7 (d_t_rows 5)), (A_t 4, eJ cJ 6 d_t_surplus), (h_w, oW A_w d_w_knots d_w_flows d_w_readSet), (A_w 0, eI cI 10 d_w_from), (A_w 1, eI cI 10 d_w_to), (A_w 2, eI cI 10 d_w_reading), (A_w 3, eI cI 10 d_w_miss)]) (ws' := [(A_t 3, eQ cR 6 A_t_rows), (A_t_rows 0, eJ cJ 7 (d_t_rows 0)), (A_t_rows 1, eJ cJ 7 (d_t_rows 1)), (A_t_rows 2, eJ cJ 7 (d_t_rows 2)), (A_t_rows 3, eJ cJ 7 (d_t_rows 3)), (A_t_rows 4, eJ cJ 7 (d_t_rows 4)), (A_t_rows 5, eJ cJ 7 (d_t_rows 5)), (A_t 4, eJ cJ 6 d_t_surplus), (h_w, oW A_w d_w_knots d_w_flows d_w_readSet), (A_w 0, eI cI 10 d_w_from), (A_w 1, eI cI 10 d_w_to), (A_w 2, eI cI 10 d_w_reading), (A_w 3, eI cI 10 d_w_miss), (h_t, oF A_t d_t_unread d_t_below), (A_t 0, oG A_t_heaps), (A_t_heaps 0, eI cI 6 d_t_heaps_least), (A_t 1, oG A_t_pieces), (A_t_pieces 0, eI cI 6 d_t_pieces_least)]) Γ (fun sz => mX0_hasRow (l := l) (D := D) (sz := sz) (cI := cI) (cJ := cJ) (cZ := cZ) (cW := cW) (cR := cR) (h_t := h_t) (A_t := A_t) (A_t_heaps := A_t_heaps) (A_t_pieces := A_t_pieces) (hf := e75)) eX0_hasRow gX0_fillSystem_X0_hasRow rfl rfl 0 rfl rfl rfl (Nat.le_of_ble_eq_true rfl) ⟨Nat.le_of_ble_eq_true rfl, Nat.le_of_ble_eq_true rfl⟩ dX0_fillSystem_170 [0, 1, 2, 3, 4] [5, 6, 7, 8, 9, 10, 11, 12, 13, 14, 15, 16, 17] rfl rfl rfl rfl (by decide) rfl ?_
        refine g_if_eq Γ 186 dX0_fillSystem_173 (by decide) (fun c76 => ?_) (fun c76 => ?_)
        · have hf := ya_if1 c76 hf
          refine g_lconst (v := 0) Γ dX0_fillSystem_186 (by decide) ?_
          obtain ⟨v77, e78, hf⟩ := ya_ob hf
          obtain ⟨v79, e80, hf⟩ := ya_lt_inv hf
          refine g_lastR (M := d_t_rows) (ws' := [(A_t 3, eQ cR 6 A_t_rows), (A_t_rows 0, eJ cJ 7 (v79 0)), (A_t_rows 1, eJ cJ 7 (v79 1)), (A_t_rows 2, eJ cJ 7 (v79 2)), (A_t_rows 3, eJ cJ 7 (v79 3)), (A_t_rows 4, eJ cJ 7 (v79 4)), (A_t_rows 5, eJ cJ 7 (v79 5)), (A_t 4, eJ cJ 6 d_t_surplus), (h_w, oW A_w d_w_knots d_w_flows d_w_readSet), (A_w 0, eI cI 10 d_w_from), (A_w 1, eI cI 10 d_w_to), (A_w 2, eI cI 10 d_w_reading), (A_w 3, eI cI 10 d_w_miss), (h_t, oF A_t d_t_unread d_t_below), (A_t 0, oG A_t_heaps), (A_t_heaps 0, eI cI 6 d_t_heaps_least), (A_t 1, oG A_t_pieces), (A_t_pieces 0, eI cI 6 d_t_pieces_least)]) Γ e78 h73 1 1 (ya_six rfl rfl rfl rfl rfl rfl) rfl dX0_fillSystem_187 (fun h => by subst e80 h; rfl) (fun h => by subst e80 h; rfl) (fun h => by subst e80 h; rfl) (fun h => by subst e80 h; rfl) (fun h => by subst e80 h; rfl) (fun h => by subst e80 h; rfl) ?_
          obtain ⟨v81, e82, hf⟩ := ya_lt_inv hf
          refine g_iinc (lv' := [(2, .int v81), (0, .ref h_t), (1, .ref h_w)]) Γ 2 dX0_fillSystem_188 rfl (by rw [e82]; rfl) (by decide) rfl ?_
          refine g_goto Γ 152 dX0_fillSystem_191 (by decide) ?_
          refine g_lv [1, 2, 0] rfl ?_
          refine g_ws (ws' := [(h_t, oF A_t d_t_unread d_t_below), (A_t 0, oG A_t_heaps), (A_t_heaps 0, eI cI 6 d_t_heaps_least), (A_t 1, oG A_t_pieces), (A_t_pieces 0, eI cI 6 d_t_pieces_least), (A_t 3, eQ cR 6 A_t_rows), (A_t_rows 0, eJ cJ 7 (v79 0)), (A_t_rows 1, eJ cJ 7 (v79 1)), (A_t_rows 2, eJ cJ 7 (v79 2)), (A_t_rows 3, eJ cJ 7 (v79 3)), (A_t_rows 4, eJ cJ 7 (v79 4)), (A_t_rows 5, eJ cJ 7 (v79 5)), (A_t 4, eJ cJ 6 d_t_surplus), (h_w, oW A_w d_w_knots d_w_flows d_w_readSet), (A_w 0, eI cI 10 d_w_from), (A_w 1, eI cI 10 d_w_to), (A_w 2, eI cI 10 d_w_reading), (A_w 3, eI cI 10 d_w_miss)]) [13, 14, 15, 16, 17, 0, 1, 2, 3, 4, 5, 6, 7, 8, 9, 10, 11, 12] rfl rfl ?_
          exact ih _ _ _ _ _ _ _ _ _ _ _ _ _ _ _ hf hk
        · have hf := ya_if2 c76 hf
          refine g_aload_n Γ 0 dX0_fillSystem_176 rfl ?_
          refine g_get Γ fX0_fillSystem_29 13 rfl rfl dX0_fillSystem_177 ?_
          refine g_iload_n Γ 2 dX0_fillSystem_180 rfl ?_
          obtain ⟨v83, e84, hf⟩ := ya_ob hf
          refine g_lald Γ e84 7 1 rfl rfl dX0_fillSystem_181 ?_
          refine g_lneg Γ dX0_fillSystem_182 ?_
          refine g_goto Γ 187 dX0_fillSystem_183 (by decide) ?_
          obtain ⟨v85, e86, hf⟩ := ya_ob hf
          obtain ⟨v87, e88, hf⟩ := ya_lt_inv hf
          refine g_lastR (M := d_t_rows) (ws' := [(A_t 3, eQ cR 6 A_t_rows), (A_t_rows 0, eJ cJ 7 (v87 0)), (A_t_rows 1, eJ cJ 7 (v87 1)), (A_t_rows 2, eJ cJ 7 (v87 2)), (A_t_rows 3, eJ cJ 7 (v87 3)), (A_t_rows 4, eJ cJ 7 (v87 4)), (A_t_rows 5, eJ cJ 7 (v87 5)), (A_t 4, eJ cJ 6 d_t_surplus), (h_w, oW A_w d_w_knots d_w_flows d_w_readSet), (A_w 0, eI cI 10 d_w_from), (A_w 1, eI cI 10 d_w_to), (A_w 2, eI cI 10 d_w_reading), (A_w 3, eI cI 10 d_w_miss), (h_t, oF A_t d_t_unread d_t_below), (A_t 0, oG A_t_heaps), (A_t_heaps 0, eI cI 6 d_t_heaps_least), (A_t 1, oG A_t_pieces), (A_t_pieces 0, eI cI 6 d_t_pieces_least)]) Γ e86 h73 1 1 (ya_six rfl rfl rfl rfl rfl rfl) rfl dX0_fillSystem_187 (fun h => by subst e88 h; rfl) (fun h => by subst e88 h; rfl) (fun h => by subst e88 h; rfl) (fun h => by subst e88 h; rfl) (fun h => by subst e88 h; rfl) (fun h => by subst e88 h; rfl) ?_
          obtain ⟨v89, e90, hf⟩ := ya_lt_inv hf
          refine g_iinc (lv' := [(2, .int v89), (0, .ref h_t), (1, .ref h_w)]) Γ 2 dX0_fillSystem_188 rfl (by rw [e90]; rfl) (by decide) rfl ?_
          refine g_goto Γ 152 dX0_fillSystem_191 (by decide) ?_
          refine g_lv [1, 2, 0] rfl ?_
          refine g_ws (ws' := [(h_t, oF A_t d_t_unread d_t_below), (A_t 0, oG A_t_heaps), (A_t_heaps 0, eI cI 6 d_t_heaps_least), (A_t 1, oG A_t_pieces), (A_t_pieces 0, eI cI 6 d_t_pieces_least), (A_t 3, eQ cR 6 A_t_rows), (A_t_rows 0, eJ cJ 7 (v87 0)), (A_t_rows 1, eJ cJ 7 (v87 1)), (A_t_rows 2, eJ cJ 7 (v87 2)), (A_t_rows 3, eJ cJ 7 (v87 3)), (A_t_rows 4, eJ cJ 7 (v87 4)), (A_t_rows 5, eJ cJ 7 (v87 5)), (A_t 4, eJ cJ 6 d_t_surplus), (h_w, oW A_w d_w_knots d_w_flows d_w_readSet), (A_w 0, eI cI 10 d_w_from), (A_w 1, eI cI 10 d_w_to), (A_w 2, eI cI 10 d_w_reading), (A_w 3, eI cI 10 d_w_miss)]) [13, 14, 15, 16, 17, 0, 1, 2, 3, 4, 5, 6, 7, 8, 9, 10, 11, 12] rfl rfl ?_
          exact ih _ _ _ _ _ _ _ _ _ _ _ _ _ _ _ hf hk
  show yG p l e (headSpec wsX0_fillSystem rmX0_fillSystem).room s m (List.toArray [.ref h_t, .ref h_w]) below meth c D (va_A [(h_t, oF A_t c_t_unread c_t_below), (A_t 0, oG A_t_heaps), (A_t_heaps 0, eI cI 6 c_t_heaps_least), (A_t 1, oG A_t_pieces), (A_t_pieces 0, eI cI 6 c_t_pieces_least), (A_t 3, eQ cR 6 A_t_rows), (A_t_rows 0, eJ cJ 7 (c_t_rows 0)), (A_t_rows 1, eJ cJ 7 (c_t_rows 1)), (A_t_rows 2, eJ cJ 7 (c_t_rows 2)), (A_t_rows 3, eJ cJ 7 (c_t_rows 3)), (A_t_rows 4, eJ cJ 7 (c_t_rows 4)), (A_t_rows 5, eJ cJ 7 (c_t_rows 5)), (A_t 4, eJ cJ 6 c_t_surplus), (h_w, oW A_w c_w_knots c_w_flows c_w_readSet), (A_w 0, eI cI 10 c_w_from), (A_w 1, eI cI 10 c_w_to), (A_w 2, eI cI 10 c_w_reading), (A_w 3, eI cI 10 c_w_miss)] sz) 4 0 0 (MQ below (yQv D (yT cI cJ cZ cW cR) [(h_t, oF A_t c_t_unread c_t_below), (A_t 0, oG A_t_heaps), (A_t_heaps 0, eI cI 6 c_t_heaps_least), (A_t 1, oG A_t_pieces), (A_t_pieces 0, eI cI 6 c_t_pieces_least), (A_t 3, eQ cR 6 A_t_rows), (A_t_rows 0, eJ cJ 7 (zc_t_rows 0)), (A_t_rows 1, eJ cJ 7 (zc_t_rows 1)), (A_t_rows 2, eJ cJ 7 (zc_t_rows 2)), (A_t_rows 3, eJ cJ 7 (zc_t_rows 3)), (A_t_rows 4, eJ cJ 7 (zc_t_rows 4)), (A_t_rows 5, eJ cJ 7 (zc_t_rows 5)), (A_t 4, eJ cJ 6 zc_t_surplus), (h_w, oW A_w c_w_knots c_w_flows c_w_readSet), (A_w 0, eI cI 10 c_w_from), (A_w 1, eI cI 10 c_w_to), (A_w 2, eI cI 10 c_w_reading), (A_w 3, eI cI 10 c_w_miss)] (va_A [(h_t, oF A_t c_t_unread c_t_below), (A_t 0, oG A_t_heaps), (A_t_heaps 0, eI cI 6 c_t_heaps_least), (A_t 1, oG A_t_pieces), (A_t_pieces 0, eI cI 6 c_t_pieces_least), (A_t 3, eQ cR 6 A_t_rows), (A_t_rows 0, eJ cJ 7 (c_t_rows 0)), (A_t_rows 1, eJ cJ 7 (c_t_rows 1)), (A_t_rows 2, eJ cJ 7 (c_t_rows 2)), (A_t_rows 3, eJ cJ 7 (c_t_rows 3)), (A_t_rows 4, eJ cJ 7 (c_t_rows 4)), (A_t_rows 5, eJ cJ 7 (c_t_rows 5)), (A_t 4, eJ cJ 6 c_t_surplus), (h_w, oW A_w c_w_knots c_w_flows c_w_readSet), (A_w 0, eI cI 10 c_w_from), (A_w 1, eI cI 10 c_w_to), (A_w 2, eI cI 10 c_w_reading), (A_w 3, eI cI 10 c_w_miss)] sz)) (List.toArray [.ref h_t, .ref h_w]) s 0 0 (va_A [(h_t, oF A_t c_t_unread c_t_below), (A_t 0, oG A_t_heaps), (A_t_heaps 0, eI cI 6 c_t_heaps_least), (A_t 1, oG A_t_pieces), (A_t_pieces 0, eI cI 6 c_t_pieces_least), (A_t 3, eQ cR 6 A_t_rows), (A_t_rows 0, eJ cJ 7 (c_t_rows 0)), (A_t_rows 1, eJ cJ 7 (c_t_rows 1)), (A_t_rows 2, eJ cJ 7 (c_t_rows 2)), (A_t_rows 3, eJ cJ 7 (c_t_rows 3)), (A_t_rows 4, eJ cJ 7 (c_t_rows 4)), (A_t_rows 5, eJ cJ 7 (c_t_rows 5)), (A_t 4, eJ cJ 6 c_t_surplus), (h_w, oW A_w c_w_knots c_w_flows c_w_readSet), (A_w 0, eI cI 10 c_w_from), (A_w 1, eI cI 10 c_w_to), (A_w 2, eI cI 10 c_w_reading), (A_w 3, eI cI 10 c_w_miss)] sz)) 0 [(0, .ref h_t), (1, .ref h_w)] [] [(h_t, oF A_t c_t_unread c_t_below), (A_t 0, oG A_t_heaps), (A_t_heaps 0, eI cI 6 c_t_heaps_least), (A_t 1, oG A_t_pieces), (A_t_pieces 0, eI cI 6 c_t_pieces_least), (A_t 3, eQ cR 6 A_t_rows), (A_t_rows 0, eJ cJ 7 (c_t_rows 0)), (A_t_rows 1, eJ cJ 7 (c_t_rows 1)), (A_t_rows 2, eJ cJ 7 (c_t_rows 2)), (A_t_rows 3, eJ cJ 7 (c_t_rows 3)), (A_t_rows 4, eJ cJ 7 (c_t_rows 4)), (A_t_rows 5, eJ cJ 7 (c_t_rows 5)), (A_t 4, eJ cJ 6 c_t_surplus), (h_w, oW A_w c_w_knots c_w_flows c_w_readSet), (A_w 0, eI cI 10 c_w_from), (A_w 1, eI cI 10 c_w_to), (A_w 2, eI cI 10 c_w_reading), (A_w 3, eI cI 10 c_w_miss)]
  unfold fX0_fillSystem at hf
  refine g_iconst (v := 0) Γ dX0_fillSystem_0 (by decide) ?_
  refine g_istore_n (lv' := [(2, .int 0), (0, .ref h_t), (1, .ref h_w)]) Γ dX0_fillSystem_1 (by decide) rfl ?_
  obtain ⟨⟨v36, v37⟩, e38, hf⟩ := ya_ob hf
  refine g_lv [1, 2, 0] rfl ?_
  refine loop2 N _ _ _ _ _ _ _ _ _ _ _ _ _ _ _ _ e38  ?_
  refine g_iconst (v := 0) Γ dX0_fillSystem_67 (by decide) ?_
  refine g_istore_n (lv' := [(2, .int 0), (0, .ref h_t), (1, .ref h_w)]) Γ dX0_fillSystem_68 (by decide) rfl ?_
  obtain ⟨⟨v67, v68⟩, e69, hf⟩ := ya_ob hf
  refine g_lv [1, 2, 0] rfl ?_
  refine loop69 N _ _ _ _ _ _ _ _ _ _ _ _ _ _ _ _ e69  ?_
  refine g_iconst (v := 0) Γ dX0_fillSystem_150 (by decide) ?_
  refine g_istore_n (lv' := [(2, .int 0), (0, .ref h_t), (1, .ref h_w)]) Γ dX0_fillSystem_151 (by decide) rfl ?_
  obtain ⟨v91, e92, hf⟩ := ya_ob hf
  refine g_lv [1, 2, 0] rfl ?_
  refine loop152 N _ _ _ _ _ _ _ _ _ _ _ _ _ _ _ e92  ?_
  cases hf
  exact g_vret Γ hr dX0_fillSystem_194 [0, 1, 2, 3, 4, 5, 6, 7, 8, 9, 10, 11, 12, 13, 14, 15, 16, 17] rfl rfl

theorem dX0_clearColumn_0 : decode cX0_clearColumn 0 = .ok (.aload_n 0, 1) := by decide +kernel
theorem dX0_clearColumn_1 : decode cX0_clearColumn 1 = .ok (.getfield 37, 3) := by decide +kernel
theorem dX0_clearColumn_4 : decode cX0_clearColumn 4 = .ok (.lstore 5, 2) := by decide +kernel
theorem dX0_clearColumn_6 : decode cX0_clearColumn 6 = .ok (.lload 5, 2) := by decide +kernel
theorem dX0_clearColumn_8 : decode cX0_clearColumn 8 = .ok (.lconst 1, 1) := by decide +kernel
theorem dX0_clearColumn_9 : decode cX0_clearColumn 9 = .ok (.lcmp, 1) := by decide +kernel
theorem dX0_clearColumn_10 : decode cX0_clearColumn 10 = .ok (.ifCond .ge 4, 3) := by decide +kernel
theorem dX0_clearColumn_13 : decode cX0_clearColumn 13 = .ok (.return_, 1) := by decide +kernel
theorem dX0_clearColumn_14 : decode cX0_clearColumn 14 = .ok (.aload_n 0, 1) := by decide +kernel
theorem dX0_clearColumn_15 : decode cX0_clearColumn 15 = .ok (.getfield 26, 3) := by decide +kernel
theorem dX0_clearColumn_18 : decode cX0_clearColumn 18 = .ok (.iload_n 1, 1) := by decide +kernel
theorem dX0_clearColumn_19 : decode cX0_clearColumn 19 = .ok (.aaload, 1) := by decide +kernel
theorem dX0_clearColumn_20 : decode cX0_clearColumn 20 = .ok (.iload_n 2, 1) := by decide +kernel
theorem dX0_clearColumn_21 : decode cX0_clearColumn 21 = .ok (.laload, 1) := by decide +kernel
theorem dX0_clearColumn_22 : decode cX0_clearColumn 22 = .ok (.lstore 7, 2) := by decide +kernel
theorem dX0_clearColumn_24 : decode cX0_clearColumn 24 = .ok (.iconst 0, 1) := by decide +kernel
theorem dX0_clearColumn_25 : decode cX0_clearColumn 25 = .ok (.istore 9, 2) := by decide +kernel
theorem dX0_clearColumn_27 : decode cX0_clearColumn 27 = .ok (.iload 9, 2) := by decide +kernel
theorem dX0_clearColumn_29 : decode cX0_clearColumn 29 = .ok (.bipush 6, 2) := by decide +kernel
theorem dX0_clearColumn_31 : decode cX0_clearColumn 31 = .ok (.if_icmp .gt 45, 3) := by decide +kernel
theorem dX0_clearColumn_34 : decode cX0_clearColumn 34 = .ok (.aload_n 0, 1) := by decide +kernel
theorem dX0_clearColumn_35 : decode cX0_clearColumn 35 = .ok (.getfield 26, 3) := by decide +kernel
theorem dX0_clearColumn_38 : decode cX0_clearColumn 38 = .ok (.iload_n 1, 1) := by decide +kernel
theorem dX0_clearColumn_39 : decode cX0_clearColumn 39 = .ok (.aaload, 1) := by decide +kernel
theorem dX0_clearColumn_40 : decode cX0_clearColumn 40 = .ok (.iload 9, 2) := by decide +kernel
theorem dX0_clearColumn_42 : decode cX0_clearColumn 42 = .ok (.lload_n 3, 1) := by decide +kernel
theorem dX0_clearColumn_43 : decode cX0_clearColumn 43 = .ok (.aload_n 0, 1) := by decide +kernel
theorem dX0_clearColumn_44 : decode cX0_clearColumn 44 = .ok (.getfield 26, 3) := by decide +kernel
theorem dX0_clearColumn_47 : decode cX0_clearColumn 47 = .ok (.iload_n 1, 1) := by decide +kernel
theorem dX0_clearColumn_48 : decode cX0_clearColumn 48 = .ok (.aaload, 1) := by decide +kernel
theorem dX0_clearColumn_49 : decode cX0_clearColumn 49 = .ok (.iload 9, 2) := by decide +kernel
theorem dX0_clearColumn_51 : decode cX0_clearColumn 51 = .ok (.laload, 1) := by decide +kernel
theorem dX0_clearColumn_52 : decode cX0_clearColumn 52 = .ok (.lmul, 1) := by decide +kernel
theorem dX0_clearColumn_53 : decode cX0_clearColumn 53 = .ok (.lload 7, 2) := by decide +kernel
theorem dX0_clearColumn_55 : decode cX0_clearColumn 55 = .ok (.aload_n 0, 1) := by decide +kernel
theorem dX0_clearColumn_56 : decode cX0_clearColumn 56 = .ok (.getfield 26, 3) := by decide +kernel
theorem dX0_clearColumn_59 : decode cX0_clearColumn 59 = .ok (.iload_n 2, 1) := by decide +kernel
theorem dX0_clearColumn_60 : decode cX0_clearColumn 60 = .ok (.aaload, 1) := by decide +kernel
theorem dX0_clearColumn_61 : decode cX0_clearColumn 61 = .ok (.iload 9, 2) := by decide +kernel
theorem dX0_clearColumn_63 : decode cX0_clearColumn 63 = .ok (.laload, 1) := by decide +kernel
theorem dX0_clearColumn_64 : decode cX0_clearColumn 64 = .ok (.lmul, 1) := by decide +kernel
theorem dX0_clearColumn_65 : decode cX0_clearColumn 65 = .ok (.lsub, 1) := by decide +kernel
theorem dX0_clearColumn_66 : decode cX0_clearColumn 66 = .ok (.lload 5, 2) := by decide +kernel
theorem dX0_clearColumn_68 : decode cX0_clearColumn 68 = .ok (.ldiv, 1) := by decide +kernel
theorem dX0_clearColumn_69 : decode cX0_clearColumn 69 = .ok (.lastore, 1) := by decide +kernel
theorem dX0_clearColumn_70 : decode cX0_clearColumn 70 = .ok (.iinc 9 1, 3) := by decide +kernel
theorem dX0_clearColumn_73 : decode cX0_clearColumn 73 = .ok (.goto (-46), 3) := by decide +kernel
theorem dX0_clearColumn_76 : decode cX0_clearColumn 76 = .ok (.return_, 1) := by decide +kernel
/-! ===== FlowMeters$Fit.clearColumn(IIJ)V ===== -/
def fX0_clearColumn_L27 (N : Nat) (n : Nat) (y1 : Int32) (y2 : Int32) (y3 : Int64) (y5 : Int64) (y7 : Int64) (y9 : Int32) (d_t_rows : Nat → Nat → Int64) : Option (Nat → Nat → Int64) := match n with
  | 0 => none
  | n + 1 =>
    (if 6 < y9 then
        some d_t_rows
      else
        (ya_ix 6 y1).bind fun v8 =>
        (ya_ix 6 y1).bind fun v11 =>
        (ya_rd (d_t_rows v11) 7 y9).bind fun v14 =>
        (ya_ix 6 y2).bind fun v16 =>
        (ya_rd (d_t_rows v16) 7 y9).bind fun v19 =>
        (ya_ldv ((y3 * v14) - (y7 * v19)) y5).bind fun v21 =>
        (ya_wr (d_t_rows v8) 7 y9 v21).bind fun v23 =>
        ya_lt (ya_up d_t_rows v8 v23) fun v25 =>
        ya_lt (y9 + 1) fun v27 =>
        fX0_clearColumn_L27 N n y1 y2 y3 y5 y7 v27 v25)
def fX0_clearColumn (N : Nat) (c_t_below : Int64) (c_t_rows : Nat → Nat → Int64) (x1 : Int32) (x2 : Int32) (x3 : Int64) : Option (Nat → Nat → Int64) :=
  (if 0 ≤ (lg_cmp c_t_below 1) then
    (ya_ix 6 x1).bind fun v2 =>
    (ya_rd (c_t_rows v2) 7 x2).bind fun v5 =>
    (fX0_clearColumn_L27 N N x1 x2 x3 c_t_below v5 0 c_t_rows).bind fun v29 =>
    some v29
  else
    some c_t_rows)
theorem fX0_clearColumn_37 : yF wsX0_clearColumn RX0 37 0 6 RX0 TX0 7 := ⟨rfl, by decide, by decide +kernel, by decide +kernel⟩
theorem fX0_clearColumn_26 : yF wsX0_clearColumn RX0 26 0 3 RX0 TX0 7 := ⟨rfl, by decide, by decide +kernel, by decide +kernel⟩
abbrev rmX0_clearColumn : Room := { frames := 0, cells := 0, slots := 0, locals := 0 }
theorem eX0_clearColumn : yY yX0_clearColumn wsX0_clearColumn cX0_clearColumn 10 none rmX0_clearColumn 3 := ⟨⟨_, rfl⟩, rfl, rfl, by decide, by decide, by decide +kernel⟩
set_option maxHeartbeats 4000000 in
set_option maxRecDepth 100000 in
theorem mX0_clearColumn {l : Launch} {D : va_G} {sz : Nat} {cI cJ cZ cW cR : ClassId} {N : Nat} {h_t : Nat} {A_t : Nat → Nat} {A_t_rows : Nat → Nat} {c_t_unread : Int32} {c_t_below : Int64} {c_t_rows : Nat → Nat → Int64} {x1 : Int32} {x2 : Int32} {x3 : Int64} {zc_t_rows : Nat → Nat → Int64} (hf : fX0_clearColumn N c_t_below c_t_rows x1 x2 x3 = some zc_t_rows) : Met l yX0_clearColumn wsX0_clearColumn rmX0_clearColumn (yP D (yT cI cJ cZ cW cR) [(h_t, oF A_t c_t_unread c_t_below), (A_t 3, eQ cR 6 A_t_rows), (A_t_rows 0, eJ cJ 7 (c_t_rows 0)), (A_t_rows 1, eJ cJ 7 (c_t_rows 1)), (A_t_rows 2, eJ cJ 7 (c_t_rows 2)), (A_t_rows 3, eJ cJ 7 (c_t_rows 3)), (A_t_rows 4, eJ cJ 7 (c_t_rows 4)), (A_t_rows 5, eJ cJ 7 (c_t_rows 5))] sz [.ref h_t, .int x1, .int x2, .long x3]) (yQv D (yT cI cJ cZ cW cR) [(h_t, oF A_t c_t_unread c_t_below), (A_t 3, eQ cR 6 A_t_rows), (A_t_rows 0, eJ cJ 7 (zc_t_rows 0)), (A_t_rows 1, eJ cJ 7 (zc_t_rows 1)), (A_t_rows 2, eJ cJ 7 (zc_t_rows 2)), (A_t_rows 3, eJ cJ 7 (zc_t_rows 3)), (A_t_rows 4, eJ cJ 7 (zc_t_rows 4)), (A_t_rows 5, eJ cJ 7 (zc_t_rows 5))] (va_A [(h_t, oF A_t c_t_unread c_t_below), (A_t 3, eQ cR 6 A_t_rows), (A_t_rows 0, eJ cJ 7 (c_t_rows 0)), (A_t_rows 1, eJ cJ 7 (c_t_rows 1)), (A_t_rows 2, eJ cJ 7 (c_t_rows 2)), (A_t_rows 3, eJ cJ 7 (c_t_rows 3)), (A_t_rows 4, eJ cJ 7 (c_t_rows 4)), (A_t_rows 5, eJ cJ 7 (c_t_rows 5))] sz)) 0 0 (va_A [(h_t, oF A_t c_t_unread c_t_below), (A_t 3, eQ cR 6 A_t_rows), (A_t_rows 0, eJ cJ 7 (c_t_rows 0)), (A_t_rows 1, eJ cJ 7 (c_t_rows 1)), (A_t_rows 2, eJ cJ 7 (c_t_rows 2)), (A_t_rows 3, eJ cJ 7 (c_t_rows 3)), (A_t_rows 4, eJ cJ 7 (c_t_rows 4)), (A_t_rows 5, eJ cJ 7 (c_t_rows 5))] sz) := by
  refine yM (cc := cX0_clearColumn) (maxL := 10) (ret := none) RX0 (by decide) rfl rfl (Nat.le_of_ble_eq_true rfl) ?_
  intro p e s m below meth c Γ hr
  have loop27 : ∀ (n : Nat) (y1 : Int32) (y2 : Int32) (y3 : Int64) (y5 : Int64) (y7 : Int64) (y9 : Int32) (d_t_unread : Int32) (d_t_below : Int64) (d_t_rows : Nat → Nat → Int64) (w0 : Nat → Nat → Int64), fX0_clearColumn_L27 N n y1 y2 y3 y5 y7 y9 d_t_rows = some w0 → yG p l e (headSpec wsX0_clearColumn rmX0_clearColumn).room s m (List.toArray [.ref h_t, .int x1, .int x2, .long x3]) below meth c D (va_A [(h_t, oF A_t c_t_unread c_t_below), (A_t 3, eQ cR 6 A_t_rows), (A_t_rows 0, eJ cJ 7 (c_t_rows 0)), (A_t_rows 1, eJ cJ 7 (c_t_rows 1)), (A_t_rows 2, eJ cJ 7 (c_t_rows 2)), (A_t_rows 3, eJ cJ 7 (c_t_rows 3)), (A_t_rows 4, eJ cJ 7 (c_t_rows 4)), (A_t_rows 5, eJ cJ 7 (c_t_rows 5))] sz) 10 0 0 (MQ below (yQv D (yT cI cJ cZ cW cR) [(h_t, oF A_t c_t_unread c_t_below), (A_t 3, eQ cR 6 A_t_rows), (A_t_rows 0, eJ cJ 7 (zc_t_rows 0)), (A_t_rows 1, eJ cJ 7 (zc_t_rows 1)), (A_t_rows 2, eJ cJ 7 (zc_t_rows 2)), (A_t_rows 3, eJ cJ 7 (zc_t_rows 3)), (A_t_rows 4, eJ cJ 7 (zc_t_rows 4)), (A_t_rows 5, eJ cJ 7 (zc_t_rows 5))] (va_A [(h_t, oF A_t c_t_unread c_t_below), (A_t 3, eQ cR 6 A_t_rows), (A_t_rows 0, eJ cJ 7 (c_t_rows 0)), (A_t_rows 1, eJ cJ 7 (c_t_rows 1)), (A_t_rows 2, eJ cJ 7 (c_t_rows 2)), (A_t_rows 3, eJ cJ 7 (c_t_rows 3)), (A_t_rows 4, eJ cJ 7 (c_t_rows 4)), (A_t_rows 5, eJ cJ 7 (c_t_rows 5))] sz)) (List.toArray [.ref h_t, .int x1, .int x2, .long x3]) s 0 0 (va_A [(h_t, oF A_t c_t_unread c_t_below), (A_t 3, eQ cR 6 A_t_rows), (A_t_rows 0, eJ cJ 7 (c_t_rows 0)), (A_t_rows 1, eJ cJ 7 (c_t_rows 1)), (A_t_rows 2, eJ cJ 7 (c_t_rows 2)), (A_t_rows 3, eJ cJ 7 (c_t_rows 3)), (A_t_rows 4, eJ cJ 7 (c_t_rows 4)), (A_t_rows 5, eJ cJ 7 (c_t_rows 5))] sz)) 76 [] [] [(h_t, oF A_t d_t_unread d_t_below), (A_t 3, eQ cR 6 A_t_rows), (A_t_rows 0, eJ cJ 7 (w0 0)), (A_t_rows 1, eJ cJ 7 (w0 1)), (A_t_rows 2, eJ cJ 7 (w0 2)), (A_t_rows 3, eJ cJ 7 (w0 3)), (A_t_rows 4, eJ cJ 7 (w0 4)), (A_t_rows 5, eJ cJ 7 (w0 5))] → yG p l e (headSpec wsX0_clearColumn rmX0_clearColumn).room s m (List.toArray [.ref h_t, .int x1, .int x2, .long x3]) below meth c D (va_A [(h_t, oF A_t c_t_unread c_t_below), (A_t 3, eQ cR 6 A_t_rows), (A_t_rows 0, eJ cJ 7 (c_t_rows 0)), (A_t_rows 1, eJ cJ 7 (c_t_rows 1)), (A_t_rows 2, eJ cJ 7 (c_t_rows 2)), (A_t_rows 3, eJ cJ 7 (c_t_rows 3)), (A_t_rows 4, eJ cJ 7 (c_t_rows 4)), (A_t_rows 5, eJ cJ 7 (c_t_rows 5))] sz) 10 0 0 (MQ below (yQv D (yT cI cJ cZ cW cR) [(h_t, oF A_t c_t_unread c_t_below), (A_t 3, eQ cR 6 A_t_rows), (A_t_rows 0, eJ cJ 7 (zc_t_rows 0)), (A_t_rows 1, eJ cJ 7 (zc_t_rows 1)), (A_t_rows 2, eJ cJ 7 (zc_t_rows 2)), (A_t_rows 3, eJ cJ 7 (zc_t_rows 3)), (A_t_rows 4, eJ cJ 7 (zc_t_rows 4)), (A_t_rows 5, eJ cJ 7 (zc_t_rows 5))] (va_A [(h_t, oF A_t c_t_unread c_t_below), (A_t 3, eQ cR 6 A_t_rows), (A_t_rows 0, eJ cJ 7 (c_t_rows 0)), (A_t_rows 1, eJ cJ 7 (c_t_rows 1)), (A_t_rows 2, eJ cJ 7 (c_t_rows 2)), (A_t_rows 3, eJ cJ 7 (c_t_rows 3)), (A_t_rows 4, eJ cJ 7 (c_t_rows 4)), (A_t_rows 5, eJ cJ 7 (c_t_rows 5))] sz)) (List.toArray [.ref h_t, .int x1, .int x2, .long x3]) s 0 0 (va_A [(h_t, oF A_t c_t_unread c_t_below), (A_t 3, eQ cR 6 A_t_rows), (A_t_rows 0, eJ cJ 7 (c_t_rows 0)), (A_t_rows 1, eJ cJ 7 (c_t_rows 1)), (A_t_rows 2, eJ cJ 7 (c_t_rows 2)), (A_t_rows 3, eJ cJ 7 (c_t_rows 3)), (A_t_rows 4, eJ cJ 7 (c_t_rows 4)), (A_t_rows 5, eJ cJ 7 (c_t_rows 5))] sz)) 27 [(0, .ref h_t), (1, .int y1), (2, .int y2), (3, .long y3), (5, .long y5), (7, .long y7), (9, .int y9)] [] [(h_t, oF A_t d_t_unread d_t_below), (A_t 3, eQ cR 6 A_t_rows), (A_t_rows 0, eJ cJ 7 (d_t_rows 0)), (A_t_rows 1, eJ cJ 7 (d_t_rows 1)), (A_t_rows 2, eJ cJ 7 (d_t_rows 2)), (A_t_rows 3, eJ cJ 7 (d_t_rows 3)), (A_t_rows 4, eJ cJ 7 (d_t_rows 4)), (A_t_rows 5, eJ cJ 7 (d_t_rows 5))] := by
    intro n
    induction n with
    | zero =>
      intro y1 y2 y3 y5 y7 y9 d_t_unread d_t_below d_t_rows w0 hf
      cases hf
    | succ n ih =>
      intro y1 y2 y3 y5 y7 y9 d_t_unread d_t_below d_t_rows w0 hf hk
      unfold fX0_clearColumn_L27 at hf
      refine g_iload Γ 6 dX0_clearColumn_27 rfl ?_
      refine g_bipush (v := 6) Γ dX0_clearColumn_29 (by decide) ?_
      refine g_icmp_gt Γ 76 dX0_clearColumn_31 (by decide) (fun c7 => ?_) (fun c7 => ?_)
      · have hf := ya_if1 c7 hf
        cases hf
        refine g_lv [] rfl ?_
        exact hk
      · have hf := ya_if2 c7 hf
        refine g_aload_n Γ 0 dX0_clearColumn_34 rfl ?_
        refine g_get Γ fX0_clearColumn_26 0 rfl rfl dX0_clearColumn_35 ?_
        refine g_iload_n Γ 1 dX0_clearColumn_38 rfl ?_
        obtain ⟨v8, e9, hf⟩ := ya_ob hf
        have h10 := ya_ix_lt e9
        refine g_aldR Γ e9 1 4 rfl rfl dX0_clearColumn_39 ?_
        refine g_iload Γ 6 dX0_clearColumn_40 rfl ?_
        refine g_lload_n Γ 3 dX0_clearColumn_42 rfl ?_
        refine g_aload_n Γ 0 dX0_clearColumn_43 rfl ?_
        refine g_get Γ fX0_clearColumn_26 0 rfl rfl dX0_clearColumn_44 ?_
        refine g_iload_n Γ 1 dX0_clearColumn_47 rfl ?_
        obtain ⟨v11, e12, hf⟩ := ya_ob hf
        have h13 := ya_ix_lt e12
        refine g_aldR Γ e12 1 4 rfl rfl dX0_clearColumn_48 ?_
        refine g_iload Γ 6 dX0_clearColumn_49 rfl ?_
        obtain ⟨v14, e15, hf⟩ := ya_ob hf
        refine g_laldR (M := d_t_rows) Γ e15 h13 2 1 (ya_six rfl rfl rfl rfl rfl rfl) rfl dX0_clearColumn_51 ?_
        refine g_lmul Γ dX0_clearColumn_52 ?_
        refine g_lload Γ 5 dX0_clearColumn_53 rfl ?_
        refine g_aload_n Γ 0 dX0_clearColumn_55 rfl ?_
        refine g_get Γ fX0_clearColumn_26 0 rfl rfl dX0_clearColumn_56 ?_
        refine g_iload_n Γ 2 dX0_clearColumn_59 rfl ?_
        obtain ⟨v16, e17, hf⟩ := ya_ob hf
        have h18 := ya_ix_lt e17
        refine g_aldR Γ e17 1 4 rfl rfl dX0_clearColumn_60 ?_
        refine g_iload Γ 6 dX0_clearColumn_61 rfl ?_
        obtain ⟨v19, e20, hf⟩ := ya_ob hf
        refine g_laldR (M := d_t_rows) Γ e20 h18 2 1 (ya_six rfl rfl rfl rfl rfl rfl) rfl dX0_clearColumn_63 ?_
        refine g_lmul Γ dX0_clearColumn_64 ?_
        refine g_lsub Γ dX0_clearColumn_65 ?_
        refine g_lload Γ 4 dX0_clearColumn_66 rfl ?_
        obtain ⟨v21, e22, hf⟩ := ya_ob hf
        refine g_ldiv Γ e22 dX0_clearColumn_68 ?_
        obtain ⟨v23, e24, hf⟩ := ya_ob hf
        obtain ⟨v25, e26, hf⟩ := ya_lt_inv hf
        refine g_lastR (M := d_t_rows) (ws' := [(h_t, oF A_t d_t_unread d_t_below), (A_t 3, eQ cR 6 A_t_rows), (A_t_rows 0, eJ cJ 7 (v25 0)), (A_t_rows 1, eJ cJ 7 (v25 1)), (A_t_rows 2, eJ cJ 7 (v25 2)), (A_t_rows 3, eJ cJ 7 (v25 3)), (A_t_rows 4, eJ cJ 7 (v25 4)), (A_t_rows 5, eJ cJ 7 (v25 5))]) Γ e24 h10 2 1 (ya_six rfl rfl rfl rfl rfl rfl) rfl dX0_clearColumn_69 (fun h => by subst e26 h; rfl) (fun h => by subst e26 h; rfl) (fun h => by subst e26 h; rfl) (fun h => by subst e26 h; rfl) (fun h => by subst e26 h; rfl) (fun h => by subst e26 h; rfl) ?_
        obtain ⟨v27, e28, hf⟩ := ya_lt_inv hf
        refine g_iinc (lv' := [(9, .int v27), (0, .ref h_t), (1, .int y1), (2, .int y2), (3, .long y3), (5, .long y5), (7, .long y7)]) Γ 6 dX0_clearColumn_70 rfl (by rw [e28]; rfl) (by decide) rfl ?_
        refine g_goto Γ 27 dX0_clearColumn_73 (by decide) ?_
        refine g_lv [1, 2, 3, 4, 5, 6, 0] rfl ?_
        exact ih _ _ _ _ _ _ _ _ _ _ hf hk
  show yG p l e (headSpec wsX0_clearColumn rmX0_clearColumn).room s m (List.toArray [.ref h_t, .int x1, .int x2, .long x3]) below meth c D (va_A [(h_t, oF A_t c_t_unread c_t_below), (A_t 3, eQ cR 6 A_t_rows), (A_t_rows 0, eJ cJ 7 (c_t_rows 0)), (A_t_rows 1, eJ cJ 7 (c_t_rows 1)), (A_t_rows 2, eJ cJ 7 (c_t_rows 2)), (A_t_rows 3, eJ cJ 7 (c_t_rows 3)), (A_t_rows 4, eJ cJ 7 (c_t_rows 4)), (A_t_rows 5, eJ cJ 7 (c_t_rows 5))] sz) 10 0 0 (MQ below (yQv D (yT cI cJ cZ cW cR) [(h_t, oF A_t c_t_unread c_t_below), (A_t 3, eQ cR 6 A_t_rows), (A_t_rows 0, eJ cJ 7 (zc_t_rows 0)), (A_t_rows 1, eJ cJ 7 (zc_t_rows 1)), (A_t_rows 2, eJ cJ 7 (zc_t_rows 2)), (A_t_rows 3, eJ cJ 7 (zc_t_rows 3)), (A_t_rows 4, eJ cJ 7 (zc_t_rows 4)), (A_t_rows 5, eJ cJ 7 (zc_t_rows 5))] (va_A [(h_t, oF A_t c_t_unread c_t_below), (A_t 3, eQ cR 6 A_t_rows), (A_t_rows 0, eJ cJ 7 (c_t_rows 0)), (A_t_rows 1, eJ cJ 7 (c_t_rows 1)), (A_t_rows 2, eJ cJ 7 (c_t_rows 2)), (A_t_rows 3, eJ cJ 7 (c_t_rows 3)), (A_t_rows 4, eJ cJ 7 (c_t_rows 4)), (A_t_rows 5, eJ cJ 7 (c_t_rows 5))] sz)) (List.toArray [.ref h_t, .int x1, .int x2, .long x3]) s 0 0 (va_A [(h_t, oF A_t c_t_unread c_t_below), (A_t 3, eQ cR 6 A_t_rows), (A_t_rows 0, eJ cJ 7 (c_t_rows 0)), (A_t_rows 1, eJ cJ 7 (c_t_rows 1)), (A_t_rows 2, eJ cJ 7 (c_t_rows 2)), (A_t_rows 3, eJ cJ 7 (c_t_rows 3)), (A_t_rows 4, eJ cJ 7 (c_t_rows 4)), (A_t_rows 5, eJ cJ 7 (c_t_rows 5))] sz)) 0 [(0, .ref h_t), (1, .int x1), (2, .int x2), (3, .long x3)] [] [(h_t, oF A_t c_t_unread c_t_below), (A_t 3, eQ cR 6 A_t_rows), (A_t_rows 0, eJ cJ 7 (c_t_rows 0)), (A_t_rows 1, eJ cJ 7 (c_t_rows 1)), (A_t_rows 2, eJ cJ 7 (c_t_rows 2)), (A_t_rows 3, eJ cJ 7 (c_t_rows 3)), (A_t_rows 4, eJ cJ 7 (c_t_rows 4)), (A_t_rows 5, eJ cJ 7 (c_t_rows 5))]
  unfold fX0_clearColumn at hf
  refine g_aload_n Γ 0 dX0_clearColumn_0 rfl ?_
  refine g_get Γ fX0_clearColumn_37 0 rfl rfl dX0_clearColumn_1 ?_
  refine g_lstore (lv' := [(5, .long c_t_below), (0, .ref h_t), (1, .int x1), (2, .int x2), (3, .long x3)]) Γ dX0_clearColumn_4 (by decide) rfl ?_
  refine g_lload Γ 0 dX0_clearColumn_6 rfl ?_
  refine g_lconst (v := 1) Γ dX0_clearColumn_8 (by decide) ?_
  refine g_lcmp Γ dX0_clearColumn_9 ?_
  refine g_if_ge Γ 14 dX0_clearColumn_10 (by decide) (fun c1 => ?_) (fun c1 => ?_)
  · have hf := ya_if1 c1 hf
    refine g_aload_n Γ 1 dX0_clearColumn_14 rfl ?_
    refine g_get Γ fX0_clearColumn_26 0 rfl rfl dX0_clearColumn_15 ?_
    refine g_iload_n Γ 2 dX0_clearColumn_18 rfl ?_
    obtain ⟨v2, e3, hf⟩ := ya_ob hf
    have h4 := ya_ix_lt e3
    refine g_aldR Γ e3 1 4 rfl rfl dX0_clearColumn_19 ?_
    refine g_iload_n Γ 3 dX0_clearColumn_20 rfl ?_
    obtain ⟨v5, e6, hf⟩ := ya_ob hf
    refine g_laldR (M := c_t_rows) Γ e6 h4 2 1 (ya_six rfl rfl rfl rfl rfl rfl) rfl dX0_clearColumn_21 ?_
    refine g_lstore (lv' := [(7, .long v5), (5, .long c_t_below), (0, .ref h_t), (1, .int x1), (2, .int x2), (3, .long x3)]) Γ dX0_clearColumn_22 (by decide) rfl ?_
    refine g_iconst (v := 0) Γ dX0_clearColumn_24 (by decide) ?_
    refine g_istore (lv' := [(9, .int 0), (7, .long v5), (5, .long c_t_below), (0, .ref h_t), (1, .int x1), (2, .int x2), (3, .long x3)]) Γ dX0_clearColumn_25 (by decide) rfl ?_
    obtain ⟨v29, e30, hf⟩ := ya_ob hf
    refine g_lv [3, 4, 5, 6, 2, 1, 0] rfl ?_
    refine loop27 N _ _ _ _ _ _ _ _ _ _ e30  ?_
    cases hf
    exact g_vret Γ hr dX0_clearColumn_76 [0, 1, 2, 3, 4, 5, 6, 7] rfl rfl
  · have hf := ya_if2 c1 hf
    cases hf
    exact g_vret Γ hr dX0_clearColumn_13 [0, 1, 2, 3, 4, 5, 6, 7] rfl rfl

set_option maxRecDepth 20000 in
theorem ggX0_eliminate_X0_clearColumn : GoodIn wsX0_eliminate wsX0_clearColumn := goodIn_r _ [7, 1, 2, 8, 9, 10, 11, 12, 13, 14] (by decide +kernel) (by decide +kernel)
set_option maxRecDepth 20000 in
theorem gX0_eliminate_X0_clearColumn : GoodIn wsX0_eliminate (wsV RX0 96 RX0 yX0_clearColumn wsX0_clearColumn) := goodIn_app (goodIn_of _ (by decide +kernel)) ggX0_eliminate_X0_clearColumn
theorem dX0_eliminate_0 : decode cX0_eliminate 0 = .ok (.aload_n 0, 1) := by decide +kernel
theorem dX0_eliminate_1 : decode cX0_eliminate 1 = .ok (.lconst 1, 1) := by decide +kernel
theorem dX0_eliminate_2 : decode cX0_eliminate 2 = .ok (.putfield 37, 3) := by decide +kernel
theorem dX0_eliminate_5 : decode cX0_eliminate 5 = .ok (.iconst 0, 1) := by decide +kernel
theorem dX0_eliminate_6 : decode cX0_eliminate 6 = .ok (.istore_n 2, 1) := by decide +kernel
theorem dX0_eliminate_7 : decode cX0_eliminate 7 = .ok (.iload_n 2, 1) := by decide +kernel
theorem dX0_eliminate_8 : decode cX0_eliminate 8 = .ok (.iload_n 1, 1) := by decide +kernel
theorem dX0_eliminate_9 : decode cX0_eliminate 9 = .ok (.if_icmp .ge 59, 3) := by decide +kernel
theorem dX0_eliminate_12 : decode cX0_eliminate 12 = .ok (.aload_n 0, 1) := by decide +kernel
theorem dX0_eliminate_13 : decode cX0_eliminate 13 = .ok (.getfield 26, 3) := by decide +kernel
theorem dX0_eliminate_16 : decode cX0_eliminate 16 = .ok (.iload_n 2, 1) := by decide +kernel
theorem dX0_eliminate_17 : decode cX0_eliminate 17 = .ok (.aaload, 1) := by decide +kernel
theorem dX0_eliminate_18 : decode cX0_eliminate 18 = .ok (.iload_n 2, 1) := by decide +kernel
theorem dX0_eliminate_19 : decode cX0_eliminate 19 = .ok (.laload, 1) := by decide +kernel
theorem dX0_eliminate_20 : decode cX0_eliminate 20 = .ok (.lstore_n 3, 1) := by decide +kernel
theorem dX0_eliminate_21 : decode cX0_eliminate 21 = .ok (.lload_n 3, 1) := by decide +kernel
theorem dX0_eliminate_22 : decode cX0_eliminate 22 = .ok (.lconst 1, 1) := by decide +kernel
theorem dX0_eliminate_23 : decode cX0_eliminate 23 = .ok (.lcmp, 1) := by decide +kernel
theorem dX0_eliminate_24 : decode cX0_eliminate 24 = .ok (.ifCond .ge 4, 3) := by decide +kernel
theorem dX0_eliminate_27 : decode cX0_eliminate 27 = .ok (.return_, 1) := by decide +kernel
theorem dX0_eliminate_28 : decode cX0_eliminate 28 = .ok (.iconst 0, 1) := by decide +kernel
theorem dX0_eliminate_29 : decode cX0_eliminate 29 = .ok (.istore 5, 2) := by decide +kernel
theorem dX0_eliminate_31 : decode cX0_eliminate 31 = .ok (.iload 5, 2) := by decide +kernel
theorem dX0_eliminate_33 : decode cX0_eliminate 33 = .ok (.iload_n 1, 1) := by decide +kernel
theorem dX0_eliminate_34 : decode cX0_eliminate 34 = .ok (.if_icmp .ge 23, 3) := by decide +kernel
theorem dX0_eliminate_37 : decode cX0_eliminate 37 = .ok (.iload 5, 2) := by decide +kernel
theorem dX0_eliminate_39 : decode cX0_eliminate 39 = .ok (.iload_n 2, 1) := by decide +kernel
theorem dX0_eliminate_40 : decode cX0_eliminate 40 = .ok (.if_icmp .eq 11, 3) := by decide +kernel
theorem dX0_eliminate_43 : decode cX0_eliminate 43 = .ok (.aload_n 0, 1) := by decide +kernel
theorem dX0_eliminate_44 : decode cX0_eliminate 44 = .ok (.iload 5, 2) := by decide +kernel
theorem dX0_eliminate_46 : decode cX0_eliminate 46 = .ok (.iload_n 2, 1) := by decide +kernel
theorem dX0_eliminate_47 : decode cX0_eliminate 47 = .ok (.lload_n 3, 1) := by decide +kernel
theorem dX0_eliminate_48 : decode cX0_eliminate 48 = .ok (.invokevirtual 96, 3) := by decide +kernel
theorem dX0_eliminate_51 : decode cX0_eliminate 51 = .ok (.iinc 5 1, 3) := by decide +kernel
theorem dX0_eliminate_54 : decode cX0_eliminate 54 = .ok (.goto (-23), 3) := by decide +kernel
theorem dX0_eliminate_57 : decode cX0_eliminate 57 = .ok (.aload_n 0, 1) := by decide +kernel
theorem dX0_eliminate_58 : decode cX0_eliminate 58 = .ok (.lload_n 3, 1) := by decide +kernel
theorem dX0_eliminate_59 : decode cX0_eliminate 59 = .ok (.putfield 37, 3) := by decide +kernel
theorem dX0_eliminate_62 : decode cX0_eliminate 62 = .ok (.iinc 2 1, 3) := by decide +kernel
theorem dX0_eliminate_65 : decode cX0_eliminate 65 = .ok (.goto (-58), 3) := by decide +kernel
theorem dX0_eliminate_68 : decode cX0_eliminate 68 = .ok (.return_, 1) := by decide +kernel
/-! ===== FlowMeters$Fit.eliminate(I)V ===== -/
def fX0_eliminate_L31 (N : Nat) (n : Nat) (y1 : Int32) (y2 : Int32) (y3 : Int64) (y5 : Int32) (d_t_below : Int64) (d_t_rows : Nat → Nat → Int64) : Option (Nat → Nat → Int64) := match n with
  | 0 => none
  | n + 1 =>
    (if y1 ≤ y5 then
        some d_t_rows
      else
        (if y5 = y2 then
          ya_lt (y5 + 1) fun v10 =>
          fX0_eliminate_L31 N n y1 y2 y3 v10 d_t_below d_t_rows
        else
          (fX0_clearColumn N d_t_below d_t_rows y5 y2 y3).bind fun v12 =>
          ya_lt (y5 + 1) fun v14 =>
          fX0_eliminate_L31 N n y1 y2 y3 v14 d_t_below v12))
def fX0_eliminate_L7 (N : Nat) (n : Nat) (y1 : Int32) (y2 : Int32) (d_t_below : Int64) (d_t_rows : Nat → Nat → Int64) : Option ((Int64 × (Nat → Nat → Int64)) ⊕ (Int64 × (Nat → Nat → Int64))) := match n with
  | 0 => none
  | n + 1 =>
    (if y1 ≤ y2 then
        some (.inr (d_t_below, d_t_rows))
      else
        (ya_ix 6 y2).bind fun v2 =>
        (ya_rd (d_t_rows v2) 7 y2).bind fun v5 =>
        (if 0 ≤ (lg_cmp v5 1) then
          (fX0_eliminate_L31 N N y1 y2 v5 0 d_t_below d_t_rows).bind fun v16 =>
          ya_lt (y2 + 1) fun v18 =>
          fX0_eliminate_L7 N n y1 v18 v5 v16
        else
          some (.inl (d_t_below, d_t_rows))))
def fX0_eliminate (N : Nat) (c_t_below : Int64) (c_t_rows : Nat → Nat → Int64) (x1 : Int32) : Option (Int64 × (Nat → Nat → Int64)) :=
  (fX0_eliminate_L7 N N x1 0 1 c_t_rows).bind fun o20 => match o20 with
    | .inl (v22, v23) => some (v22, v23)
    | .inr (v24, v25) => some (v24, v25)
theorem fX0_eliminate_37 : yF wsX0_eliminate RX0 37 0 6 RX0 TX0 7 := ⟨rfl, by decide, by decide +kernel, by decide +kernel⟩
theorem fX0_eliminate_26 : yF wsX0_eliminate RX0 26 0 3 RX0 TX0 7 := ⟨rfl, by decide, by decide +kernel, by decide +kernel⟩
abbrev rmX0_eliminate : Room := { frames := 1, cells := 0, slots := 0, locals := 29 }
theorem eX0_eliminate : yY yX0_eliminate wsX0_eliminate cX0_eliminate 6 none rmX0_eliminate 1 := ⟨⟨_, rfl⟩, rfl, rfl, by decide, by decide, by decide +kernel⟩
set_option maxHeartbeats 4000000 in
set_option maxRecDepth 100000 in
theorem mX0_eliminate {l : Launch} {D : va_G} {sz : Nat} {cI cJ cZ cW cR : ClassId} {N : Nat} {h_t : Nat} {A_t : Nat → Nat} {A_t_rows : Nat → Nat} {c_t_unread : Int32} {c_t_below : Int64} {c_t_rows : Nat → Nat → Int64} {x1 : Int32} {zc_t_below : Int64} {zc_t_rows : Nat → Nat → Int64} (hf : fX0_eliminate N c_t_below c_t_rows x1 = some (zc_t_below, zc_t_rows)) : Met l yX0_eliminate wsX0_eliminate rmX0_eliminate (yP D (yT cI cJ cZ cW cR) [(h_t, oF A_t c_t_unread c_t_below), (A_t 3, eQ cR 6 A_t_rows), (A_t_rows 0, eJ cJ 7 (c_t_rows 0)), (A_t_rows 1, eJ cJ 7 (c_t_rows 1)), (A_t_rows 2, eJ cJ 7 (c_t_rows 2)), (A_t_rows 3, eJ cJ 7 (c_t_rows 3)), (A_t_rows 4, eJ cJ 7 (c_t_rows 4)), (A_t_rows 5, eJ cJ 7 (c_t_rows 5))] sz [.ref h_t, .int x1]) (yQv D (yT cI cJ cZ cW cR) [(h_t, oF A_t c_t_unread zc_t_below), (A_t 3, eQ cR 6 A_t_rows), (A_t_rows 0, eJ cJ 7 (zc_t_rows 0)), (A_t_rows 1, eJ cJ 7 (zc_t_rows 1)), (A_t_rows 2, eJ cJ 7 (zc_t_rows 2)), (A_t_rows 3, eJ cJ 7 (zc_t_rows 3)), (A_t_rows 4, eJ cJ 7 (zc_t_rows 4)), (A_t_rows 5, eJ cJ 7 (zc_t_rows 5))] (va_A [(h_t, oF A_t c_t_unread c_t_below), (A_t 3, eQ cR 6 A_t_rows), (A_t_rows 0, eJ cJ 7 (c_t_rows 0)), (A_t_rows 1, eJ cJ 7 (c_t_rows 1)), (A_t_rows 2, eJ cJ 7 (c_t_rows 2)), (A_t_rows 3, eJ cJ 7 (c_t_rows 3)), (A_t_rows 4, eJ cJ 7 (c_t_rows 4)), (A_t_rows 5, eJ cJ 7 (c_t_rows 5))] sz)) 0 0 (va_A [(h_t, oF A_t c_t_unread c_t_below), (A_t 3, eQ cR 6 A_t_rows), (A_t_rows 0, eJ cJ 7 (c_t_rows 0)), (A_t_rows 1, eJ cJ 7 (c_t_rows 1)), (A_t_rows 2, eJ cJ 7 (c_t_rows 2)), (A_t_rows 3, eJ cJ 7 (c_t_rows 3)), (A_t_rows 4, eJ cJ 7 (c_t_rows 4)), (A_t_rows 5, eJ cJ 7 (c_t_rows 5))] sz) := by
  refine yM (cc := cX0_eliminate) (maxL := 6) (ret := none) RX0 (by decide) rfl rfl (Nat.le_of_ble_eq_true rfl) ?_
  intro p e s m below meth c Γ hr
  have loop31 : ∀ (n : Nat) (y1 : Int32) (y2 : Int32) (y3 : Int64) (y5 : Int32) (d_t_unread : Int32) (d_t_below : Int64) (d_t_rows : Nat → Nat → Int64) (w0 : Nat → Nat → Int64), fX0_eliminate_L31 N n y1 y2 y3 y5 d_t_below d_t_rows = some w0 → yG p l e (headSpec wsX0_eliminate rmX0_eliminate).room s m (List.toArray [.ref h_t, .int x1]) below meth c D (va_A [(h_t, oF A_t c_t_unread c_t_below), (A_t 3, eQ cR 6 A_t_rows), (A_t_rows 0, eJ cJ 7 (c_t_rows 0)), (A_t_rows 1, eJ cJ 7 (c_t_rows 1)), (A_t_rows 2, eJ cJ 7 (c_t_rows 2)), (A_t_rows 3, eJ cJ 7 (c_t_rows 3)), (A_t_rows 4, eJ cJ 7 (c_t_rows 4)), (A_t_rows 5, eJ cJ 7 (c_t_rows 5))] sz) 6 0 0 (MQ below (yQv D (yT cI cJ cZ cW cR) [(h_t, oF A_t c_t_unread zc_t_below), (A_t 3, eQ cR 6 A_t_rows), (A_t_rows 0, eJ cJ 7 (zc_t_rows 0)), (A_t_rows 1, eJ cJ 7 (zc_t_rows 1)), (A_t_rows 2, eJ cJ 7 (zc_t_rows 2)), (A_t_rows 3, eJ cJ 7 (zc_t_rows 3)), (A_t_rows 4, eJ cJ 7 (zc_t_rows 4)), (A_t_rows 5, eJ cJ 7 (zc_t_rows 5))] (va_A [(h_t, oF A_t c_t_unread c_t_below), (A_t 3, eQ cR 6 A_t_rows), (A_t_rows 0, eJ cJ 7 (c_t_rows 0)), (A_t_rows 1, eJ cJ 7 (c_t_rows 1)), (A_t_rows 2, eJ cJ 7 (c_t_rows 2)), (A_t_rows 3, eJ cJ 7 (c_t_rows 3)), (A_t_rows 4, eJ cJ 7 (c_t_rows 4)), (A_t_rows 5, eJ cJ 7 (c_t_rows 5))] sz)) (List.toArray [.ref h_t, .int x1]) s 0 0 (va_A [(h_t, oF A_t c_t_unread c_t_below), (A_t 3, eQ cR 6 A_t_rows), (A_t_rows 0, eJ cJ 7 (c_t_rows 0)), (A_t_rows 1, eJ cJ 7 (c_t_rows 1)), (A_t_rows 2, eJ cJ 7 (c_t_rows 2)), (A_t_rows 3, eJ cJ 7 (c_t_rows 3)), (A_t_rows 4, eJ cJ 7 (c_t_rows 4)), (A_t_rows 5, eJ cJ 7 (c_t_rows 5))] sz)) 57 [(0, .ref h_t), (1, .int y1), (2, .int y2), (3, .long y3)] [] [(h_t, oF A_t d_t_unread d_t_below), (A_t 3, eQ cR 6 A_t_rows), (A_t_rows 0, eJ cJ 7 (w0 0)), (A_t_rows 1, eJ cJ 7 (w0 1)), (A_t_rows 2, eJ cJ 7 (w0 2)), (A_t_rows 3, eJ cJ 7 (w0 3)), (A_t_rows 4, eJ cJ 7 (w0 4)), (A_t_rows 5, eJ cJ 7 (w0 5))] → yG p l e (headSpec wsX0_eliminate rmX0_eliminate).room s m (List.toArray [.ref h_t, .int x1]) below meth c D (va_A [(h_t, oF A_t c_t_unread c_t_below), (A_t 3, eQ cR 6 A_t_rows), (A_t_rows 0, eJ cJ 7 (c_t_rows 0)), (A_t_rows 1, eJ cJ 7 (c_t_rows 1)), (A_t_rows 2, eJ cJ 7 (c_t_rows 2)), (A_t_rows 3, eJ cJ 7 (c_t_rows 3)), (A_t_rows 4, eJ cJ 7 (c_t_rows 4)), (A_t_rows 5, eJ cJ 7 (c_t_rows 5))] sz) 6 0 0 (MQ below (yQv D (yT cI cJ cZ cW cR) [(h_t, oF A_t c_t_unread zc_t_below), (A_t 3, eQ cR 6 A_t_rows), (A_t_rows 0, eJ cJ 7 (zc_t_rows 0)), (A_t_rows 1, eJ cJ 7 (zc_t_rows 1)), (A_t_rows 2, eJ cJ 7 (zc_t_rows 2)), (A_t_rows 3, eJ cJ 7 (zc_t_rows 3)), (A_t_rows 4, eJ cJ 7 (zc_t_rows 4)), (A_t_rows 5, eJ cJ 7 (zc_t_rows 5))] (va_A [(h_t, oF A_t c_t_unread c_t_below), (A_t 3, eQ cR 6 A_t_rows), (A_t_rows 0, eJ cJ 7 (c_t_rows 0)), (A_t_rows 1, eJ cJ 7 (c_t_rows 1)), (A_t_rows 2, eJ cJ 7 (c_t_rows 2)), (A_t_rows 3, eJ cJ 7 (c_t_rows 3)), (A_t_rows 4, eJ cJ 7 (c_t_rows 4)), (A_t_rows 5, eJ cJ 7 (c_t_rows 5))] sz)) (List.toArray [.ref h_t, .int x1]) s 0 0 (va_A [(h_t, oF A_t c_t_unread c_t_below), (A_t 3, eQ cR 6 A_t_rows), (A_t_rows 0, eJ cJ 7 (c_t_rows 0)), (A_t_rows 1, eJ cJ 7 (c_t_rows 1)), (A_t_rows 2, eJ cJ 7 (c_t_rows 2)), (A_t_rows 3, eJ cJ 7 (c_t_rows 3)), (A_t_rows 4, eJ cJ 7 (c_t_rows 4)), (A_t_rows 5, eJ cJ 7 (c_t_rows 5))] sz)) 31 [(0, .ref h_t), (1, .int y1), (2, .int y2), (3, .long y3), (5, .int y5)] [] [(h_t, oF A_t d_t_unread d_t_below), (A_t 3, eQ cR 6 A_t_rows), (A_t_rows 0, eJ cJ 7 (d_t_rows 0)), (A_t_rows 1, eJ cJ 7 (d_t_rows 1)), (A_t_rows 2, eJ cJ 7 (d_t_rows 2)), (A_t_rows 3, eJ cJ 7 (d_t_rows 3)), (A_t_rows 4, eJ cJ 7 (d_t_rows 4)), (A_t_rows 5, eJ cJ 7 (d_t_rows 5))] := by
    intro n
    induction n with
    | zero =>
      intro y1 y2 y3 y5 d_t_unread d_t_below d_t_rows w0 hf
      cases hf
    | succ n ih =>
      intro y1 y2 y3 y5 d_t_unread d_t_below d_t_rows w0 hf hk
      unfold fX0_eliminate_L31 at hf
      refine g_iload Γ 4 dX0_eliminate_31 rfl ?_
      refine g_iload_n Γ 1 dX0_eliminate_33 rfl ?_
      refine g_icmp_ge Γ 57 dX0_eliminate_34 (by decide) (fun c8 => ?_) (fun c8 => ?_)
      · have hf := ya_if1 c8 hf
        cases hf
        refine g_lv [0, 1, 2, 3] rfl ?_
        exact hk
      · have hf := ya_if2 c8 hf
        refine g_iload Γ 4 dX0_eliminate_37 rfl ?_
        refine g_iload_n Γ 2 dX0_eliminate_39 rfl ?_
        refine g_icmp_eq Γ 51 dX0_eliminate_40 (by decide) (fun c9 => ?_) (fun c9 => ?_)
        · have hf := ya_if1 c9 hf
          obtain ⟨v10, e11, hf⟩ := ya_lt_inv hf
          refine g_iinc (lv' := [(5, .int v10), (0, .ref h_t), (1, .int y1), (2, .int y2), (3, .long y3)]) Γ 4 dX0_eliminate_51 rfl (by rw [e11]; rfl) (by decide) rfl ?_
          refine g_goto Γ 31 dX0_eliminate_54 (by decide) ?_
          refine g_lv [1, 2, 3, 4, 0] rfl ?_
          exact ih _ _ _ _ _ _ _ _ hf hk
        · have hf := ya_if2 c9 hf
          refine g_aload_n Γ 0 dX0_eliminate_43 rfl ?_
          refine g_iload Γ 4 dX0_eliminate_44 rfl ?_
          refine g_iload_n Γ 2 dX0_eliminate_46 rfl ?_
          refine g_lload_n Γ 3 dX0_eliminate_47 rfl ?_
          obtain ⟨v12, e13, hf⟩ := ya_ob hf
          refine g_vv (q := (RX0, TX0, 7)) (wr := []) (ws' := [(h_t, oF A_t d_t_unread d_t_below), (A_t 3, eQ cR 6 A_t_rows), (A_t_rows 0, eJ cJ 7 (v12 0)), (A_t_rows 1, eJ cJ 7 (v12 1)), (A_t_rows 2, eJ cJ 7 (v12 2)), (A_t_rows 3, eJ cJ 7 (v12 3)), (A_t_rows 4, eJ cJ 7 (v12 4)), (A_t_rows 5, eJ cJ 7 (v12 5))]) Γ (fun sz => mX0_clearColumn (l := l) (D := D) (sz := sz) (cI := cI) (cJ := cJ) (cZ := cZ) (cW := cW) (cR := cR) (h_t := h_t) (A_t := A_t) (A_t_rows := A_t_rows) (hf := e13)) eX0_clearColumn gX0_eliminate_X0_clearColumn rfl rfl 0 rfl rfl rfl (Nat.le_of_ble_eq_true rfl) ⟨Nat.le_of_ble_eq_true rfl, Nat.le_of_ble_eq_true rfl⟩ dX0_eliminate_48 [0, 1, 2, 3, 4, 5, 6, 7] [] rfl rfl rfl rfl (by decide) rfl ?_
          obtain ⟨v14, e15, hf⟩ := ya_lt_inv hf
          refine g_iinc (lv' := [(5, .int v14), (0, .ref h_t), (1, .int y1), (2, .int y2), (3, .long y3)]) Γ 4 dX0_eliminate_51 rfl (by rw [e15]; rfl) (by decide) rfl ?_
          refine g_goto Γ 31 dX0_eliminate_54 (by decide) ?_
          refine g_lv [1, 2, 3, 4, 0] rfl ?_
          exact ih _ _ _ _ _ _ _ _ hf hk
  have loop7 : ∀ (n : Nat) (y1 : Int32) (y2 : Int32) (d_t_unread : Int32) (d_t_below : Int64) (d_t_rows : Nat → Nat → Int64) (o : (Int64 × (Nat → Nat → Int64)) ⊕ (Int64 × (Nat → Nat → Int64))), fX0_eliminate_L7 N n y1 y2 d_t_below d_t_rows = some o → (∀ (w0 : Int64) (w1 : Nat → Nat → Int64), o = .inl (w0, w1) → yG p l e (headSpec wsX0_eliminate rmX0_eliminate).room s m (List.toArray [.ref h_t, .int x1]) below meth c D (va_A [(h_t, oF A_t c_t_unread c_t_below), (A_t 3, eQ cR 6 A_t_rows), (A_t_rows 0, eJ cJ 7 (c_t_rows 0)), (A_t_rows 1, eJ cJ 7 (c_t_rows 1)), (A_t_rows 2, eJ cJ 7 (c_t_rows 2)), (A_t_rows 3, eJ cJ 7 (c_t_rows 3)), (A_t_rows 4, eJ cJ 7 (c_t_rows 4)), (A_t_rows 5, eJ cJ 7 (c_t_rows 5))] sz) 6 0 0 (MQ below (yQv D (yT cI cJ cZ cW cR) [(h_t, oF A_t c_t_unread zc_t_below), (A_t 3, eQ cR 6 A_t_rows), (A_t_rows 0, eJ cJ 7 (zc_t_rows 0)), (A_t_rows 1, eJ cJ 7 (zc_t_rows 1)), (A_t_rows 2, eJ cJ 7 (zc_t_rows 2)), (A_t_rows 3, eJ cJ 7 (zc_t_rows 3)), (A_t_rows 4, eJ cJ 7 (zc_t_rows 4)), (A_t_rows 5, eJ cJ 7 (zc_t_rows 5))] (va_A [(h_t, oF A_t c_t_unread c_t_below), (A_t 3, eQ cR 6 A_t_rows), (A_t_rows 0, eJ cJ 7 (c_t_rows 0)), (A_t_rows 1, eJ cJ 7 (c_t_rows 1)), (A_t_rows 2, eJ cJ 7 (c_t_rows 2)), (A_t_rows 3, eJ cJ 7 (c_t_rows 3)), (A_t_rows 4, eJ cJ 7 (c_t_rows 4)), (A_t_rows 5, eJ cJ 7 (c_t_rows 5))] sz)) (List.toArray [.ref h_t, .int x1]) s 0 0 (va_A [(h_t, oF A_t c_t_unread c_t_below), (A_t 3, eQ cR 6 A_t_rows), (A_t_rows 0, eJ cJ 7 (c_t_rows 0)), (A_t_rows 1, eJ cJ 7 (c_t_rows 1)), (A_t_rows 2, eJ cJ 7 (c_t_rows 2)), (A_t_rows 3, eJ cJ 7 (c_t_rows 3)), (A_t_rows 4, eJ cJ 7 (c_t_rows 4)), (A_t_rows 5, eJ cJ 7 (c_t_rows 5))] sz)) 27 [] [] [(h_t, oF A_t d_t_unread w0), (A_t 3, eQ cR 6 A_t_rows), (A_t_rows 0, eJ cJ 7 (w1 0)), (A_t_rows 1, eJ cJ 7 (w1 1)), (A_t_rows 2, eJ cJ 7 (w1 2)), (A_t_rows 3, eJ cJ 7 (w1 3)), (A_t_rows 4, eJ cJ 7 (w1 4)), (A_t_rows 5, eJ cJ 7 (w1 5))]) → (∀ (w0 : Int64) (w1 : Nat → Nat → Int64), o = .inr (w0, w1) → yG p l e (headSpec wsX0_eliminate rmX0_eliminate).room s m (List.toArray [.ref h_t, .int x1]) below meth c D (va_A [(h_t, oF A_t c_t_unread c_t_below), (A_t 3, eQ cR 6 A_t_rows), (A_t_rows 0, eJ cJ 7 (c_t_rows 0)), (A_t_rows 1, eJ cJ 7 (c_t_rows 1)), (A_t_rows 2, eJ cJ 7 (c_t_rows 2)), (A_t_rows 3, eJ cJ 7 (c_t_rows 3)), (A_t_rows 4, eJ cJ 7 (c_t_rows 4)), (A_t_rows 5, eJ cJ 7 (c_t_rows 5))] sz) 6 0 0 (MQ below (yQv D (yT cI cJ cZ cW cR) [(h_t, oF A_t c_t_unread zc_t_below), (A_t 3, eQ cR 6 A_t_rows), (A_t_rows 0, eJ cJ 7 (zc_t_rows 0)), (A_t_rows 1, eJ cJ 7 (zc_t_rows 1)), (A_t_rows 2, eJ cJ 7 (zc_t_rows 2)), (A_t_rows 3, eJ cJ 7 (zc_t_rows 3)), (A_t_rows 4, eJ cJ 7 (zc_t_rows 4)), (A_t_rows 5, eJ cJ 7 (zc_t_rows 5))] (va_A [(h_t, oF A_t c_t_unread c_t_below), (A_t 3, eQ cR 6 A_t_rows), (A_t_rows 0, eJ cJ 7 (c_t_rows 0)), (A_t_rows 1, eJ cJ 7 (c_t_rows 1)), (A_t_rows 2, eJ cJ 7 (c_t_rows 2)), (A_t_rows 3, eJ cJ 7 (c_t_rows 3)), (A_t_rows 4, eJ cJ 7 (c_t_rows 4)), (A_t_rows 5, eJ cJ 7 (c_t_rows 5))] sz)) (List.toArray [.ref h_t, .int x1]) s 0 0 (va_A [(h_t, oF A_t c_t_unread c_t_below), (A_t 3, eQ cR 6 A_t_rows), (A_t_rows 0, eJ cJ 7 (c_t_rows 0)), (A_t_rows 1, eJ cJ 7 (c_t_rows 1)), (A_t_rows 2, eJ cJ 7 (c_t_rows 2)), (A_t_rows 3, eJ cJ 7 (c_t_rows 3)), (A_t_rows 4, eJ cJ 7 (c_t_rows 4)), (A_t_rows 5, eJ cJ 7 (c_t_rows 5))] sz)) 68 [] [] [(h_t, oF A_t d_t_unread w0), (A_t 3, eQ cR 6 A_t_rows), (A_t_rows 0, eJ cJ 7 (w1 0)), (A_t_rows 1, eJ cJ 7 (w1 1)), (A_t_rows 2, eJ cJ 7 (w1 2)), (A_t_rows 3, eJ cJ 7 (w1 3)), (A_t_rows 4, eJ cJ 7 (w1 4)), (A_t_rows 5, eJ cJ 7 (w1 5))]) → yG p l e (headSpec wsX0_eliminate rmX0_eliminate).room s m (List.toArray [.ref h_t, .int x1]) below meth c D (va_A [(h_t, oF A_t c_t_unread c_t_below), (A_t 3, eQ cR 6 A_t_rows), (A_t_rows 0, eJ cJ 7 (c_t_rows 0)), (A_t_rows 1, eJ cJ 7 (c_t_rows 1)), (A_t_rows 2, eJ cJ 7 (c_t_rows 2)), (A_t_rows 3, eJ cJ 7 (c_t_rows 3)), (A_t_rows 4, eJ cJ 7 (c_t_rows 4)), (A_t_rows 5, eJ cJ 7 (c_t_rows 5))] sz) 6 0 0 (MQ below (yQv D (yT cI cJ cZ cW cR) [(h_t, oF A_t c_t_unread zc_t_below), (A_t 3, eQ cR 6 A_t_rows), (A_t_rows 0, eJ cJ 7 (zc_t_rows 0)), (A_t_rows 1, eJ cJ 7 (zc_t_rows 1)), (A_t_rows 2, eJ cJ 7 (zc_t_rows 2)), (A_t_rows 3, eJ cJ 7 (zc_t_rows 3)), (A_t_rows 4, eJ cJ 7 (zc_t_rows 4)), (A_t_rows 5, eJ cJ 7 (zc_t_rows 5))] (va_A [(h_t, oF A_t c_t_unread c_t_below), (A_t 3, eQ cR 6 A_t_rows), (A_t_rows 0, eJ cJ 7 (c_t_rows 0)), (A_t_rows 1, eJ cJ 7 (c_t_rows 1)), (A_t_rows 2, eJ cJ 7 (c_t_rows 2)), (A_t_rows 3, eJ cJ 7 (c_t_rows 3)), (A_t_rows 4, eJ cJ 7 (c_t_rows 4)), (A_t_rows 5, eJ cJ 7 (c_t_rows 5))] sz)) (List.toArray [.ref h_t, .int x1]) s 0 0 (va_A [(h_t, oF A_t c_t_unread c_t_below), (A_t 3, eQ cR 6 A_t_rows), (A_t_rows 0, eJ cJ 7 (c_t_rows 0)), (A_t_rows 1, eJ cJ 7 (c_t_rows 1)), (A_t_rows 2, eJ cJ 7 (c_t_rows 2)), (A_t_rows 3, eJ cJ 7 (c_t_rows 3)), (A_t_rows 4, eJ cJ 7 (c_t_rows 4)), (A_t_rows 5, eJ cJ 7 (c_t_rows 5))] sz)) 7 [(0, .ref h_t), (1, .int y1), (2, .int y2)] [] [(h_t, oF A_t d_t_unread d_t_below), (A_t 3, eQ cR 6 A_t_rows), (A_t_rows 0, eJ cJ 7 (d_t_rows 0)), (A_t_rows 1, eJ cJ 7 (d_t_rows 1)), (A_t_rows 2, eJ cJ 7 (d_t_rows 2)), (A_t_rows 3, eJ cJ 7 (d_t_rows 3)), (A_t_rows 4, eJ cJ 7 (d_t_rows 4)), (A_t_rows 5, eJ cJ 7 (d_t_rows 5))] := by
    intro n
    induction n with
    | zero =>
      intro y1 y2 d_t_unread d_t_below d_t_rows o hf
      cases hf
    | succ n ih =>
      intro y1 y2 d_t_unread d_t_below d_t_rows o hf hk1 hk2
      unfold fX0_eliminate_L7 at hf
      refine g_iload_n Γ 2 dX0_eliminate_7 rfl ?_
      refine g_iload_n Γ 1 dX0_eliminate_8 rfl ?_
      refine g_icmp_ge Γ 68 dX0_eliminate_9 (by decide) (fun c1 => ?_) (fun c1 => ?_)
      · have hf := ya_if1 c1 hf
        cases hf
        refine g_lv [] rfl ?_
        exact hk2 _ _ rfl
      · have hf := ya_if2 c1 hf
        refine g_aload_n Γ 0 dX0_eliminate_12 rfl ?_
        refine g_get Γ fX0_eliminate_26 0 rfl rfl dX0_eliminate_13 ?_
        refine g_iload_n Γ 2 dX0_eliminate_16 rfl ?_
        obtain ⟨v2, e3, hf⟩ := ya_ob hf
        have h4 := ya_ix_lt e3
        refine g_aldR Γ e3 1 4 rfl rfl dX0_eliminate_17 ?_
        refine g_iload_n Γ 2 dX0_eliminate_18 rfl ?_
        obtain ⟨v5, e6, hf⟩ := ya_ob hf
        refine g_laldR (M := d_t_rows) Γ e6 h4 2 1 (ya_six rfl rfl rfl rfl rfl rfl) rfl dX0_eliminate_19 ?_
        refine g_lstore_n (lv' := [(3, .long v5), (0, .ref h_t), (1, .int y1), (2, .int y2)]) Γ dX0_eliminate_20 (by decide) rfl ?_
        refine g_lload_n Γ 0 dX0_eliminate_21 rfl ?_
        refine g_lconst (v := 1) Γ dX0_eliminate_22 (by decide) ?_
        refine g_lcmp Γ dX0_eliminate_23 ?_
        refine g_if_ge Γ 28 dX0_eliminate_24 (by decide) (fun c7 => ?_) (fun c7 => ?_)
        · have hf := ya_if1 c7 hf
          refine g_iconst (v := 0) Γ dX0_eliminate_28 (by decide) ?_
          refine g_istore (lv' := [(5, .int 0), (3, .long v5), (0, .ref h_t), (1, .int y1), (2, .int y2)]) Γ dX0_eliminate_29 (by decide) rfl ?_
          obtain ⟨v16, e17, hf⟩ := ya_ob hf
          refine g_lv [2, 3, 4, 1, 0] rfl ?_
          refine loop31 N _ _ _ _ _ _ _ _ e17  ?_
          refine g_aload_n Γ 0 dX0_eliminate_57 rfl ?_
          refine g_lload_n Γ 3 dX0_eliminate_58 rfl ?_
          refine g_put (ws' := [(h_t, oF A_t d_t_unread v5), (A_t 3, eQ cR 6 A_t_rows), (A_t_rows 0, eJ cJ 7 (v16 0)), (A_t_rows 1, eJ cJ 7 (v16 1)), (A_t_rows 2, eJ cJ 7 (v16 2)), (A_t_rows 3, eJ cJ 7 (v16 3)), (A_t_rows 4, eJ cJ 7 (v16 4)), (A_t_rows 5, eJ cJ 7 (v16 5))]) Γ fX0_eliminate_37 tyX0_ok nmX0 0 rfl rfl rfl rfl (Nat.le_of_ble_eq_true rfl) dX0_eliminate_59 rfl ?_
          obtain ⟨v18, e19, hf⟩ := ya_lt_inv hf
          refine g_iinc (lv' := [(2, .int v18), (0, .ref h_t), (1, .int y1), (3, .long v5)]) Γ 2 dX0_eliminate_62 rfl (by rw [e19]; rfl) (by decide) rfl ?_
          refine g_goto Γ 7 dX0_eliminate_65 (by decide) ?_
          refine g_lv [1, 2, 0] rfl ?_
          exact ih _ _ _ _ _ _ hf hk1 hk2
        · have hf := ya_if2 c7 hf
          cases hf
          refine g_lv [] rfl ?_
          exact hk1 _ _ rfl
  show yG p l e (headSpec wsX0_eliminate rmX0_eliminate).room s m (List.toArray [.ref h_t, .int x1]) below meth c D (va_A [(h_t, oF A_t c_t_unread c_t_below), (A_t 3, eQ cR 6 A_t_rows), (A_t_rows 0, eJ cJ 7 (c_t_rows 0)), (A_t_rows 1, eJ cJ 7 (c_t_rows 1)), (A_t_rows 2, eJ cJ 7 (c_t_rows 2)), (A_t_rows 3, eJ cJ 7 (c_t_rows 3)), (A_t_rows 4, eJ cJ 7 (c_t_rows 4)), (A_t_rows 5, eJ cJ 7 (c_t_rows 5))] sz) 6 0 0 (MQ below (yQv D (yT cI cJ cZ cW cR) [(h_t, oF A_t c_t_unread zc_t_below), (A_t 3, eQ cR 6 A_t_rows), (A_t_rows 0, eJ cJ 7 (zc_t_rows 0)), (A_t_rows 1, eJ cJ 7 (zc_t_rows 1)), (A_t_rows 2, eJ cJ 7 (zc_t_rows 2)), (A_t_rows 3, eJ cJ 7 (zc_t_rows 3)), (A_t_rows 4, eJ cJ 7 (zc_t_rows 4)), (A_t_rows 5, eJ cJ 7 (zc_t_rows 5))] (va_A [(h_t, oF A_t c_t_unread c_t_below), (A_t 3, eQ cR 6 A_t_rows), (A_t_rows 0, eJ cJ 7 (c_t_rows 0)), (A_t_rows 1, eJ cJ 7 (c_t_rows 1)), (A_t_rows 2, eJ cJ 7 (c_t_rows 2)), (A_t_rows 3, eJ cJ 7 (c_t_rows 3)), (A_t_rows 4, eJ cJ 7 (c_t_rows 4)), (A_t_rows 5, eJ cJ 7 (c_t_rows 5))] sz)) (List.toArray [.ref h_t, .int x1]) s 0 0 (va_A [(h_t, oF A_t c_t_unread c_t_below), (A_t 3, eQ cR 6 A_t_rows), (A_t_rows 0, eJ cJ 7 (c_t_rows 0)), (A_t_rows 1, eJ cJ 7 (c_t_rows 1)), (A_t_rows 2, eJ cJ 7 (c_t_rows 2)), (A_t_rows 3, eJ cJ 7 (c_t_rows 3)), (A_t_rows 4, eJ cJ 7 (c_t_rows 4)), (A_t_rows 5, eJ cJ 7 (c_t_rows 5))] sz)) 0 [(0, .ref h_t), (1, .int x1)] [] [(h_t, oF A_t c_t_unread c_t_below), (A_t 3, eQ cR 6 A_t_rows), (A_t_rows 0, eJ cJ 7 (c_t_rows 0)), (A_t_rows 1, eJ cJ 7 (c_t_rows 1)), (A_t_rows 2, eJ cJ 7 (c_t_rows 2)), (A_t_rows 3, eJ cJ 7 (c_t_rows 3)), (A_t_rows 4, eJ cJ 7 (c_t_rows 4)), (A_t_rows 5, eJ cJ 7 (c_t_rows 5))]
  unfold fX0_eliminate at hf
  refine g_aload_n Γ 0 dX0_eliminate_0 rfl ?_
  refine g_lconst (v := 1) Γ dX0_eliminate_1 (by decide) ?_
  refine g_put (ws' := [(h_t, oF A_t c_t_unread 1), (A_t 3, eQ cR 6 A_t_rows), (A_t_rows 0, eJ cJ 7 (c_t_rows 0)), (A_t_rows 1, eJ cJ 7 (c_t_rows 1)), (A_t_rows 2, eJ cJ 7 (c_t_rows 2)), (A_t_rows 3, eJ cJ 7 (c_t_rows 3)), (A_t_rows 4, eJ cJ 7 (c_t_rows 4)), (A_t_rows 5, eJ cJ 7 (c_t_rows 5))]) Γ fX0_eliminate_37 tyX0_ok nmX0 0 rfl rfl rfl rfl (Nat.le_of_ble_eq_true rfl) dX0_eliminate_2 rfl ?_
  refine g_iconst (v := 0) Γ dX0_eliminate_5 (by decide) ?_
  refine g_istore_n (lv' := [(2, .int 0), (0, .ref h_t), (1, .int x1)]) Γ dX0_eliminate_6 (by decide) rfl ?_
  obtain ⟨o20, e21, hf⟩ := ya_ob hf
  refine g_lv [1, 2, 0] rfl ?_
  refine loop7 N _ _ _ _ _ o20 e21 ?_ ?_
  · intro v22 v23 ho; subst ho
    cases hf
    exact g_vret Γ hr dX0_eliminate_27 [0, 1, 2, 3, 4, 5, 6, 7] rfl rfl
  · intro v24 v25 ho; subst ho
    cases hf
    exact g_vret Γ hr dX0_eliminate_68 [0, 1, 2, 3, 4, 5, 6, 7] rfl rfl

set_option maxRecDepth 20000 in
theorem ggX0_solve_X1_gather : GoodIn wsX0_solve wsX1_gather := goodIn_r _ [9, 10, 11, 12, 13, 14, 15, 16, 17, 18, 19, 8, 20, 21, 22, 23, 24, 25, 26, 27, 28, 29, 30, 31, 89, 78, 79, 80, 81, 82, 83, 84, 85, 86, 87, 88] (by decide +kernel) (by decide +kernel)
set_option maxRecDepth 20000 in
theorem gX0_solve_X1_gather : GoodIn wsX0_solve (wsV RX0 41 RX1 yX1_gather wsX1_gather) := goodIn_app (goodIn_of _ (by decide +kernel)) ggX0_solve_X1_gather
set_option maxRecDepth 20000 in
theorem ggX0_solve_X3_allSet : GoodIn wsX0_solve wsX3_allSet := goodIn_r _ [36, 37, 38, 15, 39, 78, 79, 80, 81, 82, 83, 84, 85, 86, 87, 88] (by decide +kernel) (by decide +kernel)
set_option maxRecDepth 20000 in
theorem gX0_solve_X3_allSet : GoodIn wsX0_solve (wsV RX0 45 RX3 yX3_allSet wsX3_allSet) := goodIn_app (goodIn_of _ (by decide +kernel)) ggX0_solve_X3_allSet
set_option maxRecDepth 20000 in
theorem ggX0_solve_X0_fillSystem : GoodIn wsX0_solve wsX0_fillSystem := goodIn_r _ [44, 4, 45, 46, 47, 1, 2, 48, 49, 50, 51, 52, 53, 54, 55, 43, 56, 3, 14, 15, 16, 57, 18, 19, 8, 20, 10, 12, 13, 58, 59, 60, 61, 78, 79, 80, 81, 82, 83, 84, 85, 86, 87, 88, 71, 72, 73, 74, 75, 76, 77, 89] (by decide +kernel) (by decide +kernel)
set_option maxRecDepth 20000 in
theorem gX0_solve_X0_fillSystem : GoodIn wsX0_solve (wsV RX0 51 RX0 yX0_fillSystem wsX0_fillSystem) := goodIn_app (goodIn_of _ (by decide +kernel)) ggX0_solve_X0_fillSystem
set_option maxRecDepth 20000 in
theorem ggX0_solve_X0_eliminate : GoodIn wsX0_solve wsX0_eliminate := goodIn_r _ [65, 66, 45, 67, 68, 69, 43, 70, 71, 72, 73, 74, 75, 76, 77] (by decide +kernel) (by decide +kernel)
set_option maxRecDepth 20000 in
theorem gX0_solve_X0_eliminate : GoodIn wsX0_solve (wsV RX0 58 RX0 yX0_eliminate wsX0_eliminate) := goodIn_app (goodIn_of _ (by decide +kernel)) ggX0_solve_X0_eliminate
theorem dX0_solve_0 : decode cX0_solve 0 = .ok (.aload_n 0, 1) := by decide +kernel
theorem dX0_solve_1 : decode cX0_solve 1 = .ok (.iload_n 2, 1) := by decide +kernel
theorem dX0_solve_2 : decode cX0_solve 2 = .ok (.putfield 33, 3) := by decide +kernel
theorem dX0_solve_5 : decode cX0_solve 5 = .ok (.aload_n 0, 1) := by decide +kernel
theorem dX0_solve_6 : decode cX0_solve 6 = .ok (.getfield 12, 3) := by decide +kernel
theorem dX0_solve_9 : decode cX0_solve 9 = .ok (.aload_n 1, 1) := by decide +kernel
theorem dX0_solve_10 : decode cX0_solve 10 = .ok (.iload_n 2, 1) := by decide +kernel
theorem dX0_solve_11 : decode cX0_solve 11 = .ok (.invokevirtual 41, 3) := by decide +kernel
theorem dX0_solve_14 : decode cX0_solve 14 = .ok (.pop, 1) := by decide +kernel
theorem dX0_solve_15 : decode cX0_solve 15 = .ok (.aload_n 0, 1) := by decide +kernel
theorem dX0_solve_16 : decode cX0_solve 16 = .ok (.getfield 18, 3) := by decide +kernel
theorem dX0_solve_19 : decode cX0_solve 19 = .ok (.aload_n 1, 1) := by decide +kernel
theorem dX0_solve_20 : decode cX0_solve 20 = .ok (.aload_n 1, 1) := by decide +kernel
theorem dX0_solve_21 : decode cX0_solve 21 = .ok (.invokevirtual 45, 3) := by decide +kernel
theorem dX0_solve_24 : decode cX0_solve 24 = .ok (.invokevirtual 41, 3) := by decide +kernel
theorem dX0_solve_27 : decode cX0_solve 27 = .ok (.pop, 1) := by decide +kernel
theorem dX0_solve_28 : decode cX0_solve 28 = .ok (.aload_n 0, 1) := by decide +kernel
theorem dX0_solve_29 : decode cX0_solve 29 = .ok (.aload_n 1, 1) := by decide +kernel
theorem dX0_solve_30 : decode cX0_solve 30 = .ok (.invokevirtual 51, 3) := by decide +kernel
theorem dX0_solve_33 : decode cX0_solve 33 = .ok (.aload_n 0, 1) := by decide +kernel
theorem dX0_solve_34 : decode cX0_solve 34 = .ok (.aload_n 1, 1) := by decide +kernel
theorem dX0_solve_35 : decode cX0_solve 35 = .ok (.getfield 55, 3) := by decide +kernel
theorem dX0_solve_38 : decode cX0_solve 38 = .ok (.invokevirtual 58, 3) := by decide +kernel
theorem dX0_solve_41 : decode cX0_solve 41 = .ok (.return_, 1) := by decide +kernel
/-! ===== FlowMeters$Fit.solve(LFlowMeters$Works;I)V ===== -/
def fX0_solve (N : Nat) (c_t_unread : Int32) (c_t_below : Int64) (c_t_heaps_least : Nat → Int32) (c_t_pieces_least : Nat → Int32) (c_t_rows : Nat → Nat → Int64) (c_t_surplus : Nat → Int64) (c_w_knots : Int32) (c_w_flows : Int32) (c_w_from : Nat → Int32) (c_w_to : Nat → Int32) (c_w_reading : Nat → Int32) (c_w_miss : Nat → Int32) (x2 : Int32) : Option (Int32 × Int64 × (Nat → Int32) × (Nat → Int32) × (Nat → Nat → Int64) × (Nat → Int64)) :=
  (fX1_gather N c_t_heaps_least c_w_flows c_w_from c_w_to x2).bind fun (v1, v2) =>
  (fX3_allSet c_w_flows).bind fun v4 =>
  (fX1_gather N c_t_pieces_least c_w_flows c_w_from c_w_to v4).bind fun (v6, v7) =>
  (fX0_fillSystem N x2 v2 v7 c_t_rows c_t_surplus c_w_knots c_w_flows c_w_from c_w_to c_w_reading c_w_miss).bind fun (v9, v10) =>
  (fX0_eliminate N c_t_below v9 c_w_knots).bind fun (v12, v13) =>
  some (x2, v12, v2, v7, v13, v10)
theorem fX0_solve_33 : yF wsX0_solve RX0 33 0 5 RX0 TX0 7 := ⟨rfl, by decide, by decide +kernel, by decide +kernel⟩
theorem fX0_solve_12 : yF wsX0_solve RX0 12 0 0 RX0 TX0 7 := ⟨rfl, by decide, by decide +kernel, by decide +kernel⟩
theorem fX0_solve_18 : yF wsX0_solve RX0 18 0 1 RX0 TX0 7 := ⟨rfl, by decide, by decide +kernel, by decide +kernel⟩
theorem fX0_solve_55 : yF wsX0_solve RX0 55 3 0 RX3 TX3 11 := ⟨rfl, by decide, by decide +kernel, by decide +kernel⟩
abbrev rmX0_solve : Room := { frames := 3, cells := 0, slots := 0, locals := 97 }
theorem eX0_solve : yY yX0_solve wsX0_solve cX0_solve 3 none rmX0_solve 2 := ⟨⟨_, rfl⟩, rfl, rfl, by decide, by decide, by decide +kernel⟩
set_option maxHeartbeats 4000000 in
set_option maxRecDepth 100000 in
theorem mX0_solve {l : Launch} {D : va_G} {sz : Nat} {cI cJ cZ cW cR : ClassId} {N : Nat} {h_t : Nat} {h_w : Nat} {A_t : Nat → Nat} {A_t_heaps : Nat → Nat} {A_t_pieces : Nat → Nat} {A_t_rows : Nat → Nat} {A_w : Nat → Nat} {c_t_unread : Int32} {c_t_below : Int64} {c_t_heaps_least : Nat → Int32} {c_t_pieces_least : Nat → Int32} {c_t_rows : Nat → Nat → Int64} {c_t_surplus : Nat → Int64} {c_w_knots : Int32} {c_w_flows : Int32} {c_w_readSet : Int32} {c_w_from : Nat → Int32} {c_w_to : Nat → Int32} {c_w_reading : Nat → Int32} {c_w_miss : Nat → Int32} {x2 : Int32} {zc_t_unread : Int32} {zc_t_below : Int64} {zc_t_heaps_least : Nat → Int32} {zc_t_pieces_least : Nat → Int32} {zc_t_rows : Nat → Nat → Int64} {zc_t_surplus : Nat → Int64} (hf : fX0_solve N c_t_unread c_t_below c_t_heaps_least c_t_pieces_least c_t_rows c_t_surplus c_w_knots c_w_flows c_w_from c_w_to c_w_reading c_w_miss x2 = some (zc_t_unread, zc_t_below, zc_t_heaps_least, zc_t_pieces_least, zc_t_rows, zc_t_surplus)) : Met l yX0_solve wsX0_solve rmX0_solve (yP D (yT cI cJ cZ cW cR) [(h_t, oF A_t c_t_unread c_t_below), (A_t 0, oG A_t_heaps), (A_t_heaps 0, eI cI 6 c_t_heaps_least), (A_t 1, oG A_t_pieces), (A_t_pieces 0, eI cI 6 c_t_pieces_least), (A_t 3, eQ cR 6 A_t_rows), (A_t_rows 0, eJ cJ 7 (c_t_rows 0)), (A_t_rows 1, eJ cJ 7 (c_t_rows 1)), (A_t_rows 2, eJ cJ 7 (c_t_rows 2)), (A_t_rows 3, eJ cJ 7 (c_t_rows 3)), (A_t_rows 4, eJ cJ 7 (c_t_rows 4)), (A_t_rows 5, eJ cJ 7 (c_t_rows 5)), (A_t 4, eJ cJ 6 c_t_surplus), (h_w, oW A_w c_w_knots c_w_flows c_w_readSet), (A_w 0, eI cI 10 c_w_from), (A_w 1, eI cI 10 c_w_to), (A_w 2, eI cI 10 c_w_reading), (A_w 3, eI cI 10 c_w_miss)] sz [.ref h_t, .ref h_w, .int x2]) (yQv D (yT cI cJ cZ cW cR) [(h_t, oF A_t zc_t_unread zc_t_below), (A_t 0, oG A_t_heaps), (A_t_heaps 0, eI cI 6 zc_t_heaps_least), (A_t 1, oG A_t_pieces), (A_t_pieces 0, eI cI 6 zc_t_pieces_least), (A_t 3, eQ cR 6 A_t_rows), (A_t_rows 0, eJ cJ 7 (zc_t_rows 0)), (A_t_rows 1, eJ cJ 7 (zc_t_rows 1)), (A_t_rows 2, eJ cJ 7 (zc_t_rows 2)), (A_t_rows 3, eJ cJ 7 (zc_t_rows 3)), (A_t_rows 4, eJ cJ 7 (zc_t_rows 4)), (A_t_rows 5, eJ cJ 7 (zc_t_rows 5)), (A_t 4, eJ cJ 6 zc_t_surplus), (h_w, oW A_w c_w_knots c_w_flows c_w_readSet), (A_w 0, eI cI 10 c_w_from), (A_w 1, eI cI 10 c_w_to), (A_w 2, eI cI 10 c_w_reading), (A_w 3, eI cI 10 c_w_miss)] (va_A [(h_t, oF A_t c_t_unread c_t_below), (A_t 0, oG A_t_heaps), (A_t_heaps 0, eI cI 6 c_t_heaps_least), (A_t 1, oG A_t_pieces), (A_t_pieces 0, eI cI 6 c_t_pieces_least), (A_t 3, eQ cR 6 A_t_rows), (A_t_rows 0, eJ cJ 7 (c_t_rows 0)), (A_t_rows 1, eJ cJ 7 (c_t_rows 1)), (A_t_rows 2, eJ cJ 7 (c_t_rows 2)), (A_t_rows 3, eJ cJ 7 (c_t_rows 3)), (A_t_rows 4, eJ cJ 7 (c_t_rows 4)), (A_t_rows 5, eJ cJ 7 (c_t_rows 5)), (A_t 4, eJ cJ 6 c_t_surplus), (h_w, oW A_w c_w_knots c_w_flows c_w_readSet), (A_w 0, eI cI 10 c_w_from), (A_w 1, eI cI 10 c_w_to), (A_w 2, eI cI 10 c_w_reading), (A_w 3, eI cI 10 c_w_miss)] sz)) 0 0 (va_A [(h_t, oF A_t c_t_unread c_t_below), (A_t 0, oG A_t_heaps), (A_t_heaps 0, eI cI 6 c_t_heaps_least), (A_t 1, oG A_t_pieces), (A_t_pieces 0, eI cI 6 c_t_pieces_least), (A_t 3, eQ cR 6 A_t_rows), (A_t_rows 0, eJ cJ 7 (c_t_rows 0)), (A_t_rows 1, eJ cJ 7 (c_t_rows 1)), (A_t_rows 2, eJ cJ 7 (c_t_rows 2)), (A_t_rows 3, eJ cJ 7 (c_t_rows 3)), (A_t_rows 4, eJ cJ 7 (c_t_rows 4)), (A_t_rows 5, eJ cJ 7 (c_t_rows 5)), (A_t 4, eJ cJ 6 c_t_surplus), (h_w, oW A_w c_w_knots c_w_flows c_w_readSet), (A_w 0, eI cI 10 c_w_from), (A_w 1, eI cI 10 c_w_to), (A_w 2, eI cI 10 c_w_reading), (A_w 3, eI cI 10 c_w_miss)] sz) := by
  refine yM (cc := cX0_solve) (maxL := 3) (ret := none) RX0 (by decide) rfl rfl (Nat.le_of_ble_eq_true rfl) ?_
  intro p e s m below meth c Γ hr
  show yG p l e (headSpec wsX0_solve rmX0_solve).room s m (List.toArray [.ref h_t, .ref h_w, .int x2]) below meth c D (va_A [(h_t, oF A_t c_t_unread c_t_below), (A_t 0, oG A_t_heaps), (A_t_heaps 0, eI cI 6 c_t_heaps_least), (A_t 1, oG A_t_pieces), (A_t_pieces 0, eI cI 6 c_t_pieces_least), (A_t 3, eQ cR 6 A_t_rows), (A_t_rows 0, eJ cJ 7 (c_t_rows 0)), (A_t_rows 1, eJ cJ 7 (c_t_rows 1)), (A_t_rows 2, eJ cJ 7 (c_t_rows 2)), (A_t_rows 3, eJ cJ 7 (c_t_rows 3)), (A_t_rows 4, eJ cJ 7 (c_t_rows 4)), (A_t_rows 5, eJ cJ 7 (c_t_rows 5)), (A_t 4, eJ cJ 6 c_t_surplus), (h_w, oW A_w c_w_knots c_w_flows c_w_readSet), (A_w 0, eI cI 10 c_w_from), (A_w 1, eI cI 10 c_w_to), (A_w 2, eI cI 10 c_w_reading), (A_w 3, eI cI 10 c_w_miss)] sz) 3 0 0 (MQ below (yQv D (yT cI cJ cZ cW cR) [(h_t, oF A_t zc_t_unread zc_t_below), (A_t 0, oG A_t_heaps), (A_t_heaps 0, eI cI 6 zc_t_heaps_least), (A_t 1, oG A_t_pieces), (A_t_pieces 0, eI cI 6 zc_t_pieces_least), (A_t 3, eQ cR 6 A_t_rows), (A_t_rows 0, eJ cJ 7 (zc_t_rows 0)), (A_t_rows 1, eJ cJ 7 (zc_t_rows 1)), (A_t_rows 2, eJ cJ 7 (zc_t_rows 2)), (A_t_rows 3, eJ cJ 7 (zc_t_rows 3)), (A_t_rows 4, eJ cJ 7 (zc_t_rows 4)), (A_t_rows 5, eJ cJ 7 (zc_t_rows 5)), (A_t 4, eJ cJ 6 zc_t_surplus), (h_w, oW A_w c_w_knots c_w_flows c_w_readSet), (A_w 0, eI cI 10 c_w_from), (A_w 1, eI cI 10 c_w_to), (A_w 2, eI cI 10 c_w_reading), (A_w 3, eI cI 10 c_w_miss)] (va_A [(h_t, oF A_t c_t_unread c_t_below), (A_t 0, oG A_t_heaps), (A_t_heaps 0, eI cI 6 c_t_heaps_least), (A_t 1, oG A_t_pieces), (A_t_pieces 0, eI cI 6 c_t_pieces_least), (A_t 3, eQ cR 6 A_t_rows), (A_t_rows 0, eJ cJ 7 (c_t_rows 0)), (A_t_rows 1, eJ cJ 7 (c_t_rows 1)), (A_t_rows 2, eJ cJ 7 (c_t_rows 2)), (A_t_rows 3, eJ cJ 7 (c_t_rows 3)), (A_t_rows 4, eJ cJ 7 (c_t_rows 4)), (A_t_rows 5, eJ cJ 7 (c_t_rows 5)), (A_t 4, eJ cJ 6 c_t_surplus), (h_w, oW A_w c_w_knots c_w_flows c_w_readSet), (A_w 0, eI cI 10 c_w_from), (A_w 1, eI cI 10 c_w_to), (A_w 2, eI cI 10 c_w_reading), (A_w 3, eI cI 10 c_w_miss)] sz)) (List.toArray [.ref h_t, .ref h_w, .int x2]) s 0 0 (va_A [(h_t, oF A_t c_t_unread c_t_below), (A_t 0, oG A_t_heaps), (A_t_heaps 0, eI cI 6 c_t_heaps_least), (A_t 1, oG A_t_pieces), (A_t_pieces 0, eI cI 6 c_t_pieces_least), (A_t 3, eQ cR 6 A_t_rows), (A_t_rows 0, eJ cJ 7 (c_t_rows 0)), (A_t_rows 1, eJ cJ 7 (c_t_rows 1)), (A_t_rows 2, eJ cJ 7 (c_t_rows 2)), (A_t_rows 3, eJ cJ 7 (c_t_rows 3)), (A_t_rows 4, eJ cJ 7 (c_t_rows 4)), (A_t_rows 5, eJ cJ 7 (c_t_rows 5)), (A_t 4, eJ cJ 6 c_t_surplus), (h_w, oW A_w c_w_knots c_w_flows c_w_readSet), (A_w 0, eI cI 10 c_w_from), (A_w 1, eI cI 10 c_w_to), (A_w 2, eI cI 10 c_w_reading), (A_w 3, eI cI 10 c_w_miss)] sz)) 0 [(0, .ref h_t), (1, .ref h_w), (2, .int x2)] [] [(h_t, oF A_t c_t_unread c_t_below), (A_t 0, oG A_t_heaps), (A_t_heaps 0, eI cI 6 c_t_heaps_least), (A_t 1, oG A_t_pieces), (A_t_pieces 0, eI cI 6 c_t_pieces_least), (A_t 3, eQ cR 6 A_t_rows), (A_t_rows 0, eJ cJ 7 (c_t_rows 0)), (A_t_rows 1, eJ cJ 7 (c_t_rows 1)), (A_t_rows 2, eJ cJ 7 (c_t_rows 2)), (A_t_rows 3, eJ cJ 7 (c_t_rows 3)), (A_t_rows 4, eJ cJ 7 (c_t_rows 4)), (A_t_rows 5, eJ cJ 7 (c_t_rows 5)), (A_t 4, eJ cJ 6 c_t_surplus), (h_w, oW A_w c_w_knots c_w_flows c_w_readSet), (A_w 0, eI cI 10 c_w_from), (A_w 1, eI cI 10 c_w_to), (A_w 2, eI cI 10 c_w_reading), (A_w 3, eI cI 10 c_w_miss)]
  unfold fX0_solve at hf
  refine g_aload_n Γ 0 dX0_solve_0 rfl ?_
  refine g_iload_n Γ 2 dX0_solve_1 rfl ?_
  refine g_put (ws' := [(h_t, oF A_t x2 c_t_below), (A_t 0, oG A_t_heaps), (A_t_heaps 0, eI cI 6 c_t_heaps_least), (A_t 1, oG A_t_pieces), (A_t_pieces 0, eI cI 6 c_t_pieces_least), (A_t 3, eQ cR 6 A_t_rows), (A_t_rows 0, eJ cJ 7 (c_t_rows 0)), (A_t_rows 1, eJ cJ 7 (c_t_rows 1)), (A_t_rows 2, eJ cJ 7 (c_t_rows 2)), (A_t_rows 3, eJ cJ 7 (c_t_rows 3)), (A_t_rows 4, eJ cJ 7 (c_t_rows 4)), (A_t_rows 5, eJ cJ 7 (c_t_rows 5)), (A_t 4, eJ cJ 6 c_t_surplus), (h_w, oW A_w c_w_knots c_w_flows c_w_readSet), (A_w 0, eI cI 10 c_w_from), (A_w 1, eI cI 10 c_w_to), (A_w 2, eI cI 10 c_w_reading), (A_w 3, eI cI 10 c_w_miss)]) Γ fX0_solve_33 tyX0_ok nmX0 0 rfl rfl rfl rfl (Nat.le_of_ble_eq_true rfl) dX0_solve_2 rfl ?_
  refine g_aload_n Γ 0 dX0_solve_5 rfl ?_
  refine g_get Γ fX0_solve_12 0 rfl rfl dX0_solve_6 ?_
  refine g_aload_n Γ 1 dX0_solve_9 rfl ?_
  refine g_iload_n Γ 2 dX0_solve_10 rfl ?_
  obtain ⟨⟨v1, v2⟩, e3, hf⟩ := ya_ob hf
  refine g_vi (q := (RX1, TX1, 1)) (wr := [(h_t, oF A_t x2 c_t_below), (A_t 1, oG A_t_pieces), (A_t_pieces 0, eI cI 6 c_t_pieces_least), (A_t 3, eQ cR 6 A_t_rows), (A_t_rows 0, eJ cJ 7 (c_t_rows 0)), (A_t_rows 1, eJ cJ 7 (c_t_rows 1)), (A_t_rows 2, eJ cJ 7 (c_t_rows 2)), (A_t_rows 3, eJ cJ 7 (c_t_rows 3)), (A_t_rows 4, eJ cJ 7 (c_t_rows 4)), (A_t_rows 5, eJ cJ 7 (c_t_rows 5)), (A_t 4, eJ cJ 6 c_t_surplus), (A_w 2, eI cI 10 c_w_reading), (A_w 3, eI cI 10 c_w_miss)]) (ws' := [(h_t, oF A_t x2 c_t_below), (A_t 1, oG A_t_pieces), (A_t_pieces 0, eI cI 6 c_t_pieces_least), (A_t 3, eQ cR 6 A_t_rows), (A_t_rows 0, eJ cJ 7 (c_t_rows 0)), (A_t_rows 1, eJ cJ 7 (c_t_rows 1)), (A_t_rows 2, eJ cJ 7 (c_t_rows 2)), (A_t_rows 3, eJ cJ 7 (c_t_rows 3)), (A_t_rows 4, eJ cJ 7 (c_t_rows 4)), (A_t_rows 5, eJ cJ 7 (c_t_rows 5)), (A_t 4, eJ cJ 6 c_t_surplus), (A_w 2, eI cI 10 c_w_reading), (A_w 3, eI cI 10 c_w_miss), (A_t 0, oG A_t_heaps), (A_t_heaps 0, eI cI 6 v2), (h_w, oW A_w c_w_knots c_w_flows c_w_readSet), (A_w 0, eI cI 10 c_w_from), (A_w 1, eI cI 10 c_w_to)]) Γ (fun sz => mX1_gather (l := l) (D := D) (sz := sz) (cI := cI) (cJ := cJ) (cZ := cZ) (cW := cW) (cR := cR) (h_t := A_t 0) (h_w := h_w) (A_t := A_t_heaps) (A_w := A_w) (hf := e3)) eX1_gather gX0_solve_X1_gather rfl rfl 0 rfl rfl rfl (Nat.le_of_ble_eq_true rfl) ⟨Nat.le_of_ble_eq_true rfl, Nat.le_of_ble_eq_true rfl⟩ dX0_solve_11 [1, 2, 13, 14, 15] [0, 3, 4, 5, 6, 7, 8, 9, 10, 11, 12, 16, 17] rfl rfl rfl rfl (by decide) rfl ?_
  refine g_pop Γ dX0_solve_14 rfl ?_
  refine g_aload_n Γ 0 dX0_solve_15 rfl ?_
  refine g_get Γ fX0_solve_18 0 rfl rfl dX0_solve_16 ?_
  refine g_aload_n Γ 1 dX0_solve_19 rfl ?_
  refine g_aload_n Γ 1 dX0_solve_20 rfl ?_
  obtain ⟨v4, e5, hf⟩ := ya_ob hf
  refine g_vi (q := (RX3, TX3, 11)) (wr := [(h_t, oF A_t x2 c_t_below), (A_t 1, oG A_t_pieces), (A_t_pieces 0, eI cI 6 c_t_pieces_least), (A_t 3, eQ cR 6 A_t_rows), (A_t_rows 0, eJ cJ 7 (c_t_rows 0)), (A_t_rows 1, eJ cJ 7 (c_t_rows 1)), (A_t_rows 2, eJ cJ 7 (c_t_rows 2)), (A_t_rows 3, eJ cJ 7 (c_t_rows 3)), (A_t_rows 4, eJ cJ 7 (c_t_rows 4)), (A_t_rows 5, eJ cJ 7 (c_t_rows 5)), (A_t 4, eJ cJ 6 c_t_surplus), (A_w 2, eI cI 10 c_w_reading), (A_w 3, eI cI 10 c_w_miss), (A_t 0, oG A_t_heaps), (A_t_heaps 0, eI cI 6 v2), (A_w 0, eI cI 10 c_w_from), (A_w 1, eI cI 10 c_w_to)]) (ws' := [(h_t, oF A_t x2 c_t_below), (A_t 1, oG A_t_pieces), (A_t_pieces 0, eI cI 6 c_t_pieces_least), (A_t 3, eQ cR 6 A_t_rows), (A_t_rows 0, eJ cJ 7 (c_t_rows 0)), (A_t_rows 1, eJ cJ 7 (c_t_rows 1)), (A_t_rows 2, eJ cJ 7 (c_t_rows 2)), (A_t_rows 3, eJ cJ 7 (c_t_rows 3)), (A_t_rows 4, eJ cJ 7 (c_t_rows 4)), (A_t_rows 5, eJ cJ 7 (c_t_rows 5)), (A_t 4, eJ cJ 6 c_t_surplus), (A_w 2, eI cI 10 c_w_reading), (A_w 3, eI cI 10 c_w_miss), (A_t 0, oG A_t_heaps), (A_t_heaps 0, eI cI 6 v2), (A_w 0, eI cI 10 c_w_from), (A_w 1, eI cI 10 c_w_to), (h_w, oW A_w c_w_knots c_w_flows c_w_readSet)]) Γ (fun sz => mX3_allSet (l := l) (D := D) (sz := sz) (cI := cI) (cJ := cJ) (cZ := cZ) (cW := cW) (cR := cR) (h_t := h_w) (A_t := A_w) (hf := e5)) eX3_allSet gX0_solve_X3_allSet rfl rfl 0 rfl rfl rfl (Nat.le_of_ble_eq_true rfl) ⟨Nat.le_of_ble_eq_true rfl, Nat.le_of_ble_eq_true rfl⟩ dX0_solve_21 [15] [0, 1, 2, 3, 4, 5, 6, 7, 8, 9, 10, 11, 12, 13, 14, 16, 17] rfl rfl rfl rfl (by decide) rfl ?_
  obtain ⟨⟨v6, v7⟩, e8, hf⟩ := ya_ob hf
  refine g_vi (q := (RX1, TX1, 1)) (wr := [(h_t, oF A_t x2 c_t_below), (A_t 3, eQ cR 6 A_t_rows), (A_t_rows 0, eJ cJ 7 (c_t_rows 0)), (A_t_rows 1, eJ cJ 7 (c_t_rows 1)), (A_t_rows 2, eJ cJ 7 (c_t_rows 2)), (A_t_rows 3, eJ cJ 7 (c_t_rows 3)), (A_t_rows 4, eJ cJ 7 (c_t_rows 4)), (A_t_rows 5, eJ cJ 7 (c_t_rows 5)), (A_t 4, eJ cJ 6 c_t_surplus), (A_w 2, eI cI 10 c_w_reading), (A_w 3, eI cI 10 c_w_miss), (A_t 0, oG A_t_heaps), (A_t_heaps 0, eI cI 6 v2)]) (ws' := [(h_t, oF A_t x2 c_t_below), (A_t 3, eQ cR 6 A_t_rows), (A_t_rows 0, eJ cJ 7 (c_t_rows 0)), (A_t_rows 1, eJ cJ 7 (c_t_rows 1)), (A_t_rows 2, eJ cJ 7 (c_t_rows 2)), (A_t_rows 3, eJ cJ 7 (c_t_rows 3)), (A_t_rows 4, eJ cJ 7 (c_t_rows 4)), (A_t_rows 5, eJ cJ 7 (c_t_rows 5)), (A_t 4, eJ cJ 6 c_t_surplus), (A_w 2, eI cI 10 c_w_reading), (A_w 3, eI cI 10 c_w_miss), (A_t 0, oG A_t_heaps), (A_t_heaps 0, eI cI 6 v2), (A_t 1, oG A_t_pieces), (A_t_pieces 0, eI cI 6 v7), (h_w, oW A_w c_w_knots c_w_flows c_w_readSet), (A_w 0, eI cI 10 c_w_from), (A_w 1, eI cI 10 c_w_to)]) Γ (fun sz => mX1_gather (l := l) (D := D) (sz := sz) (cI := cI) (cJ := cJ) (cZ := cZ) (cW := cW) (cR := cR) (h_t := A_t 1) (h_w := h_w) (A_t := A_t_pieces) (A_w := A_w) (hf := e8)) eX1_gather gX0_solve_X1_gather rfl rfl 0 rfl rfl rfl (Nat.le_of_ble_eq_true rfl) ⟨Nat.le_of_ble_eq_true rfl, Nat.le_of_ble_eq_true rfl⟩ dX0_solve_24 [1, 2, 17, 15, 16] [0, 3, 4, 5, 6, 7, 8, 9, 10, 11, 12, 13, 14] rfl rfl rfl rfl (by decide) rfl ?_
  refine g_pop Γ dX0_solve_27 rfl ?_
  refine g_aload_n Γ 0 dX0_solve_28 rfl ?_
  refine g_aload_n Γ 1 dX0_solve_29 rfl ?_
  obtain ⟨⟨v9, v10⟩, e11, hf⟩ := ya_ob hf
  refine g_vv (q := (RX0, TX0, 7)) (wr := []) (ws' := [(h_t, oF A_t x2 c_t_below), (A_t 0, oG A_t_heaps), (A_t_heaps 0, eI cI 6 v2), (A_t 1, oG A_t_pieces), (A_t_pieces 0, eI cI 6 v7), (A_t 3, eQ cR 6 A_t_rows), (A_t_rows 0, eJ cJ 7 (v9 0)), (A_t_rows 1, eJ cJ 7 (v9 1)), (A_t_rows 2, eJ cJ 7 (v9 2)), (A_t_rows 3, eJ cJ 7 (v9 3)), (A_t_rows 4, eJ cJ 7 (v9 4)), (A_t_rows 5, eJ cJ 7 (v9 5)), (A_t 4, eJ cJ 6 v10), (h_w, oW A_w c_w_knots c_w_flows c_w_readSet), (A_w 0, eI cI 10 c_w_from), (A_w 1, eI cI 10 c_w_to), (A_w 2, eI cI 10 c_w_reading), (A_w 3, eI cI 10 c_w_miss)]) Γ (fun sz => mX0_fillSystem (l := l) (D := D) (sz := sz) (cI := cI) (cJ := cJ) (cZ := cZ) (cW := cW) (cR := cR) (h_t := h_t) (h_w := h_w) (A_t := A_t) (A_t_heaps := A_t_heaps) (A_t_pieces := A_t_pieces) (A_t_rows := A_t_rows) (A_w := A_w) (hf := e11)) eX0_fillSystem gX0_solve_X0_fillSystem rfl rfl 0 rfl rfl rfl (Nat.le_of_ble_eq_true rfl) ⟨Nat.le_of_ble_eq_true rfl, Nat.le_of_ble_eq_true rfl⟩ dX0_solve_30 [0, 11, 12, 13, 14, 1, 2, 3, 4, 5, 6, 7, 8, 15, 16, 17, 9, 10] [] rfl rfl rfl rfl (by decide) rfl ?_
  refine g_aload_n Γ 0 dX0_solve_33 rfl ?_
  refine g_aload_n Γ 1 dX0_solve_34 rfl ?_
  refine g_get Γ fX0_solve_55 13 rfl rfl dX0_solve_35 ?_
  obtain ⟨⟨v12, v13⟩, e14, hf⟩ := ya_ob hf
  refine g_vv (q := (RX0, TX0, 7)) (wr := [(A_t 0, oG A_t_heaps), (A_t_heaps 0, eI cI 6 v2), (A_t 1, oG A_t_pieces), (A_t_pieces 0, eI cI 6 v7), (A_t 4, eJ cJ 6 v10), (h_w, oW A_w c_w_knots c_w_flows c_w_readSet), (A_w 0, eI cI 10 c_w_from), (A_w 1, eI cI 10 c_w_to), (A_w 2, eI cI 10 c_w_reading), (A_w 3, eI cI 10 c_w_miss)]) (ws' := [(A_t 0, oG A_t_heaps), (A_t_heaps 0, eI cI 6 v2), (A_t 1, oG A_t_pieces), (A_t_pieces 0, eI cI 6 v7), (A_t 4, eJ cJ 6 v10), (h_w, oW A_w c_w_knots c_w_flows c_w_readSet), (A_w 0, eI cI 10 c_w_from), (A_w 1, eI cI 10 c_w_to), (A_w 2, eI cI 10 c_w_reading), (A_w 3, eI cI 10 c_w_miss), (h_t, oF A_t x2 v12), (A_t 3, eQ cR 6 A_t_rows), (A_t_rows 0, eJ cJ 7 (v13 0)), (A_t_rows 1, eJ cJ 7 (v13 1)), (A_t_rows 2, eJ cJ 7 (v13 2)), (A_t_rows 3, eJ cJ 7 (v13 3)), (A_t_rows 4, eJ cJ 7 (v13 4)), (A_t_rows 5, eJ cJ 7 (v13 5))]) Γ (fun sz => mX0_eliminate (l := l) (D := D) (sz := sz) (cI := cI) (cJ := cJ) (cZ := cZ) (cW := cW) (cR := cR) (h_t := h_t) (A_t := A_t) (A_t_rows := A_t_rows) (hf := e14)) eX0_eliminate gX0_solve_X0_eliminate rfl rfl 0 rfl rfl rfl (Nat.le_of_ble_eq_true rfl) ⟨Nat.le_of_ble_eq_true rfl, Nat.le_of_ble_eq_true rfl⟩ dX0_solve_38 [0, 5, 6, 7, 8, 9, 10, 11] [1, 2, 3, 4, 12, 13, 14, 15, 16, 17] rfl rfl rfl rfl (by decide) rfl ?_
  cases hf
  exact g_vret Γ hr dX0_solve_41 [10, 0, 1, 2, 3, 11, 12, 13, 14, 15, 16, 17, 4, 5, 6, 7, 8, 9] rfl rfl

theorem dX0_forceAbove_0 : decode cX0_forceAbove 0 = .ok (.aload_n 0, 1) := by decide +kernel
theorem dX0_forceAbove_1 : decode cX0_forceAbove 1 = .ok (.getfield 26, 3) := by decide +kernel
theorem dX0_forceAbove_4 : decode cX0_forceAbove 4 = .ok (.aload_n 0, 1) := by decide +kernel
theorem dX0_forceAbove_5 : decode cX0_forceAbove 5 = .ok (.getfield 12, 3) := by decide +kernel
theorem dX0_forceAbove_8 : decode cX0_forceAbove 8 = .ok (.getfield 62, 3) := by decide +kernel
theorem dX0_forceAbove_11 : decode cX0_forceAbove 11 = .ok (.iload_n 1, 1) := by decide +kernel
theorem dX0_forceAbove_12 : decode cX0_forceAbove 12 = .ok (.iaload, 1) := by decide +kernel
theorem dX0_forceAbove_13 : decode cX0_forceAbove 13 = .ok (.aaload, 1) := by decide +kernel
theorem dX0_forceAbove_14 : decode cX0_forceAbove 14 = .ok (.bipush 6, 2) := by decide +kernel
theorem dX0_forceAbove_16 : decode cX0_forceAbove 16 = .ok (.laload, 1) := by decide +kernel
theorem dX0_forceAbove_17 : decode cX0_forceAbove 17 = .ok (.lreturn, 1) := by decide +kernel
/-! ===== FlowMeters$Fit.forceAbove(I)J ===== -/
def fX0_forceAbove (c_t_heaps_least : Nat → Int32) (c_t_rows : Nat → Nat → Int64) (x1 : Int32) : Option (Int64) :=
  (ya_rd c_t_heaps_least 6 x1).bind fun v1 =>
  (ya_ix 6 v1).bind fun v3 =>
  (ya_rd (c_t_rows v3) 7 6).bind fun v6 =>
  some v6
theorem fX0_forceAbove_26 : yF wsX0_forceAbove RX0 26 0 3 RX0 TX0 7 := ⟨rfl, by decide, by decide +kernel, by decide +kernel⟩
theorem fX0_forceAbove_12 : yF wsX0_forceAbove RX0 12 0 0 RX0 TX0 7 := ⟨rfl, by decide, by decide +kernel, by decide +kernel⟩
theorem fX0_forceAbove_62 : yF wsX0_forceAbove RX0 62 1 0 RX1 TX1 1 := ⟨rfl, by decide, by decide +kernel, by decide +kernel⟩
abbrev rmX0_forceAbove : Room := { frames := 0, cells := 0, slots := 0, locals := 0 }
theorem eX0_forceAbove : yY yX0_forceAbove wsX0_forceAbove cX0_forceAbove 2 (some .long) rmX0_forceAbove 1 := ⟨⟨_, rfl⟩, rfl, rfl, by decide, by decide, by decide +kernel⟩
set_option maxHeartbeats 4000000 in
set_option maxRecDepth 100000 in
theorem mX0_forceAbove {l : Launch} {D : va_G} {sz : Nat} {cI cJ cZ cW cR : ClassId} {h_t : Nat} {A_t : Nat → Nat} {A_t_heaps : Nat → Nat} {A_t_rows : Nat → Nat} {c_t_unread : Int32} {c_t_below : Int64} {c_t_heaps_least : Nat → Int32} {c_t_rows : Nat → Nat → Int64} {x1 : Int32} {r : Int64} (hf : fX0_forceAbove c_t_heaps_least c_t_rows x1 = some r) : Met l yX0_forceAbove wsX0_forceAbove rmX0_forceAbove (yP D (yT cI cJ cZ cW cR) [(h_t, oF A_t c_t_unread c_t_below), (A_t 0, oG A_t_heaps), (A_t_heaps 0, eI cI 6 c_t_heaps_least), (A_t 3, eQ cR 6 A_t_rows), (A_t_rows 0, eJ cJ 7 (c_t_rows 0)), (A_t_rows 1, eJ cJ 7 (c_t_rows 1)), (A_t_rows 2, eJ cJ 7 (c_t_rows 2)), (A_t_rows 3, eJ cJ 7 (c_t_rows 3)), (A_t_rows 4, eJ cJ 7 (c_t_rows 4)), (A_t_rows 5, eJ cJ 7 (c_t_rows 5))] sz [.ref h_t, .int x1]) (yQl D (yT cI cJ cZ cW cR) r [(h_t, oF A_t c_t_unread c_t_below), (A_t 0, oG A_t_heaps), (A_t_heaps 0, eI cI 6 c_t_heaps_least), (A_t 3, eQ cR 6 A_t_rows), (A_t_rows 0, eJ cJ 7 (c_t_rows 0)), (A_t_rows 1, eJ cJ 7 (c_t_rows 1)), (A_t_rows 2, eJ cJ 7 (c_t_rows 2)), (A_t_rows 3, eJ cJ 7 (c_t_rows 3)), (A_t_rows 4, eJ cJ 7 (c_t_rows 4)), (A_t_rows 5, eJ cJ 7 (c_t_rows 5))] (va_A [(h_t, oF A_t c_t_unread c_t_below), (A_t 0, oG A_t_heaps), (A_t_heaps 0, eI cI 6 c_t_heaps_least), (A_t 3, eQ cR 6 A_t_rows), (A_t_rows 0, eJ cJ 7 (c_t_rows 0)), (A_t_rows 1, eJ cJ 7 (c_t_rows 1)), (A_t_rows 2, eJ cJ 7 (c_t_rows 2)), (A_t_rows 3, eJ cJ 7 (c_t_rows 3)), (A_t_rows 4, eJ cJ 7 (c_t_rows 4)), (A_t_rows 5, eJ cJ 7 (c_t_rows 5))] sz)) 0 0 (va_A [(h_t, oF A_t c_t_unread c_t_below), (A_t 0, oG A_t_heaps), (A_t_heaps 0, eI cI 6 c_t_heaps_least), (A_t 3, eQ cR 6 A_t_rows), (A_t_rows 0, eJ cJ 7 (c_t_rows 0)), (A_t_rows 1, eJ cJ 7 (c_t_rows 1)), (A_t_rows 2, eJ cJ 7 (c_t_rows 2)), (A_t_rows 3, eJ cJ 7 (c_t_rows 3)), (A_t_rows 4, eJ cJ 7 (c_t_rows 4)), (A_t_rows 5, eJ cJ 7 (c_t_rows 5))] sz) := by
  refine yM (cc := cX0_forceAbove) (maxL := 2) (ret := (some .long)) RX0 (by decide) rfl rfl (Nat.le_of_ble_eq_true rfl) ?_
  intro p e s m below meth c Γ hr
  show yG p l e (headSpec wsX0_forceAbove rmX0_forceAbove).room s m (List.toArray [.ref h_t, .int x1]) below meth c D (va_A [(h_t, oF A_t c_t_unread c_t_below), (A_t 0, oG A_t_heaps), (A_t_heaps 0, eI cI 6 c_t_heaps_least), (A_t 3, eQ cR 6 A_t_rows), (A_t_rows 0, eJ cJ 7 (c_t_rows 0)), (A_t_rows 1, eJ cJ 7 (c_t_rows 1)), (A_t_rows 2, eJ cJ 7 (c_t_rows 2)), (A_t_rows 3, eJ cJ 7 (c_t_rows 3)), (A_t_rows 4, eJ cJ 7 (c_t_rows 4)), (A_t_rows 5, eJ cJ 7 (c_t_rows 5))] sz) 2 0 0 (MQ below (yQl D (yT cI cJ cZ cW cR) r [(h_t, oF A_t c_t_unread c_t_below), (A_t 0, oG A_t_heaps), (A_t_heaps 0, eI cI 6 c_t_heaps_least), (A_t 3, eQ cR 6 A_t_rows), (A_t_rows 0, eJ cJ 7 (c_t_rows 0)), (A_t_rows 1, eJ cJ 7 (c_t_rows 1)), (A_t_rows 2, eJ cJ 7 (c_t_rows 2)), (A_t_rows 3, eJ cJ 7 (c_t_rows 3)), (A_t_rows 4, eJ cJ 7 (c_t_rows 4)), (A_t_rows 5, eJ cJ 7 (c_t_rows 5))] (va_A [(h_t, oF A_t c_t_unread c_t_below), (A_t 0, oG A_t_heaps), (A_t_heaps 0, eI cI 6 c_t_heaps_least), (A_t 3, eQ cR 6 A_t_rows), (A_t_rows 0, eJ cJ 7 (c_t_rows 0)), (A_t_rows 1, eJ cJ 7 (c_t_rows 1)), (A_t_rows 2, eJ cJ 7 (c_t_rows 2)), (A_t_rows 3, eJ cJ 7 (c_t_rows 3)), (A_t_rows 4, eJ cJ 7 (c_t_rows 4)), (A_t_rows 5, eJ cJ 7 (c_t_rows 5))] sz)) (List.toArray [.ref h_t, .int x1]) s 0 0 (va_A [(h_t, oF A_t c_t_unread c_t_below), (A_t 0, oG A_t_heaps), (A_t_heaps 0, eI cI 6 c_t_heaps_least), (A_t 3, eQ cR 6 A_t_rows), (A_t_rows 0, eJ cJ 7 (c_t_rows 0)), (A_t_rows 1, eJ cJ 7 (c_t_rows 1)), (A_t_rows 2, eJ cJ 7 (c_t_rows 2)), (A_t_rows 3, eJ cJ 7 (c_t_rows 3)), (A_t_rows 4, eJ cJ 7 (c_t_rows 4)), (A_t_rows 5, eJ cJ 7 (c_t_rows 5))] sz)) 0 [(0, .ref h_t), (1, .int x1)] [] [(h_t, oF A_t c_t_unread c_t_below), (A_t 0, oG A_t_heaps), (A_t_heaps 0, eI cI 6 c_t_heaps_least), (A_t 3, eQ cR 6 A_t_rows), (A_t_rows 0, eJ cJ 7 (c_t_rows 0)), (A_t_rows 1, eJ cJ 7 (c_t_rows 1)), (A_t_rows 2, eJ cJ 7 (c_t_rows 2)), (A_t_rows 3, eJ cJ 7 (c_t_rows 3)), (A_t_rows 4, eJ cJ 7 (c_t_rows 4)), (A_t_rows 5, eJ cJ 7 (c_t_rows 5))]
  unfold fX0_forceAbove at hf
  refine g_aload_n Γ 0 dX0_forceAbove_0 rfl ?_
  refine g_get Γ fX0_forceAbove_26 0 rfl rfl dX0_forceAbove_1 ?_
  refine g_aload_n Γ 0 dX0_forceAbove_4 rfl ?_
  refine g_get Γ fX0_forceAbove_12 0 rfl rfl dX0_forceAbove_5 ?_
  refine g_get Γ fX0_forceAbove_62 1 rfl rfl dX0_forceAbove_8 ?_
  refine g_iload_n Γ 1 dX0_forceAbove_11 rfl ?_
  obtain ⟨v1, e2, hf⟩ := ya_ob hf
  refine g_iald Γ e2 2 0 rfl rfl dX0_forceAbove_12 ?_
  obtain ⟨v3, e4, hf⟩ := ya_ob hf
  have h5 := ya_ix_lt e4
  refine g_aldR Γ e4 3 4 rfl rfl dX0_forceAbove_13 ?_
  refine g_bipush (v := 6) Γ dX0_forceAbove_14 (by decide) ?_
  obtain ⟨v6, e7, hf⟩ := ya_ob hf
  refine g_laldR (M := c_t_rows) Γ e7 h5 4 1 (ya_six rfl rfl rfl rfl rfl rfl) rfl dX0_forceAbove_16 ?_
  cases hf
  exact g_lret Γ hr dX0_forceAbove_17 [0, 1, 2, 3, 4, 5, 6, 7, 8, 9] rfl rfl

set_option maxRecDepth 20000 in
theorem ggX0_changeAbove_X0_forceAbove : GoodIn wsX0_changeAbove wsX0_forceAbove := goodIn_r _ [8, 9, 10, 11, 23, 24, 25, 26, 27, 28, 29, 30] (by decide +kernel) (by decide +kernel)
set_option maxRecDepth 20000 in
theorem gX0_changeAbove_X0_forceAbove : GoodIn wsX0_changeAbove (wsV RX0 100 RX0 yX0_forceAbove wsX0_forceAbove) := goodIn_app (goodIn_of _ (by decide +kernel)) ggX0_changeAbove_X0_forceAbove
theorem dX0_changeAbove_0 : decode cX0_changeAbove 0 = .ok (.aload_n 1, 1) := by decide +kernel
theorem dX0_changeAbove_1 : decode cX0_changeAbove 1 = .ok (.getfield 86, 3) := by decide +kernel
theorem dX0_changeAbove_4 : decode cX0_changeAbove 4 = .ok (.iload_n 2, 1) := by decide +kernel
theorem dX0_changeAbove_5 : decode cX0_changeAbove 5 = .ok (.iaload, 1) := by decide +kernel
theorem dX0_changeAbove_6 : decode cX0_changeAbove 6 = .ok (.i2l, 1) := by decide +kernel
theorem dX0_changeAbove_7 : decode cX0_changeAbove 7 = .ok (.aload_n 0, 1) := by decide +kernel
theorem dX0_changeAbove_8 : decode cX0_changeAbove 8 = .ok (.aload_n 1, 1) := by decide +kernel
theorem dX0_changeAbove_9 : decode cX0_changeAbove 9 = .ok (.getfield 83, 3) := by decide +kernel
theorem dX0_changeAbove_12 : decode cX0_changeAbove 12 = .ok (.iload_n 2, 1) := by decide +kernel
theorem dX0_changeAbove_13 : decode cX0_changeAbove 13 = .ok (.iaload, 1) := by decide +kernel
theorem dX0_changeAbove_14 : decode cX0_changeAbove 14 = .ok (.invokevirtual 100, 3) := by decide +kernel
theorem dX0_changeAbove_17 : decode cX0_changeAbove 17 = .ok (.aload_n 0, 1) := by decide +kernel
theorem dX0_changeAbove_18 : decode cX0_changeAbove 18 = .ok (.aload_n 1, 1) := by decide +kernel
theorem dX0_changeAbove_19 : decode cX0_changeAbove 19 = .ok (.getfield 80, 3) := by decide +kernel
theorem dX0_changeAbove_22 : decode cX0_changeAbove 22 = .ok (.iload_n 2, 1) := by decide +kernel
theorem dX0_changeAbove_23 : decode cX0_changeAbove 23 = .ok (.iaload, 1) := by decide +kernel
theorem dX0_changeAbove_24 : decode cX0_changeAbove 24 = .ok (.invokevirtual 100, 3) := by decide +kernel
theorem dX0_changeAbove_27 : decode cX0_changeAbove 27 = .ok (.lsub, 1) := by decide +kernel
theorem dX0_changeAbove_28 : decode cX0_changeAbove 28 = .ok (.lmul, 1) := by decide +kernel
theorem dX0_changeAbove_29 : decode cX0_changeAbove 29 = .ok (.lreturn, 1) := by decide +kernel
/-! ===== FlowMeters$Fit.changeAbove(LFlowMeters$Works;I)J ===== -/
def fX0_changeAbove (c_t_heaps_least : Nat → Int32) (c_t_rows : Nat → Nat → Int64) (c_w_from : Nat → Int32) (c_w_to : Nat → Int32) (c_w_miss : Nat → Int32) (x2 : Int32) : Option (Int64) :=
  (ya_rd c_w_miss 10 x2).bind fun v1 =>
  (ya_rd c_w_to 10 x2).bind fun v3 =>
  (fX0_forceAbove c_t_heaps_least c_t_rows v3).bind fun v5 =>
  (ya_rd c_w_from 10 x2).bind fun v7 =>
  (fX0_forceAbove c_t_heaps_least c_t_rows v7).bind fun v9 =>
  some ((Int32.toInt64 v1) * (v5 - v9))
theorem fX0_changeAbove_86 : yF wsX0_changeAbove RX0 86 3 6 RX3 TX3 11 := ⟨rfl, by decide, by decide +kernel, by decide +kernel⟩
theorem fX0_changeAbove_83 : yF wsX0_changeAbove RX0 83 3 4 RX3 TX3 11 := ⟨rfl, by decide, by decide +kernel, by decide +kernel⟩
theorem fX0_changeAbove_80 : yF wsX0_changeAbove RX0 80 3 3 RX3 TX3 11 := ⟨rfl, by decide, by decide +kernel, by decide +kernel⟩
abbrev rmX0_changeAbove : Room := { frames := 1, cells := 0, slots := 0, locals := 21 }
theorem eX0_changeAbove : yY yX0_changeAbove wsX0_changeAbove cX0_changeAbove 3 (some .long) rmX0_changeAbove 2 := ⟨⟨_, rfl⟩, rfl, rfl, by decide, by decide, by decide +kernel⟩
set_option maxHeartbeats 4000000 in
set_option maxRecDepth 100000 in
theorem mX0_changeAbove {l : Launch} {D : va_G} {sz : Nat} {cI cJ cZ cW cR : ClassId} {h_t : Nat} {h_w : Nat} {A_t : Nat → Nat} {A_t_heaps : Nat → Nat} {A_t_rows : Nat → Nat} {A_w : Nat → Nat} {c_t_unread : Int32} {c_t_below : Int64} {c_t_heaps_least : Nat → Int32} {c_t_rows : Nat → Nat → Int64} {c_w_knots : Int32} {c_w_flows : Int32} {c_w_readSet : Int32} {c_w_from : Nat → Int32} {c_w_to : Nat → Int32} {c_w_miss : Nat → Int32} {x2 : Int32} {r : Int64} (hf : fX0_changeAbove c_t_heaps_least c_t_rows c_w_from c_w_to c_w_miss x2 = some r) : Met l yX0_changeAbove wsX0_changeAbove rmX0_changeAbove (yP D (yT cI cJ cZ cW cR) [(h_t, oF A_t c_t_unread c_t_below), (A_t 0, oG A_t_heaps), (A_t_heaps 0, eI cI 6 c_t_heaps_least), (A_t 3, eQ cR 6 A_t_rows), (A_t_rows 0, eJ cJ 7 (c_t_rows 0)), (A_t_rows 1, eJ cJ 7 (c_t_rows 1)), (A_t_rows 2, eJ cJ 7 (c_t_rows 2)), (A_t_rows 3, eJ cJ 7 (c_t_rows 3)), (A_t_rows 4, eJ cJ 7 (c_t_rows 4)), (A_t_rows 5, eJ cJ 7 (c_t_rows 5)), (h_w, oW A_w c_w_knots c_w_flows c_w_readSet), (A_w 0, eI cI 10 c_w_from), (A_w 1, eI cI 10 c_w_to), (A_w 3, eI cI 10 c_w_miss)] sz [.ref h_t, .ref h_w, .int x2]) (yQl D (yT cI cJ cZ cW cR) r [(h_t, oF A_t c_t_unread c_t_below), (A_t 0, oG A_t_heaps), (A_t_heaps 0, eI cI 6 c_t_heaps_least), (A_t 3, eQ cR 6 A_t_rows), (A_t_rows 0, eJ cJ 7 (c_t_rows 0)), (A_t_rows 1, eJ cJ 7 (c_t_rows 1)), (A_t_rows 2, eJ cJ 7 (c_t_rows 2)), (A_t_rows 3, eJ cJ 7 (c_t_rows 3)), (A_t_rows 4, eJ cJ 7 (c_t_rows 4)), (A_t_rows 5, eJ cJ 7 (c_t_rows 5)), (h_w, oW A_w c_w_knots c_w_flows c_w_readSet), (A_w 0, eI cI 10 c_w_from), (A_w 1, eI cI 10 c_w_to), (A_w 3, eI cI 10 c_w_miss)] (va_A [(h_t, oF A_t c_t_unread c_t_below), (A_t 0, oG A_t_heaps), (A_t_heaps 0, eI cI 6 c_t_heaps_least), (A_t 3, eQ cR 6 A_t_rows), (A_t_rows 0, eJ cJ 7 (c_t_rows 0)), (A_t_rows 1, eJ cJ 7 (c_t_rows 1)), (A_t_rows 2, eJ cJ 7 (c_t_rows 2)), (A_t_rows 3, eJ cJ 7 (c_t_rows 3)), (A_t_rows 4, eJ cJ 7 (c_t_rows 4)), (A_t_rows 5, eJ cJ 7 (c_t_rows 5)), (h_w, oW A_w c_w_knots c_w_flows c_w_readSet), (A_w 0, eI cI 10 c_w_from), (A_w 1, eI cI 10 c_w_to), (A_w 3, eI cI 10 c_w_miss)] sz)) 0 0 (va_A [(h_t, oF A_t c_t_unread c_t_below), (A_t 0, oG A_t_heaps), (A_t_heaps 0, eI cI 6 c_t_heaps_least), (A_t 3, eQ cR 6 A_t_rows), (A_t_rows 0, eJ cJ 7 (c_t_rows 0)), (A_t_rows 1, eJ cJ 7 (c_t_rows 1)), (A_t_rows 2, eJ cJ 7 (c_t_rows 2)), (A_t_rows 3, eJ cJ 7 (c_t_rows 3)), (A_t_rows 4, eJ cJ 7 (c_t_rows 4)), (A_t_rows 5, eJ cJ 7 (c_t_rows 5)), (h_w, oW A_w c_w_knots c_w_flows c_w_readSet), (A_w 0, eI cI 10 c_w_from), (A_w 1, eI cI 10 c_w_to), (A_w 3, eI cI 10 c_w_miss)] sz) := by
  refine yM (cc := cX0_changeAbove) (maxL := 3) (ret := (some .long)) RX0 (by decide) rfl rfl (Nat.le_of_ble_eq_true rfl) ?_
  intro p e s m below meth c Γ hr
  show yG p l e (headSpec wsX0_changeAbove rmX0_changeAbove).room s m (List.toArray [.ref h_t, .ref h_w, .int x2]) below meth c D (va_A [(h_t, oF A_t c_t_unread c_t_below), (A_t 0, oG A_t_heaps), (A_t_heaps 0, eI cI 6 c_t_heaps_least), (A_t 3, eQ cR 6 A_t_rows), (A_t_rows 0, eJ cJ 7 (c_t_rows 0)), (A_t_rows 1, eJ cJ 7 (c_t_rows 1)), (A_t_rows 2, eJ cJ 7 (c_t_rows 2)), (A_t_rows 3, eJ cJ 7 (c_t_rows 3)), (A_t_rows 4, eJ cJ 7 (c_t_rows 4)), (A_t_rows 5, eJ cJ 7 (c_t_rows 5)), (h_w, oW A_w c_w_knots c_w_flows c_w_readSet), (A_w 0, eI cI 10 c_w_from), (A_w 1, eI cI 10 c_w_to), (A_w 3, eI cI 10 c_w_miss)] sz) 3 0 0 (MQ below (yQl D (yT cI cJ cZ cW cR) r [(h_t, oF A_t c_t_unread c_t_below), (A_t 0, oG A_t_heaps), (A_t_heaps 0, eI cI 6 c_t_heaps_least), (A_t 3, eQ cR 6 A_t_rows), (A_t_rows 0, eJ cJ 7 (c_t_rows 0)), (A_t_rows 1, eJ cJ 7 (c_t_rows 1)), (A_t_rows 2, eJ cJ 7 (c_t_rows 2)), (A_t_rows 3, eJ cJ 7 (c_t_rows 3)), (A_t_rows 4, eJ cJ 7 (c_t_rows 4)), (A_t_rows 5, eJ cJ 7 (c_t_rows 5)), (h_w, oW A_w c_w_knots c_w_flows c_w_readSet), (A_w 0, eI cI 10 c_w_from), (A_w 1, eI cI 10 c_w_to), (A_w 3, eI cI 10 c_w_miss)] (va_A [(h_t, oF A_t c_t_unread c_t_below), (A_t 0, oG A_t_heaps), (A_t_heaps 0, eI cI 6 c_t_heaps_least), (A_t 3, eQ cR 6 A_t_rows), (A_t_rows 0, eJ cJ 7 (c_t_rows 0)), (A_t_rows 1, eJ cJ 7 (c_t_rows 1)), (A_t_rows 2, eJ cJ 7 (c_t_rows 2)), (A_t_rows 3, eJ cJ 7 (c_t_rows 3)), (A_t_rows 4, eJ cJ 7 (c_t_rows 4)), (A_t_rows 5, eJ cJ 7 (c_t_rows 5)), (h_w, oW A_w c_w_knots c_w_flows c_w_readSet), (A_w 0, eI cI 10 c_w_from), (A_w 1, eI cI 10 c_w_to), (A_w 3, eI cI 10 c_w_miss)] sz)) (List.toArray [.ref h_t, .ref h_w, .int x2]) s 0 0 (va_A [(h_t, oF A_t c_t_unread c_t_below), (A_t 0, oG A_t_heaps), (A_t_heaps 0, eI cI 6 c_t_heaps_least), (A_t 3, eQ cR 6 A_t_rows), (A_t_rows 0, eJ cJ 7 (c_t_rows 0)), (A_t_rows 1, eJ cJ 7 (c_t_rows 1)), (A_t_rows 2, eJ cJ 7 (c_t_rows 2)), (A_t_rows 3, eJ cJ 7 (c_t_rows 3)), (A_t_rows 4, eJ cJ 7 (c_t_rows 4)), (A_t_rows 5, eJ cJ 7 (c_t_rows 5)), (h_w, oW A_w c_w_knots c_w_flows c_w_readSet), (A_w 0, eI cI 10 c_w_from), (A_w 1, eI cI 10 c_w_to), (A_w 3, eI cI 10 c_w_miss)] sz)) 0 [(0, .ref h_t), (1, .ref h_w), (2, .int x2)] [] [(h_t, oF A_t c_t_unread c_t_below), (A_t 0, oG A_t_heaps), (A_t_heaps 0, eI cI 6 c_t_heaps_least), (A_t 3, eQ cR 6 A_t_rows), (A_t_rows 0, eJ cJ 7 (c_t_rows 0)), (A_t_rows 1, eJ cJ 7 (c_t_rows 1)), (A_t_rows 2, eJ cJ 7 (c_t_rows 2)), (A_t_rows 3, eJ cJ 7 (c_t_rows 3)), (A_t_rows 4, eJ cJ 7 (c_t_rows 4)), (A_t_rows 5, eJ cJ 7 (c_t_rows 5)), (h_w, oW A_w c_w_knots c_w_flows c_w_readSet), (A_w 0, eI cI 10 c_w_from), (A_w 1, eI cI 10 c_w_to), (A_w 3, eI cI 10 c_w_miss)]
  unfold fX0_changeAbove at hf
  refine g_aload_n Γ 1 dX0_changeAbove_0 rfl ?_
  refine g_get Γ fX0_changeAbove_86 10 rfl rfl dX0_changeAbove_1 ?_
  refine g_iload_n Γ 2 dX0_changeAbove_4 rfl ?_
  obtain ⟨v1, e2, hf⟩ := ya_ob hf
  refine g_iald Γ e2 13 0 rfl rfl dX0_changeAbove_5 ?_
  refine g_i2l Γ dX0_changeAbove_6 ?_
  refine g_aload_n Γ 0 dX0_changeAbove_7 rfl ?_
  refine g_aload_n Γ 1 dX0_changeAbove_8 rfl ?_
  refine g_get Γ fX0_changeAbove_83 10 rfl rfl dX0_changeAbove_9 ?_
  refine g_iload_n Γ 2 dX0_changeAbove_12 rfl ?_
  obtain ⟨v3, e4, hf⟩ := ya_ob hf
  refine g_iald Γ e4 12 0 rfl rfl dX0_changeAbove_13 ?_
  obtain ⟨v5, e6, hf⟩ := ya_ob hf
  refine g_vl (q := (RX0, TX0, 7)) (wr := [(h_w, oW A_w c_w_knots c_w_flows c_w_readSet), (A_w 0, eI cI 10 c_w_from), (A_w 1, eI cI 10 c_w_to), (A_w 3, eI cI 10 c_w_miss)]) (ws' := [(h_w, oW A_w c_w_knots c_w_flows c_w_readSet), (A_w 0, eI cI 10 c_w_from), (A_w 1, eI cI 10 c_w_to), (A_w 3, eI cI 10 c_w_miss), (h_t, oF A_t c_t_unread c_t_below), (A_t 0, oG A_t_heaps), (A_t_heaps 0, eI cI 6 c_t_heaps_least), (A_t 3, eQ cR 6 A_t_rows), (A_t_rows 0, eJ cJ 7 (c_t_rows 0)), (A_t_rows 1, eJ cJ 7 (c_t_rows 1)), (A_t_rows 2, eJ cJ 7 (c_t_rows 2)), (A_t_rows 3, eJ cJ 7 (c_t_rows 3)), (A_t_rows 4, eJ cJ 7 (c_t_rows 4)), (A_t_rows 5, eJ cJ 7 (c_t_rows 5))]) Γ (fun sz => mX0_forceAbove (l := l) (D := D) (sz := sz) (cI := cI) (cJ := cJ) (cZ := cZ) (cW := cW) (cR := cR) (h_t := h_t) (A_t := A_t) (A_t_heaps := A_t_heaps) (A_t_rows := A_t_rows) (hf := e6)) eX0_forceAbove gX0_changeAbove_X0_forceAbove rfl rfl 0 rfl rfl rfl (Nat.le_of_ble_eq_true rfl) ⟨Nat.le_of_ble_eq_true rfl, Nat.le_of_ble_eq_true rfl⟩ dX0_changeAbove_14 [0, 1, 2, 3, 4, 5, 6, 7, 8, 9] [10, 11, 12, 13] rfl rfl rfl rfl (by decide) rfl ?_
  refine g_aload_n Γ 0 dX0_changeAbove_17 rfl ?_
  refine g_aload_n Γ 1 dX0_changeAbove_18 rfl ?_
  refine g_get Γ fX0_changeAbove_80 0 rfl rfl dX0_changeAbove_19 ?_
  refine g_iload_n Γ 2 dX0_changeAbove_22 rfl ?_
  obtain ⟨v7, e8, hf⟩ := ya_ob hf
  refine g_iald Γ e8 1 0 rfl rfl dX0_changeAbove_23 ?_
  obtain ⟨v9, e10, hf⟩ := ya_ob hf
  refine g_vl (q := (RX0, TX0, 7)) (wr := [(h_w, oW A_w c_w_knots c_w_flows c_w_readSet), (A_w 0, eI cI 10 c_w_from), (A_w 1, eI cI 10 c_w_to), (A_w 3, eI cI 10 c_w_miss)]) (ws' := [(h_w, oW A_w c_w_knots c_w_flows c_w_readSet), (A_w 0, eI cI 10 c_w_from), (A_w 1, eI cI 10 c_w_to), (A_w 3, eI cI 10 c_w_miss), (h_t, oF A_t c_t_unread c_t_below), (A_t 0, oG A_t_heaps), (A_t_heaps 0, eI cI 6 c_t_heaps_least), (A_t 3, eQ cR 6 A_t_rows), (A_t_rows 0, eJ cJ 7 (c_t_rows 0)), (A_t_rows 1, eJ cJ 7 (c_t_rows 1)), (A_t_rows 2, eJ cJ 7 (c_t_rows 2)), (A_t_rows 3, eJ cJ 7 (c_t_rows 3)), (A_t_rows 4, eJ cJ 7 (c_t_rows 4)), (A_t_rows 5, eJ cJ 7 (c_t_rows 5))]) Γ (fun sz => mX0_forceAbove (l := l) (D := D) (sz := sz) (cI := cI) (cJ := cJ) (cZ := cZ) (cW := cW) (cR := cR) (h_t := h_t) (A_t := A_t) (A_t_heaps := A_t_heaps) (A_t_rows := A_t_rows) (hf := e10)) eX0_forceAbove gX0_changeAbove_X0_forceAbove rfl rfl 0 rfl rfl rfl (Nat.le_of_ble_eq_true rfl) ⟨Nat.le_of_ble_eq_true rfl, Nat.le_of_ble_eq_true rfl⟩ dX0_changeAbove_24 [4, 5, 6, 7, 8, 9, 10, 11, 12, 13] [0, 1, 2, 3] rfl rfl rfl rfl (by decide) rfl ?_
  refine g_lsub Γ dX0_changeAbove_27 ?_
  refine g_lmul Γ dX0_changeAbove_28 ?_
  cases hf
  exact g_lret Γ hr dX0_changeAbove_29 [4, 5, 6, 7, 8, 9, 10, 11, 12, 13, 0, 1, 2, 3] rfl rfl

set_option maxRecDepth 20000 in
theorem ggX0_fittedAbove_X0_changeAbove : GoodIn wsX0_fittedAbove wsX0_changeAbove := goodIn_r _ [7, 8, 9, 10, 11, 12, 13, 6, 14, 15, 16, 17, 18, 19, 20, 21, 22, 23, 24, 25, 26, 27, 28, 29, 30, 31, 32, 33, 34, 35, 36] (by decide +kernel) (by decide +kernel)
set_option maxRecDepth 20000 in
theorem gX0_fittedAbove_X0_changeAbove : GoodIn wsX0_fittedAbove (wsV RX0 104 RX0 yX0_changeAbove wsX0_changeAbove) := goodIn_app (goodIn_of _ (by decide +kernel)) ggX0_fittedAbove_X0_changeAbove
theorem dX0_fittedAbove_0 : decode cX0_fittedAbove 0 = .ok (.aload_n 1, 1) := by decide +kernel
theorem dX0_fittedAbove_1 : decode cX0_fittedAbove 1 = .ok (.getfield 89, 3) := by decide +kernel
theorem dX0_fittedAbove_4 : decode cX0_fittedAbove 4 = .ok (.iload_n 2, 1) := by decide +kernel
theorem dX0_fittedAbove_5 : decode cX0_fittedAbove 5 = .ok (.iaload, 1) := by decide +kernel
theorem dX0_fittedAbove_6 : decode cX0_fittedAbove 6 = .ok (.i2l, 1) := by decide +kernel
theorem dX0_fittedAbove_7 : decode cX0_fittedAbove 7 = .ok (.aload_n 0, 1) := by decide +kernel
theorem dX0_fittedAbove_8 : decode cX0_fittedAbove 8 = .ok (.getfield 37, 3) := by decide +kernel
theorem dX0_fittedAbove_11 : decode cX0_fittedAbove 11 = .ok (.lmul, 1) := by decide +kernel
theorem dX0_fittedAbove_12 : decode cX0_fittedAbove 12 = .ok (.aload_n 0, 1) := by decide +kernel
theorem dX0_fittedAbove_13 : decode cX0_fittedAbove 13 = .ok (.aload_n 1, 1) := by decide +kernel
theorem dX0_fittedAbove_14 : decode cX0_fittedAbove 14 = .ok (.iload_n 2, 1) := by decide +kernel
theorem dX0_fittedAbove_15 : decode cX0_fittedAbove 15 = .ok (.invokevirtual 104, 3) := by decide +kernel
theorem dX0_fittedAbove_18 : decode cX0_fittedAbove 18 = .ok (.ladd, 1) := by decide +kernel
theorem dX0_fittedAbove_19 : decode cX0_fittedAbove 19 = .ok (.lreturn, 1) := by decide +kernel
/-! ===== FlowMeters$Fit.fittedAbove(LFlowMeters$Works;I)J ===== -/
def fX0_fittedAbove (c_t_below : Int64) (c_t_heaps_least : Nat → Int32) (c_t_rows : Nat → Nat → Int64) (c_w_from : Nat → Int32) (c_w_to : Nat → Int32) (c_w_reading : Nat → Int32) (c_w_miss : Nat → Int32) (x2 : Int32) : Option (Int64) :=
  (ya_rd c_w_reading 10 x2).bind fun v1 =>
  (fX0_changeAbove c_t_heaps_least c_t_rows c_w_from c_w_to c_w_miss x2).bind fun v3 =>
  some (((Int32.toInt64 v1) * c_t_below) + v3)
theorem fX0_fittedAbove_89 : yF wsX0_fittedAbove RX0 89 3 5 RX3 TX3 11 := ⟨rfl, by decide, by decide +kernel, by decide +kernel⟩
theorem fX0_fittedAbove_37 : yF wsX0_fittedAbove RX0 37 0 6 RX0 TX0 7 := ⟨rfl, by decide, by decide +kernel, by decide +kernel⟩
abbrev rmX0_fittedAbove : Room := { frames := 2, cells := 0, slots := 0, locals := 43 }
theorem eX0_fittedAbove : yY yX0_fittedAbove wsX0_fittedAbove cX0_fittedAbove 3 (some .long) rmX0_fittedAbove 2 := ⟨⟨_, rfl⟩, rfl, rfl, by decide, by decide, by decide +kernel⟩
set_option maxHeartbeats 4000000 in
set_option maxRecDepth 100000 in
theorem mX0_fittedAbove {l : Launch} {D : va_G} {sz : Nat} {cI cJ cZ cW cR : ClassId} {h_t : Nat} {h_w : Nat} {A_t : Nat → Nat} {A_t_heaps : Nat → Nat} {A_t_rows : Nat → Nat} {A_w : Nat → Nat} {c_t_unread : Int32} {c_t_below : Int64} {c_t_heaps_least : Nat → Int32} {c_t_rows : Nat → Nat → Int64} {c_w_knots : Int32} {c_w_flows : Int32} {c_w_readSet : Int32} {c_w_from : Nat → Int32} {c_w_to : Nat → Int32} {c_w_reading : Nat → Int32} {c_w_miss : Nat → Int32} {x2 : Int32} {r : Int64} (hf : fX0_fittedAbove c_t_below c_t_heaps_least c_t_rows c_w_from c_w_to c_w_reading c_w_miss x2 = some r) : Met l yX0_fittedAbove wsX0_fittedAbove rmX0_fittedAbove (yP D (yT cI cJ cZ cW cR) [(h_t, oF A_t c_t_unread c_t_below), (A_t 0, oG A_t_heaps), (A_t_heaps 0, eI cI 6 c_t_heaps_least), (A_t 3, eQ cR 6 A_t_rows), (A_t_rows 0, eJ cJ 7 (c_t_rows 0)), (A_t_rows 1, eJ cJ 7 (c_t_rows 1)), (A_t_rows 2, eJ cJ 7 (c_t_rows 2)), (A_t_rows 3, eJ cJ 7 (c_t_rows 3)), (A_t_rows 4, eJ cJ 7 (c_t_rows 4)), (A_t_rows 5, eJ cJ 7 (c_t_rows 5)), (h_w, oW A_w c_w_knots c_w_flows c_w_readSet), (A_w 0, eI cI 10 c_w_from), (A_w 1, eI cI 10 c_w_to), (A_w 2, eI cI 10 c_w_reading), (A_w 3, eI cI 10 c_w_miss)] sz [.ref h_t, .ref h_w, .int x2]) (yQl D (yT cI cJ cZ cW cR) r [(h_t, oF A_t c_t_unread c_t_below), (A_t 0, oG A_t_heaps), (A_t_heaps 0, eI cI 6 c_t_heaps_least), (A_t 3, eQ cR 6 A_t_rows), (A_t_rows 0, eJ cJ 7 (c_t_rows 0)), (A_t_rows 1, eJ cJ 7 (c_t_rows 1)), (A_t_rows 2, eJ cJ 7 (c_t_rows 2)), (A_t_rows 3, eJ cJ 7 (c_t_rows 3)), (A_t_rows 4, eJ cJ 7 (c_t_rows 4)), (A_t_rows 5, eJ cJ 7 (c_t_rows 5)), (h_w, oW A_w c_w_knots c_w_flows c_w_readSet), (A_w 0, eI cI 10 c_w_from), (A_w 1, eI cI 10 c_w_to), (A_w 2, eI cI 10 c_w_reading), (A_w 3, eI cI 10 c_w_miss)] (va_A [(h_t, oF A_t c_t_unread c_t_below), (A_t 0, oG A_t_heaps), (A_t_heaps 0, eI cI 6 c_t_heaps_least), (A_t 3, eQ cR 6 A_t_rows), (A_t_rows 0, eJ cJ 7 (c_t_rows 0)), (A_t_rows 1, eJ cJ 7 (c_t_rows 1)), (A_t_rows 2, eJ cJ 7 (c_t_rows 2)), (A_t_rows 3, eJ cJ 7 (c_t_rows 3)), (A_t_rows 4, eJ cJ 7 (c_t_rows 4)), (A_t_rows 5, eJ cJ 7 (c_t_rows 5)), (h_w, oW A_w c_w_knots c_w_flows c_w_readSet), (A_w 0, eI cI 10 c_w_from), (A_w 1, eI cI 10 c_w_to), (A_w 2, eI cI 10 c_w_reading), (A_w 3, eI cI 10 c_w_miss)] sz)) 0 0 (va_A [(h_t, oF A_t c_t_unread c_t_below), (A_t 0, oG A_t_heaps), (A_t_heaps 0, eI cI 6 c_t_heaps_least), (A_t 3, eQ cR 6 A_t_rows), (A_t_rows 0, eJ cJ 7 (c_t_rows 0)), (A_t_rows 1, eJ cJ 7 (c_t_rows 1)), (A_t_rows 2, eJ cJ 7 (c_t_rows 2)), (A_t_rows 3, eJ cJ 7 (c_t_rows 3)), (A_t_rows 4, eJ cJ 7 (c_t_rows 4)), (A_t_rows 5, eJ cJ 7 (c_t_rows 5)), (h_w, oW A_w c_w_knots c_w_flows c_w_readSet), (A_w 0, eI cI 10 c_w_from), (A_w 1, eI cI 10 c_w_to), (A_w 2, eI cI 10 c_w_reading), (A_w 3, eI cI 10 c_w_miss)] sz) := by
  refine yM (cc := cX0_fittedAbove) (maxL := 3) (ret := (some .long)) RX0 (by decide) rfl rfl (Nat.le_of_ble_eq_true rfl) ?_
  intro p e s m below meth c Γ hr
  show yG p l e (headSpec wsX0_fittedAbove rmX0_fittedAbove).room s m (List.toArray [.ref h_t, .ref h_w, .int x2]) below meth c D (va_A [(h_t, oF A_t c_t_unread c_t_below), (A_t 0, oG A_t_heaps), (A_t_heaps 0, eI cI 6 c_t_heaps_least), (A_t 3, eQ cR 6 A_t_rows), (A_t_rows 0, eJ cJ 7 (c_t_rows 0)), (A_t_rows 1, eJ cJ 7 (c_t_rows 1)), (A_t_rows 2, eJ cJ 7 (c_t_rows 2)), (A_t_rows 3, eJ cJ 7 (c_t_rows 3)), (A_t_rows 4, eJ cJ 7 (c_t_rows 4)), (A_t_rows 5, eJ cJ 7 (c_t_rows 5)), (h_w, oW A_w c_w_knots c_w_flows c_w_readSet), (A_w 0, eI cI 10 c_w_from), (A_w 1, eI cI 10 c_w_to), (A_w 2, eI cI 10 c_w_reading), (A_w 3, eI cI 10 c_w_miss)] sz) 3 0 0 (MQ below (yQl D (yT cI cJ cZ cW cR) r [(h_t, oF A_t c_t_unread c_t_below), (A_t 0, oG A_t_heaps), (A_t_heaps 0, eI cI 6 c_t_heaps_least), (A_t 3, eQ cR 6 A_t_rows), (A_t_rows 0, eJ cJ 7 (c_t_rows 0)), (A_t_rows 1, eJ cJ 7 (c_t_rows 1)), (A_t_rows 2, eJ cJ 7 (c_t_rows 2)), (A_t_rows 3, eJ cJ 7 (c_t_rows 3)), (A_t_rows 4, eJ cJ 7 (c_t_rows 4)), (A_t_rows 5, eJ cJ 7 (c_t_rows 5)), (h_w, oW A_w c_w_knots c_w_flows c_w_readSet), (A_w 0, eI cI 10 c_w_from), (A_w 1, eI cI 10 c_w_to), (A_w 2, eI cI 10 c_w_reading), (A_w 3, eI cI 10 c_w_miss)] (va_A [(h_t, oF A_t c_t_unread c_t_below), (A_t 0, oG A_t_heaps), (A_t_heaps 0, eI cI 6 c_t_heaps_least), (A_t 3, eQ cR 6 A_t_rows), (A_t_rows 0, eJ cJ 7 (c_t_rows 0)), (A_t_rows 1, eJ cJ 7 (c_t_rows 1)), (A_t_rows 2, eJ cJ 7 (c_t_rows 2)), (A_t_rows 3, eJ cJ 7 (c_t_rows 3)), (A_t_rows 4, eJ cJ 7 (c_t_rows 4)), (A_t_rows 5, eJ cJ 7 (c_t_rows 5)), (h_w, oW A_w c_w_knots c_w_flows c_w_readSet), (A_w 0, eI cI 10 c_w_from), (A_w 1, eI cI 10 c_w_to), (A_w 2, eI cI 10 c_w_reading), (A_w 3, eI cI 10 c_w_miss)] sz)) (List.toArray [.ref h_t, .ref h_w, .int x2]) s 0 0 (va_A [(h_t, oF A_t c_t_unread c_t_below), (A_t 0, oG A_t_heaps), (A_t_heaps 0, eI cI 6 c_t_heaps_least), (A_t 3, eQ cR 6 A_t_rows), (A_t_rows 0, eJ cJ 7 (c_t_rows 0)), (A_t_rows 1, eJ cJ 7 (c_t_rows 1)), (A_t_rows 2, eJ cJ 7 (c_t_rows 2)), (A_t_rows 3, eJ cJ 7 (c_t_rows 3)), (A_t_rows 4, eJ cJ 7 (c_t_rows 4)), (A_t_rows 5, eJ cJ 7 (c_t_rows 5)), (h_w, oW A_w c_w_knots c_w_flows c_w_readSet), (A_w 0, eI cI 10 c_w_from), (A_w 1, eI cI 10 c_w_to), (A_w 2, eI cI 10 c_w_reading), (A_w 3, eI cI 10 c_w_miss)] sz)) 0 [(0, .ref h_t), (1, .ref h_w), (2, .int x2)] [] [(h_t, oF A_t c_t_unread c_t_below), (A_t 0, oG A_t_heaps), (A_t_heaps 0, eI cI 6 c_t_heaps_least), (A_t 3, eQ cR 6 A_t_rows), (A_t_rows 0, eJ cJ 7 (c_t_rows 0)), (A_t_rows 1, eJ cJ 7 (c_t_rows 1)), (A_t_rows 2, eJ cJ 7 (c_t_rows 2)), (A_t_rows 3, eJ cJ 7 (c_t_rows 3)), (A_t_rows 4, eJ cJ 7 (c_t_rows 4)), (A_t_rows 5, eJ cJ 7 (c_t_rows 5)), (h_w, oW A_w c_w_knots c_w_flows c_w_readSet), (A_w 0, eI cI 10 c_w_from), (A_w 1, eI cI 10 c_w_to), (A_w 2, eI cI 10 c_w_reading), (A_w 3, eI cI 10 c_w_miss)]
  unfold fX0_fittedAbove at hf
  refine g_aload_n Γ 1 dX0_fittedAbove_0 rfl ?_
  refine g_get Γ fX0_fittedAbove_89 10 rfl rfl dX0_fittedAbove_1 ?_
  refine g_iload_n Γ 2 dX0_fittedAbove_4 rfl ?_
  obtain ⟨v1, e2, hf⟩ := ya_ob hf
  refine g_iald Γ e2 13 0 rfl rfl dX0_fittedAbove_5 ?_
  refine g_i2l Γ dX0_fittedAbove_6 ?_
  refine g_aload_n Γ 0 dX0_fittedAbove_7 rfl ?_
  refine g_get Γ fX0_fittedAbove_37 0 rfl rfl dX0_fittedAbove_8 ?_
  refine g_lmul Γ dX0_fittedAbove_11 ?_
  refine g_aload_n Γ 0 dX0_fittedAbove_12 rfl ?_
  refine g_aload_n Γ 1 dX0_fittedAbove_13 rfl ?_
  refine g_iload_n Γ 2 dX0_fittedAbove_14 rfl ?_
  obtain ⟨v3, e4, hf⟩ := ya_ob hf
  refine g_vl (q := (RX0, TX0, 7)) (wr := [(A_w 2, eI cI 10 c_w_reading)]) (ws' := [(A_w 2, eI cI 10 c_w_reading), (h_t, oF A_t c_t_unread c_t_below), (A_t 0, oG A_t_heaps), (A_t_heaps 0, eI cI 6 c_t_heaps_least), (A_t 3, eQ cR 6 A_t_rows), (A_t_rows 0, eJ cJ 7 (c_t_rows 0)), (A_t_rows 1, eJ cJ 7 (c_t_rows 1)), (A_t_rows 2, eJ cJ 7 (c_t_rows 2)), (A_t_rows 3, eJ cJ 7 (c_t_rows 3)), (A_t_rows 4, eJ cJ 7 (c_t_rows 4)), (A_t_rows 5, eJ cJ 7 (c_t_rows 5)), (h_w, oW A_w c_w_knots c_w_flows c_w_readSet), (A_w 0, eI cI 10 c_w_from), (A_w 1, eI cI 10 c_w_to), (A_w 3, eI cI 10 c_w_miss)]) Γ (fun sz => mX0_changeAbove (l := l) (D := D) (sz := sz) (cI := cI) (cJ := cJ) (cZ := cZ) (cW := cW) (cR := cR) (h_t := h_t) (h_w := h_w) (A_t := A_t) (A_t_heaps := A_t_heaps) (A_t_rows := A_t_rows) (A_w := A_w) (hf := e4)) eX0_changeAbove gX0_fittedAbove_X0_changeAbove rfl rfl 0 rfl rfl rfl (Nat.le_of_ble_eq_true rfl) ⟨Nat.le_of_ble_eq_true rfl, Nat.le_of_ble_eq_true rfl⟩ dX0_fittedAbove_15 [0, 1, 2, 3, 4, 5, 6, 7, 8, 9, 10, 11, 12, 14] [13] rfl rfl rfl rfl (by decide) rfl ?_
  refine g_ladd Γ dX0_fittedAbove_18 ?_
  cases hf
  exact g_lret Γ hr dX0_fittedAbove_19 [1, 2, 3, 4, 5, 6, 7, 8, 9, 10, 11, 12, 13, 0, 14] rfl rfl

set_option maxRecDepth 20000 in
theorem ggX0_valueAbove_X4_holds : GoodIn wsX0_valueAbove wsX4_holds := goodIn_r _ [9] (by decide +kernel) (by decide +kernel)
set_option maxRecDepth 20000 in
theorem gX0_valueAbove_X4_holds_n73 : GoodIn wsX0_valueAbove (wsX4_holds) := ggX0_valueAbove_X4_holds
set_option maxRecDepth 20000 in
theorem ggX0_valueAbove_X0_fittedAbove : GoodIn wsX0_valueAbove wsX0_fittedAbove := goodIn_r _ [14, 15, 16, 17, 18, 19, 13, 20, 21, 6, 4, 22, 23, 24, 25, 26, 27, 3, 62, 63, 64, 65, 66, 67, 68, 69, 70, 71, 72, 54, 55, 56, 57, 58, 59, 60, 61] (by decide +kernel) (by decide +kernel)
set_option maxRecDepth 20000 in
theorem gX0_valueAbove_X0_fittedAbove : GoodIn wsX0_valueAbove (wsV RX0 108 RX0 yX0_fittedAbove wsX0_fittedAbove) := goodIn_app (goodIn_of _ (by decide +kernel)) ggX0_valueAbove_X0_fittedAbove
set_option maxRecDepth 20000 in
theorem ggX0_valueAbove_X4_bit : GoodIn wsX0_valueAbove wsX4_bit := goodIn_r _ [29] (by decide +kernel) (by decide +kernel)
set_option maxRecDepth 20000 in
theorem gX0_valueAbove_X4_bit_n111 : GoodIn wsX0_valueAbove (wsX4_bit) := ggX0_valueAbove_X4_bit
set_option maxRecDepth 20000 in
theorem ggX0_valueAbove_X1_gather : GoodIn wsX0_valueAbove wsX1_gather := goodIn_r _ [34, 35, 36, 37, 38, 7, 8, 9, 39, 40, 41, 33, 42, 43, 44, 45, 46, 47, 48, 49, 50, 51, 52, 53, 61, 62, 63, 64, 65, 66, 67, 68, 69, 70, 71, 72] (by decide +kernel) (by decide +kernel)
set_option maxRecDepth 20000 in
theorem gX0_valueAbove_X1_gather : GoodIn wsX0_valueAbove (wsV RX0 41 RX1 yX1_gather wsX1_gather) := goodIn_app (goodIn_of _ (by decide +kernel)) ggX0_valueAbove_X1_gather
theorem dX0_valueAbove_0 : decode cX0_valueAbove 0 = .ok (.aload_n 0, 1) := by decide +kernel
theorem dX0_valueAbove_1 : decode cX0_valueAbove 1 = .ok (.getfield 33, 3) := by decide +kernel
theorem dX0_valueAbove_4 : decode cX0_valueAbove 4 = .ok (.iload_n 2, 1) := by decide +kernel
theorem dX0_valueAbove_5 : decode cX0_valueAbove 5 = .ok (.invokestatic 73, 3) := by decide +kernel
theorem dX0_valueAbove_8 : decode cX0_valueAbove 8 = .ok (.ifCond .ne 10, 3) := by decide +kernel
theorem dX0_valueAbove_11 : decode cX0_valueAbove 11 = .ok (.aload_n 0, 1) := by decide +kernel
theorem dX0_valueAbove_12 : decode cX0_valueAbove 12 = .ok (.aload_n 1, 1) := by decide +kernel
theorem dX0_valueAbove_13 : decode cX0_valueAbove 13 = .ok (.iload_n 2, 1) := by decide +kernel
theorem dX0_valueAbove_14 : decode cX0_valueAbove 14 = .ok (.invokevirtual 108, 3) := by decide +kernel
theorem dX0_valueAbove_17 : decode cX0_valueAbove 17 = .ok (.lreturn, 1) := by decide +kernel
theorem dX0_valueAbove_18 : decode cX0_valueAbove 18 = .ok (.aload_n 0, 1) := by decide +kernel
theorem dX0_valueAbove_19 : decode cX0_valueAbove 19 = .ok (.getfield 21, 3) := by decide +kernel
theorem dX0_valueAbove_22 : decode cX0_valueAbove 22 = .ok (.aload_n 1, 1) := by decide +kernel
theorem dX0_valueAbove_23 : decode cX0_valueAbove 23 = .ok (.aload_n 0, 1) := by decide +kernel
theorem dX0_valueAbove_24 : decode cX0_valueAbove 24 = .ok (.getfield 33, 3) := by decide +kernel
theorem dX0_valueAbove_27 : decode cX0_valueAbove 27 = .ok (.iload_n 2, 1) := by decide +kernel
theorem dX0_valueAbove_28 : decode cX0_valueAbove 28 = .ok (.invokestatic 111, 3) := by decide +kernel
theorem dX0_valueAbove_31 : decode cX0_valueAbove 31 = .ok (.iconst (-1), 1) := by decide +kernel
theorem dX0_valueAbove_32 : decode cX0_valueAbove 32 = .ok (.ixor, 1) := by decide +kernel
theorem dX0_valueAbove_33 : decode cX0_valueAbove 33 = .ok (.iand, 1) := by decide +kernel
theorem dX0_valueAbove_34 : decode cX0_valueAbove 34 = .ok (.invokevirtual 41, 3) := by decide +kernel
theorem dX0_valueAbove_37 : decode cX0_valueAbove 37 = .ok (.pop, 1) := by decide +kernel
theorem dX0_valueAbove_38 : decode cX0_valueAbove 38 = .ok (.aload_n 0, 1) := by decide +kernel
theorem dX0_valueAbove_39 : decode cX0_valueAbove 39 = .ok (.getfield 21, 3) := by decide +kernel
theorem dX0_valueAbove_42 : decode cX0_valueAbove 42 = .ok (.getfield 62, 3) := by decide +kernel
theorem dX0_valueAbove_45 : decode cX0_valueAbove 45 = .ok (.aload_n 1, 1) := by decide +kernel
theorem dX0_valueAbove_46 : decode cX0_valueAbove 46 = .ok (.getfield 80, 3) := by decide +kernel
theorem dX0_valueAbove_49 : decode cX0_valueAbove 49 = .ok (.iload_n 2, 1) := by decide +kernel
theorem dX0_valueAbove_50 : decode cX0_valueAbove 50 = .ok (.iaload, 1) := by decide +kernel
theorem dX0_valueAbove_51 : decode cX0_valueAbove 51 = .ok (.iaload, 1) := by decide +kernel
theorem dX0_valueAbove_52 : decode cX0_valueAbove 52 = .ok (.istore_n 3, 1) := by decide +kernel
theorem dX0_valueAbove_53 : decode cX0_valueAbove 53 = .ok (.lconst 0, 1) := by decide +kernel
theorem dX0_valueAbove_54 : decode cX0_valueAbove 54 = .ok (.lstore 4, 2) := by decide +kernel
theorem dX0_valueAbove_56 : decode cX0_valueAbove 56 = .ok (.iconst 0, 1) := by decide +kernel
theorem dX0_valueAbove_57 : decode cX0_valueAbove 57 = .ok (.istore 6, 2) := by decide +kernel
theorem dX0_valueAbove_59 : decode cX0_valueAbove 59 = .ok (.iload 6, 2) := by decide +kernel
theorem dX0_valueAbove_61 : decode cX0_valueAbove 61 = .ok (.aload_n 1, 1) := by decide +kernel
theorem dX0_valueAbove_62 : decode cX0_valueAbove 62 = .ok (.getfield 70, 3) := by decide +kernel
theorem dX0_valueAbove_65 : decode cX0_valueAbove 65 = .ok (.if_icmp .ge 91, 3) := by decide +kernel
theorem dX0_valueAbove_68 : decode cX0_valueAbove 68 = .ok (.aload_n 0, 1) := by decide +kernel
theorem dX0_valueAbove_69 : decode cX0_valueAbove 69 = .ok (.getfield 33, 3) := by decide +kernel
theorem dX0_valueAbove_72 : decode cX0_valueAbove 72 = .ok (.iload 6, 2) := by decide +kernel
theorem dX0_valueAbove_74 : decode cX0_valueAbove 74 = .ok (.invokestatic 73, 3) := by decide +kernel
theorem dX0_valueAbove_77 : decode cX0_valueAbove 77 = .ok (.ifCond .ne 73, 3) := by decide +kernel
theorem dX0_valueAbove_80 : decode cX0_valueAbove 80 = .ok (.lload 4, 2) := by decide +kernel
theorem dX0_valueAbove_82 : decode cX0_valueAbove 82 = .ok (.aload_n 0, 1) := by decide +kernel
theorem dX0_valueAbove_83 : decode cX0_valueAbove 83 = .ok (.getfield 21, 3) := by decide +kernel
theorem dX0_valueAbove_86 : decode cX0_valueAbove 86 = .ok (.getfield 62, 3) := by decide +kernel
theorem dX0_valueAbove_89 : decode cX0_valueAbove 89 = .ok (.aload_n 1, 1) := by decide +kernel
theorem dX0_valueAbove_90 : decode cX0_valueAbove 90 = .ok (.getfield 83, 3) := by decide +kernel
theorem dX0_valueAbove_93 : decode cX0_valueAbove 93 = .ok (.iload 6, 2) := by decide +kernel
theorem dX0_valueAbove_95 : decode cX0_valueAbove 95 = .ok (.iaload, 1) := by decide +kernel
theorem dX0_valueAbove_96 : decode cX0_valueAbove 96 = .ok (.iaload, 1) := by decide +kernel
theorem dX0_valueAbove_97 : decode cX0_valueAbove 97 = .ok (.iload_n 3, 1) := by decide +kernel
theorem dX0_valueAbove_98 : decode cX0_valueAbove 98 = .ok (.if_icmp .ne 13, 3) := by decide +kernel
theorem dX0_valueAbove_101 : decode cX0_valueAbove 101 = .ok (.aload_n 0, 1) := by decide +kernel
theorem dX0_valueAbove_102 : decode cX0_valueAbove 102 = .ok (.aload_n 1, 1) := by decide +kernel
theorem dX0_valueAbove_103 : decode cX0_valueAbove 103 = .ok (.iload 6, 2) := by decide +kernel
theorem dX0_valueAbove_105 : decode cX0_valueAbove 105 = .ok (.invokevirtual 108, 3) := by decide +kernel
theorem dX0_valueAbove_108 : decode cX0_valueAbove 108 = .ok (.goto 4, 3) := by decide +kernel
theorem dX0_valueAbove_111 : decode cX0_valueAbove 111 = .ok (.lconst 0, 1) := by decide +kernel
theorem dX0_valueAbove_112 : decode cX0_valueAbove 112 = .ok (.ladd, 1) := by decide +kernel
theorem dX0_valueAbove_113 : decode cX0_valueAbove 113 = .ok (.lstore 4, 2) := by decide +kernel
theorem dX0_valueAbove_115 : decode cX0_valueAbove 115 = .ok (.lload 4, 2) := by decide +kernel
theorem dX0_valueAbove_117 : decode cX0_valueAbove 117 = .ok (.aload_n 0, 1) := by decide +kernel
theorem dX0_valueAbove_118 : decode cX0_valueAbove 118 = .ok (.getfield 21, 3) := by decide +kernel
theorem dX0_valueAbove_121 : decode cX0_valueAbove 121 = .ok (.getfield 62, 3) := by decide +kernel
theorem dX0_valueAbove_124 : decode cX0_valueAbove 124 = .ok (.aload_n 1, 1) := by decide +kernel
theorem dX0_valueAbove_125 : decode cX0_valueAbove 125 = .ok (.getfield 80, 3) := by decide +kernel
theorem dX0_valueAbove_128 : decode cX0_valueAbove 128 = .ok (.iload 6, 2) := by decide +kernel
theorem dX0_valueAbove_130 : decode cX0_valueAbove 130 = .ok (.iaload, 1) := by decide +kernel
theorem dX0_valueAbove_131 : decode cX0_valueAbove 131 = .ok (.iaload, 1) := by decide +kernel
theorem dX0_valueAbove_132 : decode cX0_valueAbove 132 = .ok (.iload_n 3, 1) := by decide +kernel
theorem dX0_valueAbove_133 : decode cX0_valueAbove 133 = .ok (.if_icmp .ne 13, 3) := by decide +kernel
theorem dX0_valueAbove_136 : decode cX0_valueAbove 136 = .ok (.aload_n 0, 1) := by decide +kernel
theorem dX0_valueAbove_137 : decode cX0_valueAbove 137 = .ok (.aload_n 1, 1) := by decide +kernel
theorem dX0_valueAbove_138 : decode cX0_valueAbove 138 = .ok (.iload 6, 2) := by decide +kernel
theorem dX0_valueAbove_140 : decode cX0_valueAbove 140 = .ok (.invokevirtual 108, 3) := by decide +kernel
theorem dX0_valueAbove_143 : decode cX0_valueAbove 143 = .ok (.goto 4, 3) := by decide +kernel
theorem dX0_valueAbove_146 : decode cX0_valueAbove 146 = .ok (.lconst 0, 1) := by decide +kernel
theorem dX0_valueAbove_147 : decode cX0_valueAbove 147 = .ok (.lsub, 1) := by decide +kernel
theorem dX0_valueAbove_148 : decode cX0_valueAbove 148 = .ok (.lstore 4, 2) := by decide +kernel
theorem dX0_valueAbove_150 : decode cX0_valueAbove 150 = .ok (.iinc 6 1, 3) := by decide +kernel
theorem dX0_valueAbove_153 : decode cX0_valueAbove 153 = .ok (.goto (-94), 3) := by decide +kernel
theorem dX0_valueAbove_156 : decode cX0_valueAbove 156 = .ok (.lload 4, 2) := by decide +kernel
theorem dX0_valueAbove_158 : decode cX0_valueAbove 158 = .ok (.lreturn, 1) := by decide +kernel
/-! ===== FlowMeters$Fit.valueAbove(LFlowMeters$Works;I)J ===== -/
def fX0_valueAbove_L59 (N : Nat) (n : Nat) (y3 : Int32) (y4 : Int64) (y6 : Int32) (d_t_unread : Int32) (d_t_below : Int64) (d_t_heaps_least : Nat → Int32) (d_t_sides_least : Nat → Int32) (d_t_rows : Nat → Nat → Int64) (d_w_flows : Int32) (d_w_from : Nat → Int32) (d_w_to : Nat → Int32) (d_w_reading : Nat → Int32) (d_w_miss : Nat → Int32) : Option (Int64) := match n with
  | 0 => none
  | n + 1 =>
    (if d_w_flows ≤ y6 then
        some y4
      else
        (fX4_holds d_t_unread y6).bind fun v14 =>
        (if v14 = 0 then
          (ya_rd d_w_to 10 y6).bind fun v19 =>
          (ya_rd d_t_sides_least 6 v19).bind fun v21 =>
          (if v21 = y3 then
            (fX0_fittedAbove d_t_below d_t_heaps_least d_t_rows d_w_from d_w_to d_w_reading d_w_miss y6).bind fun v41 =>
            ya_lt (y4 + v41) fun v43 =>
            (ya_rd d_w_from 10 y6).bind fun v45 =>
            (ya_rd d_t_sides_least 6 v45).bind fun v47 =>
            (if v47 = y3 then
              (fX0_fittedAbove d_t_below d_t_heaps_least d_t_rows d_w_from d_w_to d_w_reading d_w_miss y6).bind fun v54 =>
              ya_lt (v43 - v54) fun v56 =>
              ya_lt (y6 + 1) fun v58 =>
              fX0_valueAbove_L59 N n y3 v56 v58 d_t_unread d_t_below d_t_heaps_least d_t_sides_least d_t_rows d_w_flows d_w_from d_w_to d_w_reading d_w_miss
            else
              ya_lt (v43 - 0) fun v50 =>
              ya_lt (y6 + 1) fun v52 =>
              fX0_valueAbove_L59 N n y3 v50 v52 d_t_unread d_t_below d_t_heaps_least d_t_sides_least d_t_rows d_w_flows d_w_from d_w_to d_w_reading d_w_miss)
          else
            ya_lt (y4 + 0) fun v24 =>
            (ya_rd d_w_from 10 y6).bind fun v26 =>
            (ya_rd d_t_sides_least 6 v26).bind fun v28 =>
            (if v28 = y3 then
              (fX0_fittedAbove d_t_below d_t_heaps_least d_t_rows d_w_from d_w_to d_w_reading d_w_miss y6).bind fun v35 =>
              ya_lt (v24 - v35) fun v37 =>
              ya_lt (y6 + 1) fun v39 =>
              fX0_valueAbove_L59 N n y3 v37 v39 d_t_unread d_t_below d_t_heaps_least d_t_sides_least d_t_rows d_w_flows d_w_from d_w_to d_w_reading d_w_miss
            else
              ya_lt (v24 - 0) fun v31 =>
              ya_lt (y6 + 1) fun v33 =>
              fX0_valueAbove_L59 N n y3 v31 v33 d_t_unread d_t_below d_t_heaps_least d_t_sides_least d_t_rows d_w_flows d_w_from d_w_to d_w_reading d_w_miss))
        else
          ya_lt (y6 + 1) fun v17 =>
          fX0_valueAbove_L59 N n y3 y4 v17 d_t_unread d_t_below d_t_heaps_least d_t_sides_least d_t_rows d_w_flows d_w_from d_w_to d_w_reading d_w_miss))
def fX0_valueAbove (N : Nat) (c_t_unread : Int32) (c_t_below : Int64) (c_t_heaps_least : Nat → Int32) (c_t_sides_least : Nat → Int32) (c_t_rows : Nat → Nat → Int64) (c_w_flows : Int32) (c_w_from : Nat → Int32) (c_w_to : Nat → Int32) (c_w_reading : Nat → Int32) (c_w_miss : Nat → Int32) (x2 : Int32) : Option (Int64 × (Nat → Int32)) :=
  (fX4_holds c_t_unread x2).bind fun v1 =>
  (if v1 = 0 then
    (fX0_fittedAbove c_t_below c_t_heaps_least c_t_rows c_w_from c_w_to c_w_reading c_w_miss x2).bind fun v62 =>
    some (v62, c_t_sides_least)
  else
    (fX4_bit x2).bind fun v4 =>
    (fX1_gather N c_t_sides_least c_w_flows c_w_from c_w_to (c_t_unread &&& (v4 ^^^ (-1)))).bind fun (v6, v7) =>
    (ya_rd c_w_from 10 x2).bind fun v9 =>
    (ya_rd v7 6 v9).bind fun v11 =>
    (fX0_valueAbove_L59 N N v11 0 0 c_t_unread c_t_below c_t_heaps_least v7 c_t_rows c_w_flows c_w_from c_w_to c_w_reading c_w_miss).bind fun v60 =>
    some (v60, v7))
theorem fX0_valueAbove_33 : yF wsX0_valueAbove RX0 33 0 5 RX0 TX0 7 := ⟨rfl, by decide, by decide +kernel, by decide +kernel⟩
theorem fX0_valueAbove_21 : yF wsX0_valueAbove RX0 21 0 2 RX0 TX0 7 := ⟨rfl, by decide, by decide +kernel, by decide +kernel⟩
theorem fX0_valueAbove_62 : yF wsX0_valueAbove RX0 62 1 0 RX1 TX1 1 := ⟨rfl, by decide, by decide +kernel, by decide +kernel⟩
theorem fX0_valueAbove_80 : yF wsX0_valueAbove RX0 80 3 3 RX3 TX3 11 := ⟨rfl, by decide, by decide +kernel, by decide +kernel⟩
theorem fX0_valueAbove_70 : yF wsX0_valueAbove RX0 70 3 1 RX3 TX3 11 := ⟨rfl, by decide, by decide +kernel, by decide +kernel⟩
theorem fX0_valueAbove_83 : yF wsX0_valueAbove RX0 83 3 4 RX3 TX3 11 := ⟨rfl, by decide, by decide +kernel, by decide +kernel⟩
abbrev rmX0_valueAbove : Room := { frames := 3, cells := 0, slots := 0, locals := 97 }
theorem eX0_valueAbove : yY yX0_valueAbove wsX0_valueAbove cX0_valueAbove 7 (some .long) rmX0_valueAbove 2 := ⟨⟨_, rfl⟩, rfl, rfl, by decide, by decide, by decide +kernel⟩
set_option maxHeartbeats 4000000 in
set_option maxRecDepth 100000 in
theorem mX0_valueAbove {l : Launch} {D : va_G} {sz : Nat} {cI cJ cZ cW cR : ClassId} {N : Nat} {h_t : Nat} {h_w : Nat} {A_t : Nat → Nat} {A_t_heaps : Nat → Nat} {A_t_sides : Nat → Nat} {A_t_rows : Nat → Nat} {A_w : Nat → Nat} {c_t_unread : Int32} {c_t_below : Int64} {c_t_heaps_least : Nat → Int32} {c_t_sides_least : Nat → Int32} {c_t_rows : Nat → Nat → Int64} {c_w_knots : Int32} {c_w_flows : Int32} {c_w_readSet : Int32} {c_w_from : Nat → Int32} {c_w_to : Nat → Int32} {c_w_reading : Nat → Int32} {c_w_miss : Nat → Int32} {x2 : Int32} {r : Int64} {zc_t_sides_least : Nat → Int32} (hf : fX0_valueAbove N c_t_unread c_t_below c_t_heaps_least c_t_sides_least c_t_rows c_w_flows c_w_from c_w_to c_w_reading c_w_miss x2 = some (r, zc_t_sides_least)) : Met l yX0_valueAbove wsX0_valueAbove rmX0_valueAbove (yP D (yT cI cJ cZ cW cR) [(h_t, oF A_t c_t_unread c_t_below), (A_t 0, oG A_t_heaps), (A_t_heaps 0, eI cI 6 c_t_heaps_least), (A_t 2, oG A_t_sides), (A_t_sides 0, eI cI 6 c_t_sides_least), (A_t 3, eQ cR 6 A_t_rows), (A_t_rows 0, eJ cJ 7 (c_t_rows 0)), (A_t_rows 1, eJ cJ 7 (c_t_rows 1)), (A_t_rows 2, eJ cJ 7 (c_t_rows 2)), (A_t_rows 3, eJ cJ 7 (c_t_rows 3)), (A_t_rows 4, eJ cJ 7 (c_t_rows 4)), (A_t_rows 5, eJ cJ 7 (c_t_rows 5)), (h_w, oW A_w c_w_knots c_w_flows c_w_readSet), (A_w 0, eI cI 10 c_w_from), (A_w 1, eI cI 10 c_w_to), (A_w 2, eI cI 10 c_w_reading), (A_w 3, eI cI 10 c_w_miss)] sz [.ref h_t, .ref h_w, .int x2]) (yQl D (yT cI cJ cZ cW cR) r [(h_t, oF A_t c_t_unread c_t_below), (A_t 0, oG A_t_heaps), (A_t_heaps 0, eI cI 6 c_t_heaps_least), (A_t 2, oG A_t_sides), (A_t_sides 0, eI cI 6 zc_t_sides_least), (A_t 3, eQ cR 6 A_t_rows), (A_t_rows 0, eJ cJ 7 (c_t_rows 0)), (A_t_rows 1, eJ cJ 7 (c_t_rows 1)), (A_t_rows 2, eJ cJ 7 (c_t_rows 2)), (A_t_rows 3, eJ cJ 7 (c_t_rows 3)), (A_t_rows 4, eJ cJ 7 (c_t_rows 4)), (A_t_rows 5, eJ cJ 7 (c_t_rows 5)), (h_w, oW A_w c_w_knots c_w_flows c_w_readSet), (A_w 0, eI cI 10 c_w_from), (A_w 1, eI cI 10 c_w_to), (A_w 2, eI cI 10 c_w_reading), (A_w 3, eI cI 10 c_w_miss)] (va_A [(h_t, oF A_t c_t_unread c_t_below), (A_t 0, oG A_t_heaps), (A_t_heaps 0, eI cI 6 c_t_heaps_least), (A_t 2, oG A_t_sides), (A_t_sides 0, eI cI 6 c_t_sides_least), (A_t 3, eQ cR 6 A_t_rows), (A_t_rows 0, eJ cJ 7 (c_t_rows 0)), (A_t_rows 1, eJ cJ 7 (c_t_rows 1)), (A_t_rows 2, eJ cJ 7 (c_t_rows 2)), (A_t_rows 3, eJ cJ 7 (c_t_rows 3)), (A_t_rows 4, eJ cJ 7 (c_t_rows 4)), (A_t_rows 5, eJ cJ 7 (c_t_rows 5)), (h_w, oW A_w c_w_knots c_w_flows c_w_readSet), (A_w 0, eI cI 10 c_w_from), (A_w 1, eI cI 10 c_w_to), (A_w 2, eI cI 10 c_w_reading), (A_w 3, eI cI 10 c_w_miss)] sz)) 0 0 (va_A [(h_t, oF A_t c_t_unread c_t_below), (A_t 0, oG A_t_heaps), (A_t_heaps 0, eI cI 6 c_t_heaps_least), (A_t 2, oG A_t_sides), (A_t_sides 0, eI cI 6 c_t_sides_least), (A_t 3, eQ cR 6 A_t_rows), (A_t_rows 0, eJ cJ 7 (c_t_rows 0)), (A_t_rows 1, eJ cJ 7 (c_t_rows 1)), (A_t_rows 2, eJ cJ 7 (c_t_rows 2)), (A_t_rows 3, eJ cJ 7 (c_t_rows 3)), (A_t_rows 4, eJ cJ 7 (c_t_rows 4)), (A_t_rows 5, eJ cJ 7 (c_t_rows 5)), (h_w, oW A_w c_w_knots c_w_flows c_w_readSet), (A_w 0, eI cI 10 c_w_from), (A_w 1, eI cI 10 c_w_to), (A_w 2, eI cI 10 c_w_reading), (A_w 3, eI cI 10 c_w_miss)] sz) := by
  refine yM (cc := cX0_valueAbove) (maxL := 7) (ret := (some .long)) RX0 (by decide) rfl rfl (Nat.le_of_ble_eq_true rfl) ?_
  intro p e s m below meth c Γ hr
  have loop59 : ∀ (n : Nat) (y3 : Int32) (y4 : Int64) (y6 : Int32) (d_t_unread : Int32) (d_t_below : Int64) (d_t_heaps_least : Nat → Int32) (d_t_sides_least : Nat → Int32) (d_t_rows : Nat → Nat → Int64) (d_w_knots : Int32) (d_w_flows : Int32) (d_w_readSet : Int32) (d_w_from : Nat → Int32) (d_w_to : Nat → Int32) (d_w_reading : Nat → Int32) (d_w_miss : Nat → Int32) (w0 : Int64), fX0_valueAbove_L59 N n y3 y4 y6 d_t_unread d_t_below d_t_heaps_least d_t_sides_least d_t_rows d_w_flows d_w_from d_w_to d_w_reading d_w_miss = some w0 → yG p l e (headSpec wsX0_valueAbove rmX0_valueAbove).room s m (List.toArray [.ref h_t, .ref h_w, .int x2]) below meth c D (va_A [(h_t, oF A_t c_t_unread c_t_below), (A_t 0, oG A_t_heaps), (A_t_heaps 0, eI cI 6 c_t_heaps_least), (A_t 2, oG A_t_sides), (A_t_sides 0, eI cI 6 c_t_sides_least), (A_t 3, eQ cR 6 A_t_rows), (A_t_rows 0, eJ cJ 7 (c_t_rows 0)), (A_t_rows 1, eJ cJ 7 (c_t_rows 1)), (A_t_rows 2, eJ cJ 7 (c_t_rows 2)), (A_t_rows 3, eJ cJ 7 (c_t_rows 3)), (A_t_rows 4, eJ cJ 7 (c_t_rows 4)), (A_t_rows 5, eJ cJ 7 (c_t_rows 5)), (h_w, oW A_w c_w_knots c_w_flows c_w_readSet), (A_w 0, eI cI 10 c_w_from), (A_w 1, eI cI 10 c_w_to), (A_w 2, eI cI 10 c_w_reading), (A_w 3, eI cI 10 c_w_miss)] sz) 7 0 0 (MQ below (yQl D (yT cI cJ cZ cW cR) r [(h_t, oF A_t c_t_unread c_t_below), (A_t 0, oG A_t_heaps), (A_t_heaps 0, eI cI 6 c_t_heaps_least), (A_t 2, oG A_t_sides), (A_t_sides 0, eI cI 6 zc_t_sides_least), (A_t 3, eQ cR 6 A_t_rows), (A_t_rows 0, eJ cJ 7 (c_t_rows 0)), (A_t_rows 1, eJ cJ 7 (c_t_rows 1)), (A_t_rows 2, eJ cJ 7 (c_t_rows 2)), (A_t_rows 3, eJ cJ 7 (c_t_rows 3)), (A_t_rows 4, eJ cJ 7 (c_t_rows 4)), (A_t_rows 5, eJ cJ 7 (c_t_rows 5)), (h_w, oW A_w c_w_knots c_w_flows c_w_readSet), (A_w 0, eI cI 10 c_w_from), (A_w 1, eI cI 10 c_w_to), (A_w 2, eI cI 10 c_w_reading), (A_w 3, eI cI 10 c_w_miss)] (va_A [(h_t, oF A_t c_t_unread c_t_below), (A_t 0, oG A_t_heaps), (A_t_heaps 0, eI cI 6 c_t_heaps_least), (A_t 2, oG A_t_sides), (A_t_sides 0, eI cI 6 c_t_sides_least), (A_t 3, eQ cR 6 A_t_rows), (A_t_rows 0, eJ cJ 7 (c_t_rows 0)), (A_t_rows 1, eJ cJ 7 (c_t_rows 1)), (A_t_rows 2, eJ cJ 7 (c_t_rows 2)), (A_t_rows 3, eJ cJ 7 (c_t_rows 3)), (A_t_rows 4, eJ cJ 7 (c_t_rows 4)), (A_t_rows 5, eJ cJ 7 (c_t_rows 5)), (h_w, oW A_w c_w_knots c_w_flows c_w_readSet), (A_w 0, eI cI 10 c_w_from), (A_w 1, eI cI 10 c_w_to), (A_w 2, eI cI 10 c_w_reading), (A_w 3, eI cI 10 c_w_miss)] sz)) (List.toArray [.ref h_t, .ref h_w, .int x2]) s 0 0 (va_A [(h_t, oF A_t c_t_unread c_t_below), (A_t 0, oG A_t_heaps), (A_t_heaps 0, eI cI 6 c_t_heaps_least), (A_t 2, oG A_t_sides), (A_t_sides 0, eI cI 6 c_t_sides_least), (A_t 3, eQ cR 6 A_t_rows), (A_t_rows 0, eJ cJ 7 (c_t_rows 0)), (A_t_rows 1, eJ cJ 7 (c_t_rows 1)), (A_t_rows 2, eJ cJ 7 (c_t_rows 2)), (A_t_rows 3, eJ cJ 7 (c_t_rows 3)), (A_t_rows 4, eJ cJ 7 (c_t_rows 4)), (A_t_rows 5, eJ cJ 7 (c_t_rows 5)), (h_w, oW A_w c_w_knots c_w_flows c_w_readSet), (A_w 0, eI cI 10 c_w_from), (A_w 1, eI cI 10 c_w_to), (A_w 2, eI cI 10 c_w_reading), (A_w 3, eI cI 10 c_w_miss)] sz)) 156 [(4, .long w0)] [] [(h_t, oF A_t d_t_unread d_t_below), (A_t 0, oG A_t_heaps), (A_t_heaps 0, eI cI 6 d_t_heaps_least), (A_t 2, oG A_t_sides), (A_t_sides 0, eI cI 6 d_t_sides_least), (A_t 3, eQ cR 6 A_t_rows), (A_t_rows 0, eJ cJ 7 (d_t_rows 0)), (A_t_rows 1, eJ cJ 7 (d_t_rows 1)), (A_t_rows 2, eJ cJ 7 (d_t_rows 2)), (A_t_rows 3, eJ cJ 7 (d_t_rows 3)), (A_t_rows 4, eJ cJ 7 (d_t_rows 4)), (A_t_rows 5, eJ cJ 7 (d_t_rows 5)), (h_w, oW A_w d_w_knots d_w_flows d_w_readSet), (A_w 0, eI cI 10 d_w_from), (A_w 1, eI cI 10 d_w_to), (A_w 2, eI cI 10 d_w_reading), (A_w 3, eI cI 10 d_w_miss)] → yG p l e (headSpec wsX0_valueAbove rmX0_valueAbove).room s m (List.toArray [.ref h_t, .ref h_w, .int x2]) below meth c D (va_A [(h_t, oF A_t c_t_unread c_t_below), (A_t 0, oG A_t_heaps), (A_t_heaps 0, eI cI 6 c_t_heaps_least), (A_t 2, oG A_t_sides), (A_t_sides 0, eI cI 6 c_t_sides_least), (A_t 3, eQ cR 6 A_t_rows), (A_t_rows 0, eJ cJ 7 (c_t_rows 0)), (A_t_rows 1, eJ cJ 7 (c_t_rows 1)), (A_t_rows 2, eJ cJ 7 (c_t_rows 2)), (A_t_rows 3, eJ cJ 7 (c_t_rows 3)), (A_t_rows 4, eJ cJ 7 (c_t_rows 4)), (A_t_rows 5, eJ cJ 7 (c_t_rows 5)), (h_w, oW A_w c_w_knots c_w_flows c_w_readSet), (A_w 0, eI cI 10 c_w_from), (A_w 1, eI cI 10 c_w_to), (A_w 2, eI cI 10 c_w_reading), (A_w 3, eI cI 10 c_w_miss)] sz) 7 0 0 (MQ below (yQl D (yT cI cJ cZ cW cR) r [(h_t, oF A_t c_t_unread c_t_below), (A_t 0, oG A_t_heaps), (A_t_heaps 0, eI cI 6 c_t_heaps_least), (A_t 2, oG A_t_sides), (A_t_sides 0, eI cI 6 zc_t_sides_least), (A_t 3, eQ cR 6 A_t_rows), (A_t_rows 0, eJ cJ 7 (c_t_rows 0)), (A_t_rows 1, eJ cJ 7 (c_t_rows 1)), (A_t_rows 2, eJ cJ 7 (c_t_rows 2)), (A_t_rows 3, eJ cJ 7 (c_t_rows 3)), (A_t_rows 4, eJ cJ 7 (c_t_rows 4)), (A_t_rows 5, eJ cJ 7 (c_t_rows 5)), (h_w, oW A_w c_w_knots c_w_flows c_w_readSet), (A_w 0, eI cI 10 c_w_from), (A_w 1, eI cI 10 c_w_to), (A_w 2, eI cI 10 c_w_reading), (A_w 3, eI cI 10 c_w_miss)] (va_A [(h_t, oF A_t c_t_unread c_t_below), (A_t 0, oG A_t_heaps), (A_t_heaps 0, eI cI 6 c_t_heaps_least), (A_t 2, oG A_t_sides), (A_t_sides 0, eI cI 6 c_t_sides_least), (A_t 3, eQ cR 6 A_t_rows), (A_t_rows 0, eJ cJ 7 (c_t_rows 0)), (A_t_rows 1, eJ cJ 7 (c_t_rows 1)), (A_t_rows 2, eJ cJ 7 (c_t_rows 2)), (A_t_rows 3, eJ cJ 7 (c_t_rows 3)), (A_t_rows 4, eJ cJ 7 (c_t_rows 4)), (A_t_rows 5, eJ cJ 7 (c_t_rows 5)), (h_w, oW A_w c_w_knots c_w_flows c_w_readSet), (A_w 0, eI cI 10 c_w_from), (A_w 1, eI cI 10 c_w_to), (A_w 2, eI cI 10 c_w_reading), (A_w 3, eI cI 10 c_w_miss)] sz)) (List.toArray [.ref h_t, .ref h_w, .int x2]) s 0 0 (va_A [(h_t, oF A_t c_t_unread c_t_below), (A_t 0, oG A_t_heaps), (A_t_heaps 0, eI cI 6 c_t_heaps_least), (A_t 2, oG A_t_sides), (A_t_sides 0, eI cI 6 c_t_sides_least), (A_t 3, eQ cR 6 A_t_rows), (A_t_rows 0, eJ cJ 7 (c_t_rows 0)), (A_t_rows 1, eJ cJ 7 (c_t_rows 1)), (A_t_rows 2, eJ cJ 7 (c_t_rows 2)), (A_t_rows 3, eJ cJ 7 (c_t_rows 3)), (A_t_rows 4, eJ cJ 7 (c_t_rows 4)), (A_t_rows 5, eJ cJ 7 (c_t_rows 5)), (h_w, oW A_w c_w_knots c_w_flows c_w_readSet), (A_w 0, eI cI 10 c_w_from), (A_w 1, eI cI 10 c_w_to), (A_w 2, eI cI 10 c_w_reading), (A_w 3, eI cI 10 c_w_miss)] sz)) 59 [(0, .ref h_t), (1, .ref h_w), (3, .int y3), (4, .long y4), (6, .int y6)] [] [(h_t, oF A_t d_t_unread d_t_below), (A_t 0, oG A_t_heaps), (A_t_heaps 0, eI cI 6 d_t_heaps_least), (A_t 2, oG A_t_sides), (A_t_sides 0, eI cI 6 d_t_sides_least), (A_t 3, eQ cR 6 A_t_rows), (A_t_rows 0, eJ cJ 7 (d_t_rows 0)), (A_t_rows 1, eJ cJ 7 (d_t_rows 1)), (A_t_rows 2, eJ cJ 7 (d_t_rows 2)), (A_t_rows 3, eJ cJ 7 (d_t_rows 3)), (A_t_rows 4, eJ cJ 7 (d_t_rows 4)), (A_t_rows 5, eJ cJ 7 (d_t_rows 5)), (h_w, oW A_w d_w_knots d_w_flows d_w_readSet), (A_w 0, eI cI 10 d_w_from), (A_w 1, eI cI 10 d_w_to), (A_w 2, eI cI 10 d_w_reading), (A_w 3, eI cI 10 d_w_miss)] := by
    intro n
    induction n with
    | zero =>
      intro y3 y4 y6 d_t_unread d_t_below d_t_heaps_least d_t_sides_least d_t_rows d_w_knots d_w_flows d_w_readSet d_w_from d_w_to d_w_reading d_w_miss w0 hf
      cases hf
    | succ n ih =>
      intro y3 y4 y6 d_t_unread d_t_below d_t_heaps_least d_t_sides_least d_t_rows d_w_knots d_w_flows d_w_readSet d_w_from d_w_to d_w_reading d_w_miss w0 hf hk
      unfold fX0_valueAbove_L59 at hf
      refine g_iload Γ 4 dX0_valueAbove_59 rfl ?_
      refine g_aload_n Γ 1 dX0_valueAbove_61 rfl ?_
      refine g_get Γ fX0_valueAbove_70 12 rfl rfl dX0_valueAbove_62 ?_
      refine g_icmp_ge Γ 156 dX0_valueAbove_65 (by decide) (fun c13 => ?_) (fun c13 => ?_)
      · have hf := ya_if1 c13 hf
        cases hf
        refine g_lv [3] rfl ?_
        exact hk
      · have hf := ya_if2 c13 hf
        refine g_aload_n Γ 0 dX0_valueAbove_68 rfl ?_
        refine g_get Γ fX0_valueAbove_33 0 rfl rfl dX0_valueAbove_69 ?_
        refine g_iload Γ 4 dX0_valueAbove_72 rfl ?_
        obtain ⟨v14, e15, hf⟩ := ya_ob hf
        refine g_ni (wr := [(h_t, oF A_t d_t_unread d_t_below), (A_t 0, oG A_t_heaps), (A_t_heaps 0, eI cI 6 d_t_heaps_least), (A_t 2, oG A_t_sides), (A_t_sides 0, eI cI 6 d_t_sides_least), (A_t 3, eQ cR 6 A_t_rows), (A_t_rows 0, eJ cJ 7 (d_t_rows 0)), (A_t_rows 1, eJ cJ 7 (d_t_rows 1)), (A_t_rows 2, eJ cJ 7 (d_t_rows 2)), (A_t_rows 3, eJ cJ 7 (d_t_rows 3)), (A_t_rows 4, eJ cJ 7 (d_t_rows 4)), (A_t_rows 5, eJ cJ 7 (d_t_rows 5)), (h_w, oW A_w d_w_knots d_w_flows d_w_readSet), (A_w 0, eI cI 10 d_w_from), (A_w 1, eI cI 10 d_w_to), (A_w 2, eI cI 10 d_w_reading), (A_w 3, eI cI 10 d_w_miss)]) (ws' := [(h_t, oF A_t d_t_unread d_t_below), (A_t 0, oG A_t_heaps), (A_t_heaps 0, eI cI 6 d_t_heaps_least), (A_t 2, oG A_t_sides), (A_t_sides 0, eI cI 6 d_t_sides_least), (A_t 3, eQ cR 6 A_t_rows), (A_t_rows 0, eJ cJ 7 (d_t_rows 0)), (A_t_rows 1, eJ cJ 7 (d_t_rows 1)), (A_t_rows 2, eJ cJ 7 (d_t_rows 2)), (A_t_rows 3, eJ cJ 7 (d_t_rows 3)), (A_t_rows 4, eJ cJ 7 (d_t_rows 4)), (A_t_rows 5, eJ cJ 7 (d_t_rows 5)), (h_w, oW A_w d_w_knots d_w_flows d_w_readSet), (A_w 0, eI cI 10 d_w_from), (A_w 1, eI cI 10 d_w_to), (A_w 2, eI cI 10 d_w_reading), (A_w 3, eI cI 10 d_w_miss)]) Γ (fun sz => mX4_holds (l := l) (D := D) (sz := sz) (cI := cI) (cJ := cJ) (cZ := cZ) (cW := cW) (cR := cR)  (hf := e15)) eX4_holds ggX0_valueAbove_X4_holds (by decide +kernel) (by decide +kernel) (by decide +kernel) rfl rfl (Nat.le_of_ble_eq_true rfl) ⟨Nat.le_of_ble_eq_true rfl, Nat.le_of_ble_eq_true rfl⟩ dX0_valueAbove_74 [] [0, 1, 2, 3, 4, 5, 6, 7, 8, 9, 10, 11, 12, 13, 14, 15, 16] rfl rfl rfl rfl (by decide) rfl ?_
        refine g_if_ne Γ 150 dX0_valueAbove_77 (by decide) (fun c16 => ?_) (fun c16 => ?_)
        · have hf := ya_if2 c16 hf
          obtain ⟨v17, e18, hf⟩ := ya_lt_inv hf
          refine g_iinc (lv' := [(6, .int v17), (0, .ref h_t), (1, .ref h_w), (3, .int y3), (4, .long y4)]) Γ 4 dX0_valueAbove_150 rfl (by rw [e18]; rfl) (by decide) rfl ?_
          refine g_goto Γ 59 dX0_valueAbove_153 (by decide) ?_
          refine g_lv [1, 2, 3, 4, 0] rfl ?_
          exact ih _ _ _ _ _ _ _ _ _ _ _ _ _ _ _ _ hf hk
        · have hf := ya_if1 c16 hf
          refine g_lload Γ 3 dX0_valueAbove_80 rfl ?_
          refine g_aload_n Γ 0 dX0_valueAbove_82 rfl ?_
          refine g_get Γ fX0_valueAbove_21 0 rfl rfl dX0_valueAbove_83 ?_
          refine g_get Γ fX0_valueAbove_62 3 rfl rfl dX0_valueAbove_86 ?_
          refine g_aload_n Γ 1 dX0_valueAbove_89 rfl ?_
          refine g_get Γ fX0_valueAbove_83 12 rfl rfl dX0_valueAbove_90 ?_
          refine g_iload Γ 4 dX0_valueAbove_93 rfl ?_
          obtain ⟨v19, e20, hf⟩ := ya_ob hf
          refine g_iald Γ e20 14 0 rfl rfl dX0_valueAbove_95 ?_
          obtain ⟨v21, e22, hf⟩ := ya_ob hf
          refine g_iald Γ e22 4 0 rfl rfl dX0_valueAbove_96 ?_
          refine g_iload_n Γ 2 dX0_valueAbove_97 rfl ?_
          refine g_icmp_ne Γ 111 dX0_valueAbove_98 (by decide) (fun c23 => ?_) (fun c23 => ?_)
          · have hf := ya_if2 c23 hf
            refine g_lconst (v := 0) Γ dX0_valueAbove_111 (by decide) ?_
            refine g_ladd Γ dX0_valueAbove_112 ?_
            obtain ⟨v24, e25, hf⟩ := ya_lt_inv hf
            refine g_nml e25 ?_
            refine g_lstore (lv' := [(4, .long v24), (0, .ref h_t), (1, .ref h_w), (3, .int y3), (6, .int y6)]) Γ dX0_valueAbove_113 (by decide) rfl ?_
            refine g_lload Γ 0 dX0_valueAbove_115 rfl ?_
            refine g_aload_n Γ 1 dX0_valueAbove_117 rfl ?_
            refine g_get Γ fX0_valueAbove_21 0 rfl rfl dX0_valueAbove_118 ?_
            refine g_get Γ fX0_valueAbove_62 3 rfl rfl dX0_valueAbove_121 ?_
            refine g_aload_n Γ 2 dX0_valueAbove_124 rfl ?_
            refine g_get Γ fX0_valueAbove_80 12 rfl rfl dX0_valueAbove_125 ?_
            refine g_iload Γ 4 dX0_valueAbove_128 rfl ?_
            obtain ⟨v26, e27, hf⟩ := ya_ob hf
            refine g_iald Γ e27 13 0 rfl rfl dX0_valueAbove_130 ?_
            obtain ⟨v28, e29, hf⟩ := ya_ob hf
            refine g_iald Γ e29 4 0 rfl rfl dX0_valueAbove_131 ?_
            refine g_iload_n Γ 3 dX0_valueAbove_132 rfl ?_
            refine g_icmp_ne Γ 146 dX0_valueAbove_133 (by decide) (fun c30 => ?_) (fun c30 => ?_)
            · have hf := ya_if2 c30 hf
              refine g_lconst (v := 0) Γ dX0_valueAbove_146 (by decide) ?_
              refine g_lsub Γ dX0_valueAbove_147 ?_
              obtain ⟨v31, e32, hf⟩ := ya_lt_inv hf
              refine g_nml e32 ?_
              refine g_lstore (lv' := [(4, .long v31), (0, .ref h_t), (1, .ref h_w), (3, .int y3), (6, .int y6)]) Γ dX0_valueAbove_148 (by decide) rfl ?_
              obtain ⟨v33, e34, hf⟩ := ya_lt_inv hf
              refine g_iinc (lv' := [(6, .int v33), (4, .long v31), (0, .ref h_t), (1, .ref h_w), (3, .int y3)]) Γ 4 dX0_valueAbove_150 rfl (by rw [e34]; rfl) (by decide) rfl ?_
              refine g_goto Γ 59 dX0_valueAbove_153 (by decide) ?_
              refine g_lv [2, 3, 4, 1, 0] rfl ?_
              exact ih _ _ _ _ _ _ _ _ _ _ _ _ _ _ _ _ hf hk
            · have hf := ya_if1 c30 hf
              refine g_aload_n Γ 1 dX0_valueAbove_136 rfl ?_
              refine g_aload_n Γ 2 dX0_valueAbove_137 rfl ?_
              refine g_iload Γ 4 dX0_valueAbove_138 rfl ?_
              obtain ⟨v35, e36, hf⟩ := ya_ob hf
              refine g_vl (q := (RX0, TX0, 7)) (wr := [(A_t 2, oG A_t_sides), (A_t_sides 0, eI cI 6 d_t_sides_least)]) (ws' := [(A_t 2, oG A_t_sides), (A_t_sides 0, eI cI 6 d_t_sides_least), (h_t, oF A_t d_t_unread d_t_below), (A_t 0, oG A_t_heaps), (A_t_heaps 0, eI cI 6 d_t_heaps_least), (A_t 3, eQ cR 6 A_t_rows), (A_t_rows 0, eJ cJ 7 (d_t_rows 0)), (A_t_rows 1, eJ cJ 7 (d_t_rows 1)), (A_t_rows 2, eJ cJ 7 (d_t_rows 2)), (A_t_rows 3, eJ cJ 7 (d_t_rows 3)), (A_t_rows 4, eJ cJ 7 (d_t_rows 4)), (A_t_rows 5, eJ cJ 7 (d_t_rows 5)), (h_w, oW A_w d_w_knots d_w_flows d_w_readSet), (A_w 0, eI cI 10 d_w_from), (A_w 1, eI cI 10 d_w_to), (A_w 2, eI cI 10 d_w_reading), (A_w 3, eI cI 10 d_w_miss)]) Γ (fun sz => mX0_fittedAbove (l := l) (D := D) (sz := sz) (cI := cI) (cJ := cJ) (cZ := cZ) (cW := cW) (cR := cR) (h_t := h_t) (h_w := h_w) (A_t := A_t) (A_t_heaps := A_t_heaps) (A_t_rows := A_t_rows) (A_w := A_w) (hf := e36)) eX0_fittedAbove gX0_valueAbove_X0_fittedAbove rfl rfl 0 rfl rfl rfl (Nat.le_of_ble_eq_true rfl) ⟨Nat.le_of_ble_eq_true rfl, Nat.le_of_ble_eq_true rfl⟩ dX0_valueAbove_140 [0, 1, 2, 5, 6, 7, 8, 9, 10, 11, 12, 13, 14, 15, 16] [3, 4] rfl rfl rfl rfl (by decide) rfl ?_
              refine g_goto Γ 147 dX0_valueAbove_143 (by decide) ?_
              refine g_lsub Γ dX0_valueAbove_147 ?_
              obtain ⟨v37, e38, hf⟩ := ya_lt_inv hf
              refine g_nml e38 ?_
              refine g_lstore (lv' := [(4, .long v37), (0, .ref h_t), (1, .ref h_w), (3, .int y3), (6, .int y6)]) Γ dX0_valueAbove_148 (by decide) rfl ?_
              obtain ⟨v39, e40, hf⟩ := ya_lt_inv hf
              refine g_iinc (lv' := [(6, .int v39), (4, .long v37), (0, .ref h_t), (1, .ref h_w), (3, .int y3)]) Γ 4 dX0_valueAbove_150 rfl (by rw [e40]; rfl) (by decide) rfl ?_
              refine g_goto Γ 59 dX0_valueAbove_153 (by decide) ?_
              refine g_lv [2, 3, 4, 1, 0] rfl ?_
              refine g_ws (ws' := [(h_t, oF A_t d_t_unread d_t_below), (A_t 0, oG A_t_heaps), (A_t_heaps 0, eI cI 6 d_t_heaps_least), (A_t 2, oG A_t_sides), (A_t_sides 0, eI cI 6 d_t_sides_least), (A_t 3, eQ cR 6 A_t_rows), (A_t_rows 0, eJ cJ 7 (d_t_rows 0)), (A_t_rows 1, eJ cJ 7 (d_t_rows 1)), (A_t_rows 2, eJ cJ 7 (d_t_rows 2)), (A_t_rows 3, eJ cJ 7 (d_t_rows 3)), (A_t_rows 4, eJ cJ 7 (d_t_rows 4)), (A_t_rows 5, eJ cJ 7 (d_t_rows 5)), (h_w, oW A_w d_w_knots d_w_flows d_w_readSet), (A_w 0, eI cI 10 d_w_from), (A_w 1, eI cI 10 d_w_to), (A_w 2, eI cI 10 d_w_reading), (A_w 3, eI cI 10 d_w_miss)]) [2, 3, 4, 0, 1, 5, 6, 7, 8, 9, 10, 11, 12, 13, 14, 15, 16] rfl rfl ?_
              exact ih _ _ _ _ _ _ _ _ _ _ _ _ _ _ _ _ hf hk
          · have hf := ya_if1 c23 hf
            refine g_aload_n Γ 0 dX0_valueAbove_101 rfl ?_
            refine g_aload_n Γ 1 dX0_valueAbove_102 rfl ?_
            refine g_iload Γ 4 dX0_valueAbove_103 rfl ?_
            obtain ⟨v41, e42, hf⟩ := ya_ob hf
            refine g_vl (q := (RX0, TX0, 7)) (wr := [(A_t 2, oG A_t_sides), (A_t_sides 0, eI cI 6 d_t_sides_least)]) (ws' := [(A_t 2, oG A_t_sides), (A_t_sides 0, eI cI 6 d_t_sides_least), (h_t, oF A_t d_t_unread d_t_below), (A_t 0, oG A_t_heaps), (A_t_heaps 0, eI cI 6 d_t_heaps_least), (A_t 3, eQ cR 6 A_t_rows), (A_t_rows 0, eJ cJ 7 (d_t_rows 0)), (A_t_rows 1, eJ cJ 7 (d_t_rows 1)), (A_t_rows 2, eJ cJ 7 (d_t_rows 2)), (A_t_rows 3, eJ cJ 7 (d_t_rows 3)), (A_t_rows 4, eJ cJ 7 (d_t_rows 4)), (A_t_rows 5, eJ cJ 7 (d_t_rows 5)), (h_w, oW A_w d_w_knots d_w_flows d_w_readSet), (A_w 0, eI cI 10 d_w_from), (A_w 1, eI cI 10 d_w_to), (A_w 2, eI cI 10 d_w_reading), (A_w 3, eI cI 10 d_w_miss)]) Γ (fun sz => mX0_fittedAbove (l := l) (D := D) (sz := sz) (cI := cI) (cJ := cJ) (cZ := cZ) (cW := cW) (cR := cR) (h_t := h_t) (h_w := h_w) (A_t := A_t) (A_t_heaps := A_t_heaps) (A_t_rows := A_t_rows) (A_w := A_w) (hf := e42)) eX0_fittedAbove gX0_valueAbove_X0_fittedAbove rfl rfl 0 rfl rfl rfl (Nat.le_of_ble_eq_true rfl) ⟨Nat.le_of_ble_eq_true rfl, Nat.le_of_ble_eq_true rfl⟩ dX0_valueAbove_105 [0, 1, 2, 5, 6, 7, 8, 9, 10, 11, 12, 13, 14, 15, 16] [3, 4] rfl rfl rfl rfl (by decide) rfl ?_
            refine g_goto Γ 112 dX0_valueAbove_108 (by decide) ?_
            refine g_ladd Γ dX0_valueAbove_112 ?_
            obtain ⟨v43, e44, hf⟩ := ya_lt_inv hf
            refine g_nml e44 ?_
            refine g_lstore (lv' := [(4, .long v43), (0, .ref h_t), (1, .ref h_w), (3, .int y3), (6, .int y6)]) Γ dX0_valueAbove_113 (by decide) rfl ?_
            refine g_lload Γ 0 dX0_valueAbove_115 rfl ?_
            refine g_aload_n Γ 1 dX0_valueAbove_117 rfl ?_
            refine g_get Γ fX0_valueAbove_21 2 rfl rfl dX0_valueAbove_118 ?_
            refine g_get Γ fX0_valueAbove_62 0 rfl rfl dX0_valueAbove_121 ?_
            refine g_aload_n Γ 2 dX0_valueAbove_124 rfl ?_
            refine g_get Γ fX0_valueAbove_80 12 rfl rfl dX0_valueAbove_125 ?_
            refine g_iload Γ 4 dX0_valueAbove_128 rfl ?_
            obtain ⟨v45, e46, hf⟩ := ya_ob hf
            refine g_iald Γ e46 13 0 rfl rfl dX0_valueAbove_130 ?_
            obtain ⟨v47, e48, hf⟩ := ya_ob hf
            refine g_iald Γ e48 1 0 rfl rfl dX0_valueAbove_131 ?_
            refine g_iload_n Γ 3 dX0_valueAbove_132 rfl ?_
            refine g_icmp_ne Γ 146 dX0_valueAbove_133 (by decide) (fun c49 => ?_) (fun c49 => ?_)
            · have hf := ya_if2 c49 hf
              refine g_lconst (v := 0) Γ dX0_valueAbove_146 (by decide) ?_
              refine g_lsub Γ dX0_valueAbove_147 ?_
              obtain ⟨v50, e51, hf⟩ := ya_lt_inv hf
              refine g_nml e51 ?_
              refine g_lstore (lv' := [(4, .long v50), (0, .ref h_t), (1, .ref h_w), (3, .int y3), (6, .int y6)]) Γ dX0_valueAbove_148 (by decide) rfl ?_
              obtain ⟨v52, e53, hf⟩ := ya_lt_inv hf
              refine g_iinc (lv' := [(6, .int v52), (4, .long v50), (0, .ref h_t), (1, .ref h_w), (3, .int y3)]) Γ 4 dX0_valueAbove_150 rfl (by rw [e53]; rfl) (by decide) rfl ?_
              refine g_goto Γ 59 dX0_valueAbove_153 (by decide) ?_
              refine g_lv [2, 3, 4, 1, 0] rfl ?_
              refine g_ws (ws' := [(h_t, oF A_t d_t_unread d_t_below), (A_t 0, oG A_t_heaps), (A_t_heaps 0, eI cI 6 d_t_heaps_least), (A_t 2, oG A_t_sides), (A_t_sides 0, eI cI 6 d_t_sides_least), (A_t 3, eQ cR 6 A_t_rows), (A_t_rows 0, eJ cJ 7 (d_t_rows 0)), (A_t_rows 1, eJ cJ 7 (d_t_rows 1)), (A_t_rows 2, eJ cJ 7 (d_t_rows 2)), (A_t_rows 3, eJ cJ 7 (d_t_rows 3)), (A_t_rows 4, eJ cJ 7 (d_t_rows 4)), (A_t_rows 5, eJ cJ 7 (d_t_rows 5)), (h_w, oW A_w d_w_knots d_w_flows d_w_readSet), (A_w 0, eI cI 10 d_w_from), (A_w 1, eI cI 10 d_w_to), (A_w 2, eI cI 10 d_w_reading), (A_w 3, eI cI 10 d_w_miss)]) [2, 3, 4, 0, 1, 5, 6, 7, 8, 9, 10, 11, 12, 13, 14, 15, 16] rfl rfl ?_
              exact ih _ _ _ _ _ _ _ _ _ _ _ _ _ _ _ _ hf hk
            · have hf := ya_if1 c49 hf
              refine g_aload_n Γ 1 dX0_valueAbove_136 rfl ?_
              refine g_aload_n Γ 2 dX0_valueAbove_137 rfl ?_
              refine g_iload Γ 4 dX0_valueAbove_138 rfl ?_
              obtain ⟨v54, e55, hf⟩ := ya_ob hf
              refine g_vl (q := (RX0, TX0, 7)) (wr := [(A_t 2, oG A_t_sides), (A_t_sides 0, eI cI 6 d_t_sides_least)]) (ws' := [(A_t 2, oG A_t_sides), (A_t_sides 0, eI cI 6 d_t_sides_least), (h_t, oF A_t d_t_unread d_t_below), (A_t 0, oG A_t_heaps), (A_t_heaps 0, eI cI 6 d_t_heaps_least), (A_t 3, eQ cR 6 A_t_rows), (A_t_rows 0, eJ cJ 7 (d_t_rows 0)), (A_t_rows 1, eJ cJ 7 (d_t_rows 1)), (A_t_rows 2, eJ cJ 7 (d_t_rows 2)), (A_t_rows 3, eJ cJ 7 (d_t_rows 3)), (A_t_rows 4, eJ cJ 7 (d_t_rows 4)), (A_t_rows 5, eJ cJ 7 (d_t_rows 5)), (h_w, oW A_w d_w_knots d_w_flows d_w_readSet), (A_w 0, eI cI 10 d_w_from), (A_w 1, eI cI 10 d_w_to), (A_w 2, eI cI 10 d_w_reading), (A_w 3, eI cI 10 d_w_miss)]) Γ (fun sz => mX0_fittedAbove (l := l) (D := D) (sz := sz) (cI := cI) (cJ := cJ) (cZ := cZ) (cW := cW) (cR := cR) (h_t := h_t) (h_w := h_w) (A_t := A_t) (A_t_heaps := A_t_heaps) (A_t_rows := A_t_rows) (A_w := A_w) (hf := e55)) eX0_fittedAbove gX0_valueAbove_X0_fittedAbove rfl rfl 0 rfl rfl rfl (Nat.le_of_ble_eq_true rfl) ⟨Nat.le_of_ble_eq_true rfl, Nat.le_of_ble_eq_true rfl⟩ dX0_valueAbove_140 [2, 3, 4, 5, 6, 7, 8, 9, 10, 11, 12, 13, 14, 15, 16] [0, 1] rfl rfl rfl rfl (by decide) rfl ?_
              refine g_goto Γ 147 dX0_valueAbove_143 (by decide) ?_
              refine g_lsub Γ dX0_valueAbove_147 ?_
              obtain ⟨v56, e57, hf⟩ := ya_lt_inv hf
              refine g_nml e57 ?_
              refine g_lstore (lv' := [(4, .long v56), (0, .ref h_t), (1, .ref h_w), (3, .int y3), (6, .int y6)]) Γ dX0_valueAbove_148 (by decide) rfl ?_
              obtain ⟨v58, e59, hf⟩ := ya_lt_inv hf
              refine g_iinc (lv' := [(6, .int v58), (4, .long v56), (0, .ref h_t), (1, .ref h_w), (3, .int y3)]) Γ 4 dX0_valueAbove_150 rfl (by rw [e59]; rfl) (by decide) rfl ?_
              refine g_goto Γ 59 dX0_valueAbove_153 (by decide) ?_
              refine g_lv [2, 3, 4, 1, 0] rfl ?_
              refine g_ws (ws' := [(h_t, oF A_t d_t_unread d_t_below), (A_t 0, oG A_t_heaps), (A_t_heaps 0, eI cI 6 d_t_heaps_least), (A_t 2, oG A_t_sides), (A_t_sides 0, eI cI 6 d_t_sides_least), (A_t 3, eQ cR 6 A_t_rows), (A_t_rows 0, eJ cJ 7 (d_t_rows 0)), (A_t_rows 1, eJ cJ 7 (d_t_rows 1)), (A_t_rows 2, eJ cJ 7 (d_t_rows 2)), (A_t_rows 3, eJ cJ 7 (d_t_rows 3)), (A_t_rows 4, eJ cJ 7 (d_t_rows 4)), (A_t_rows 5, eJ cJ 7 (d_t_rows 5)), (h_w, oW A_w d_w_knots d_w_flows d_w_readSet), (A_w 0, eI cI 10 d_w_from), (A_w 1, eI cI 10 d_w_to), (A_w 2, eI cI 10 d_w_reading), (A_w 3, eI cI 10 d_w_miss)]) [2, 3, 4, 0, 1, 5, 6, 7, 8, 9, 10, 11, 12, 13, 14, 15, 16] rfl rfl ?_
              exact ih _ _ _ _ _ _ _ _ _ _ _ _ _ _ _ _ hf hk
  show yG p l e (headSpec wsX0_valueAbove rmX0_valueAbove).room s m (List.toArray [.ref h_t, .ref h_w, .int x2]) below meth c D (va_A [(h_t, oF A_t c_t_unread c_t_below), (A_t 0, oG A_t_heaps), (A_t_heaps 0, eI cI 6 c_t_heaps_least), (A_t 2, oG A_t_sides), (A_t_sides 0, eI cI 6 c_t_sides_least), (A_t 3, eQ cR 6 A_t_rows), (A_t_rows 0, eJ cJ 7 (c_t_rows 0)), (A_t_rows 1, eJ cJ 7 (c_t_rows 1)), (A_t_rows 2, eJ cJ 7 (c_t_rows 2)), (A_t_rows 3, eJ cJ 7 (c_t_rows 3)), (A_t_rows 4, eJ cJ 7 (c_t_rows 4)), (A_t_rows 5, eJ cJ 7 (c_t_rows 5)), (h_w, oW A_w c_w_knots c_w_flows c_w_readSet), (A_w 0, eI cI 10 c_w_from), (A_w 1, eI cI 10 c_w_to), (A_w 2, eI cI 10 c_w_reading), (A_w 3, eI cI 10 c_w_miss)] sz) 7 0 0 (MQ below (yQl D (yT cI cJ cZ cW cR) r [(h_t, oF A_t c_t_unread c_t_below), (A_t 0, oG A_t_heaps), (A_t_heaps 0, eI cI 6 c_t_heaps_least), (A_t 2, oG A_t_sides), (A_t_sides 0, eI cI 6 zc_t_sides_least), (A_t 3, eQ cR 6 A_t_rows), (A_t_rows 0, eJ cJ 7 (c_t_rows 0)), (A_t_rows 1, eJ cJ 7 (c_t_rows 1)), (A_t_rows 2, eJ cJ 7 (c_t_rows 2)), (A_t_rows 3, eJ cJ 7 (c_t_rows 3)), (A_t_rows 4, eJ cJ 7 (c_t_rows 4)), (A_t_rows 5, eJ cJ 7 (c_t_rows 5)), (h_w, oW A_w c_w_knots c_w_flows c_w_readSet), (A_w 0, eI cI 10 c_w_from), (A_w 1, eI cI 10 c_w_to), (A_w 2, eI cI 10 c_w_reading), (A_w 3, eI cI 10 c_w_miss)] (va_A [(h_t, oF A_t c_t_unread c_t_below), (A_t 0, oG A_t_heaps), (A_t_heaps 0, eI cI 6 c_t_heaps_least), (A_t 2, oG A_t_sides), (A_t_sides 0, eI cI 6 c_t_sides_least), (A_t 3, eQ cR 6 A_t_rows), (A_t_rows 0, eJ cJ 7 (c_t_rows 0)), (A_t_rows 1, eJ cJ 7 (c_t_rows 1)), (A_t_rows 2, eJ cJ 7 (c_t_rows 2)), (A_t_rows 3, eJ cJ 7 (c_t_rows 3)), (A_t_rows 4, eJ cJ 7 (c_t_rows 4)), (A_t_rows 5, eJ cJ 7 (c_t_rows 5)), (h_w, oW A_w c_w_knots c_w_flows c_w_readSet), (A_w 0, eI cI 10 c_w_from), (A_w 1, eI cI 10 c_w_to), (A_w 2, eI cI 10 c_w_reading), (A_w 3, eI cI 10 c_w_miss)] sz)) (List.toArray [.ref h_t, .ref h_w, .int x2]) s 0 0 (va_A [(h_t, oF A_t c_t_unread c_t_below), (A_t 0, oG A_t_heaps), (A_t_heaps 0, eI cI 6 c_t_heaps_least), (A_t 2, oG A_t_sides), (A_t_sides 0, eI cI 6 c_t_sides_least), (A_t 3, eQ cR 6 A_t_rows), (A_t_rows 0, eJ cJ 7 (c_t_rows 0)), (A_t_rows 1, eJ cJ 7 (c_t_rows 1)), (A_t_rows 2, eJ cJ 7 (c_t_rows 2)), (A_t_rows 3, eJ cJ 7 (c_t_rows 3)), (A_t_rows 4, eJ cJ 7 (c_t_rows 4)), (A_t_rows 5, eJ cJ 7 (c_t_rows 5)), (h_w, oW A_w c_w_knots c_w_flows c_w_readSet), (A_w 0, eI cI 10 c_w_from), (A_w 1, eI cI 10 c_w_to), (A_w 2, eI cI 10 c_w_reading), (A_w 3, eI cI 10 c_w_miss)] sz)) 0 [(0, .ref h_t), (1, .ref h_w), (2, .int x2)] [] [(h_t, oF A_t c_t_unread c_t_below), (A_t 0, oG A_t_heaps), (A_t_heaps 0, eI cI 6 c_t_heaps_least), (A_t 2, oG A_t_sides), (A_t_sides 0, eI cI 6 c_t_sides_least), (A_t 3, eQ cR 6 A_t_rows), (A_t_rows 0, eJ cJ 7 (c_t_rows 0)), (A_t_rows 1, eJ cJ 7 (c_t_rows 1)), (A_t_rows 2, eJ cJ 7 (c_t_rows 2)), (A_t_rows 3, eJ cJ 7 (c_t_rows 3)), (A_t_rows 4, eJ cJ 7 (c_t_rows 4)), (A_t_rows 5, eJ cJ 7 (c_t_rows 5)), (h_w, oW A_w c_w_knots c_w_flows c_w_readSet), (A_w 0, eI cI 10 c_w_from), (A_w 1, eI cI 10 c_w_to), (A_w 2, eI cI 10 c_w_reading), (A_w 3, eI cI 10 c_w_miss)]
  unfold fX0_valueAbove at hf
  refine g_aload_n Γ 0 dX0_valueAbove_0 rfl ?_
  refine g_get Γ fX0_valueAbove_33 0 rfl rfl dX0_valueAbove_1 ?_
  refine g_iload_n Γ 2 dX0_valueAbove_4 rfl ?_
  obtain ⟨v1, e2, hf⟩ := ya_ob hf
  refine g_ni (wr := [(h_t, oF A_t c_t_unread c_t_below), (A_t 0, oG A_t_heaps), (A_t_heaps 0, eI cI 6 c_t_heaps_least), (A_t 2, oG A_t_sides), (A_t_sides 0, eI cI 6 c_t_sides_least), (A_t 3, eQ cR 6 A_t_rows), (A_t_rows 0, eJ cJ 7 (c_t_rows 0)), (A_t_rows 1, eJ cJ 7 (c_t_rows 1)), (A_t_rows 2, eJ cJ 7 (c_t_rows 2)), (A_t_rows 3, eJ cJ 7 (c_t_rows 3)), (A_t_rows 4, eJ cJ 7 (c_t_rows 4)), (A_t_rows 5, eJ cJ 7 (c_t_rows 5)), (h_w, oW A_w c_w_knots c_w_flows c_w_readSet), (A_w 0, eI cI 10 c_w_from), (A_w 1, eI cI 10 c_w_to), (A_w 2, eI cI 10 c_w_reading), (A_w 3, eI cI 10 c_w_miss)]) (ws' := [(h_t, oF A_t c_t_unread c_t_below), (A_t 0, oG A_t_heaps), (A_t_heaps 0, eI cI 6 c_t_heaps_least), (A_t 2, oG A_t_sides), (A_t_sides 0, eI cI 6 c_t_sides_least), (A_t 3, eQ cR 6 A_t_rows), (A_t_rows 0, eJ cJ 7 (c_t_rows 0)), (A_t_rows 1, eJ cJ 7 (c_t_rows 1)), (A_t_rows 2, eJ cJ 7 (c_t_rows 2)), (A_t_rows 3, eJ cJ 7 (c_t_rows 3)), (A_t_rows 4, eJ cJ 7 (c_t_rows 4)), (A_t_rows 5, eJ cJ 7 (c_t_rows 5)), (h_w, oW A_w c_w_knots c_w_flows c_w_readSet), (A_w 0, eI cI 10 c_w_from), (A_w 1, eI cI 10 c_w_to), (A_w 2, eI cI 10 c_w_reading), (A_w 3, eI cI 10 c_w_miss)]) Γ (fun sz => mX4_holds (l := l) (D := D) (sz := sz) (cI := cI) (cJ := cJ) (cZ := cZ) (cW := cW) (cR := cR)  (hf := e2)) eX4_holds ggX0_valueAbove_X4_holds (by decide +kernel) (by decide +kernel) (by decide +kernel) rfl rfl (Nat.le_of_ble_eq_true rfl) ⟨Nat.le_of_ble_eq_true rfl, Nat.le_of_ble_eq_true rfl⟩ dX0_valueAbove_5 [] [0, 1, 2, 3, 4, 5, 6, 7, 8, 9, 10, 11, 12, 13, 14, 15, 16] rfl rfl rfl rfl (by decide) rfl ?_
  refine g_if_ne Γ 18 dX0_valueAbove_8 (by decide) (fun c3 => ?_) (fun c3 => ?_)
  · have hf := ya_if2 c3 hf
    refine g_aload_n Γ 0 dX0_valueAbove_18 rfl ?_
    refine g_get Γ fX0_valueAbove_21 0 rfl rfl dX0_valueAbove_19 ?_
    refine g_aload_n Γ 1 dX0_valueAbove_22 rfl ?_
    refine g_aload_n Γ 0 dX0_valueAbove_23 rfl ?_
    refine g_get Γ fX0_valueAbove_33 0 rfl rfl dX0_valueAbove_24 ?_
    refine g_iload_n Γ 2 dX0_valueAbove_27 rfl ?_
    obtain ⟨v4, e5, hf⟩ := ya_ob hf
    refine g_ni (wr := [(h_t, oF A_t c_t_unread c_t_below), (A_t 0, oG A_t_heaps), (A_t_heaps 0, eI cI 6 c_t_heaps_least), (A_t 2, oG A_t_sides), (A_t_sides 0, eI cI 6 c_t_sides_least), (A_t 3, eQ cR 6 A_t_rows), (A_t_rows 0, eJ cJ 7 (c_t_rows 0)), (A_t_rows 1, eJ cJ 7 (c_t_rows 1)), (A_t_rows 2, eJ cJ 7 (c_t_rows 2)), (A_t_rows 3, eJ cJ 7 (c_t_rows 3)), (A_t_rows 4, eJ cJ 7 (c_t_rows 4)), (A_t_rows 5, eJ cJ 7 (c_t_rows 5)), (h_w, oW A_w c_w_knots c_w_flows c_w_readSet), (A_w 0, eI cI 10 c_w_from), (A_w 1, eI cI 10 c_w_to), (A_w 2, eI cI 10 c_w_reading), (A_w 3, eI cI 10 c_w_miss)]) (ws' := [(h_t, oF A_t c_t_unread c_t_below), (A_t 0, oG A_t_heaps), (A_t_heaps 0, eI cI 6 c_t_heaps_least), (A_t 2, oG A_t_sides), (A_t_sides 0, eI cI 6 c_t_sides_least), (A_t 3, eQ cR 6 A_t_rows), (A_t_rows 0, eJ cJ 7 (c_t_rows 0)), (A_t_rows 1, eJ cJ 7 (c_t_rows 1)), (A_t_rows 2, eJ cJ 7 (c_t_rows 2)), (A_t_rows 3, eJ cJ 7 (c_t_rows 3)), (A_t_rows 4, eJ cJ 7 (c_t_rows 4)), (A_t_rows 5, eJ cJ 7 (c_t_rows 5)), (h_w, oW A_w c_w_knots c_w_flows c_w_readSet), (A_w 0, eI cI 10 c_w_from), (A_w 1, eI cI 10 c_w_to), (A_w 2, eI cI 10 c_w_reading), (A_w 3, eI cI 10 c_w_miss)]) Γ (fun sz => mX4_bit (l := l) (D := D) (sz := sz) (cI := cI) (cJ := cJ) (cZ := cZ) (cW := cW) (cR := cR)  (hf := e5)) eX4_bit ggX0_valueAbove_X4_bit (by decide +kernel) (by decide +kernel) (by decide +kernel) rfl rfl (Nat.le_of_ble_eq_true rfl) ⟨Nat.le_of_ble_eq_true rfl, Nat.le_of_ble_eq_true rfl⟩ dX0_valueAbove_28 [] [0, 1, 2, 3, 4, 5, 6, 7, 8, 9, 10, 11, 12, 13, 14, 15, 16] rfl rfl rfl rfl (by decide) rfl ?_
    refine g_iconst (v := (-1)) Γ dX0_valueAbove_31 (by decide) ?_
    refine g_ixor Γ dX0_valueAbove_32 ?_
    refine g_iand Γ dX0_valueAbove_33 ?_
    obtain ⟨⟨v6, v7⟩, e8, hf⟩ := ya_ob hf
    refine g_vi (q := (RX1, TX1, 1)) (wr := [(h_t, oF A_t c_t_unread c_t_below), (A_t 0, oG A_t_heaps), (A_t_heaps 0, eI cI 6 c_t_heaps_least), (A_t 3, eQ cR 6 A_t_rows), (A_t_rows 0, eJ cJ 7 (c_t_rows 0)), (A_t_rows 1, eJ cJ 7 (c_t_rows 1)), (A_t_rows 2, eJ cJ 7 (c_t_rows 2)), (A_t_rows 3, eJ cJ 7 (c_t_rows 3)), (A_t_rows 4, eJ cJ 7 (c_t_rows 4)), (A_t_rows 5, eJ cJ 7 (c_t_rows 5)), (A_w 2, eI cI 10 c_w_reading), (A_w 3, eI cI 10 c_w_miss)]) (ws' := [(h_t, oF A_t c_t_unread c_t_below), (A_t 0, oG A_t_heaps), (A_t_heaps 0, eI cI 6 c_t_heaps_least), (A_t 3, eQ cR 6 A_t_rows), (A_t_rows 0, eJ cJ 7 (c_t_rows 0)), (A_t_rows 1, eJ cJ 7 (c_t_rows 1)), (A_t_rows 2, eJ cJ 7 (c_t_rows 2)), (A_t_rows 3, eJ cJ 7 (c_t_rows 3)), (A_t_rows 4, eJ cJ 7 (c_t_rows 4)), (A_t_rows 5, eJ cJ 7 (c_t_rows 5)), (A_w 2, eI cI 10 c_w_reading), (A_w 3, eI cI 10 c_w_miss), (A_t 2, oG A_t_sides), (A_t_sides 0, eI cI 6 v7), (h_w, oW A_w c_w_knots c_w_flows c_w_readSet), (A_w 0, eI cI 10 c_w_from), (A_w 1, eI cI 10 c_w_to)]) Γ (fun sz => mX1_gather (l := l) (D := D) (sz := sz) (cI := cI) (cJ := cJ) (cZ := cZ) (cW := cW) (cR := cR) (h_t := A_t 2) (h_w := h_w) (A_t := A_t_sides) (A_w := A_w) (hf := e8)) eX1_gather gX0_valueAbove_X1_gather rfl rfl 0 rfl rfl rfl (Nat.le_of_ble_eq_true rfl) ⟨Nat.le_of_ble_eq_true rfl, Nat.le_of_ble_eq_true rfl⟩ dX0_valueAbove_34 [3, 4, 12, 13, 14] [0, 1, 2, 5, 6, 7, 8, 9, 10, 11, 15, 16] rfl rfl rfl rfl (by decide) rfl ?_
    refine g_pop Γ dX0_valueAbove_37 rfl ?_
    refine g_aload_n Γ 0 dX0_valueAbove_38 rfl ?_
    refine g_get Γ fX0_valueAbove_21 0 rfl rfl dX0_valueAbove_39 ?_
    refine g_get Γ fX0_valueAbove_62 12 rfl rfl dX0_valueAbove_42 ?_
    refine g_aload_n Γ 1 dX0_valueAbove_45 rfl ?_
    refine g_get Γ fX0_valueAbove_80 14 rfl rfl dX0_valueAbove_46 ?_
    refine g_iload_n Γ 2 dX0_valueAbove_49 rfl ?_
    obtain ⟨v9, e10, hf⟩ := ya_ob hf
    refine g_iald Γ e10 15 0 rfl rfl dX0_valueAbove_50 ?_
    obtain ⟨v11, e12, hf⟩ := ya_ob hf
    refine g_iald Γ e12 13 0 rfl rfl dX0_valueAbove_51 ?_
    refine g_istore_n (lv' := [(3, .int v11), (0, .ref h_t), (1, .ref h_w), (2, .int x2)]) Γ dX0_valueAbove_52 (by decide) rfl ?_
    refine g_lconst (v := 0) Γ dX0_valueAbove_53 (by decide) ?_
    refine g_lstore (lv' := [(4, .long 0), (3, .int v11), (0, .ref h_t), (1, .ref h_w), (2, .int x2)]) Γ dX0_valueAbove_54 (by decide) rfl ?_
    refine g_iconst (v := 0) Γ dX0_valueAbove_56 (by decide) ?_
    refine g_istore (lv' := [(6, .int 0), (4, .long 0), (3, .int v11), (0, .ref h_t), (1, .ref h_w), (2, .int x2)]) Γ dX0_valueAbove_57 (by decide) rfl ?_
    obtain ⟨v60, e61, hf⟩ := ya_ob hf
    refine g_lv [3, 4, 2, 1, 0] rfl ?_
    refine g_ws (ws' := [(h_t, oF A_t c_t_unread c_t_below), (A_t 0, oG A_t_heaps), (A_t_heaps 0, eI cI 6 c_t_heaps_least), (A_t 2, oG A_t_sides), (A_t_sides 0, eI cI 6 v7), (A_t 3, eQ cR 6 A_t_rows), (A_t_rows 0, eJ cJ 7 (c_t_rows 0)), (A_t_rows 1, eJ cJ 7 (c_t_rows 1)), (A_t_rows 2, eJ cJ 7 (c_t_rows 2)), (A_t_rows 3, eJ cJ 7 (c_t_rows 3)), (A_t_rows 4, eJ cJ 7 (c_t_rows 4)), (A_t_rows 5, eJ cJ 7 (c_t_rows 5)), (h_w, oW A_w c_w_knots c_w_flows c_w_readSet), (A_w 0, eI cI 10 c_w_from), (A_w 1, eI cI 10 c_w_to), (A_w 2, eI cI 10 c_w_reading), (A_w 3, eI cI 10 c_w_miss)]) [0, 1, 2, 12, 13, 3, 4, 5, 6, 7, 8, 9, 14, 15, 16, 10, 11] rfl rfl ?_
    refine loop59 N _ _ _ _ _ _ _ _ _ _ _ _ _ _ _ _ e61  ?_
    refine g_lload Γ 0 dX0_valueAbove_156 rfl ?_
    cases hf
    exact g_lret Γ hr dX0_valueAbove_158 [0, 1, 2, 3, 4, 5, 6, 7, 8, 9, 10, 11, 12, 13, 14, 15, 16] rfl rfl
  · have hf := ya_if1 c3 hf
    refine g_aload_n Γ 0 dX0_valueAbove_11 rfl ?_
    refine g_aload_n Γ 1 dX0_valueAbove_12 rfl ?_
    refine g_iload_n Γ 2 dX0_valueAbove_13 rfl ?_
    obtain ⟨v62, e63, hf⟩ := ya_ob hf
    refine g_vl (q := (RX0, TX0, 7)) (wr := [(A_t 2, oG A_t_sides), (A_t_sides 0, eI cI 6 c_t_sides_least)]) (ws' := [(A_t 2, oG A_t_sides), (A_t_sides 0, eI cI 6 c_t_sides_least), (h_t, oF A_t c_t_unread c_t_below), (A_t 0, oG A_t_heaps), (A_t_heaps 0, eI cI 6 c_t_heaps_least), (A_t 3, eQ cR 6 A_t_rows), (A_t_rows 0, eJ cJ 7 (c_t_rows 0)), (A_t_rows 1, eJ cJ 7 (c_t_rows 1)), (A_t_rows 2, eJ cJ 7 (c_t_rows 2)), (A_t_rows 3, eJ cJ 7 (c_t_rows 3)), (A_t_rows 4, eJ cJ 7 (c_t_rows 4)), (A_t_rows 5, eJ cJ 7 (c_t_rows 5)), (h_w, oW A_w c_w_knots c_w_flows c_w_readSet), (A_w 0, eI cI 10 c_w_from), (A_w 1, eI cI 10 c_w_to), (A_w 2, eI cI 10 c_w_reading), (A_w 3, eI cI 10 c_w_miss)]) Γ (fun sz => mX0_fittedAbove (l := l) (D := D) (sz := sz) (cI := cI) (cJ := cJ) (cZ := cZ) (cW := cW) (cR := cR) (h_t := h_t) (h_w := h_w) (A_t := A_t) (A_t_heaps := A_t_heaps) (A_t_rows := A_t_rows) (A_w := A_w) (hf := e63)) eX0_fittedAbove gX0_valueAbove_X0_fittedAbove rfl rfl 0 rfl rfl rfl (Nat.le_of_ble_eq_true rfl) ⟨Nat.le_of_ble_eq_true rfl, Nat.le_of_ble_eq_true rfl⟩ dX0_valueAbove_14 [0, 1, 2, 5, 6, 7, 8, 9, 10, 11, 12, 13, 14, 15, 16] [3, 4] rfl rfl rfl rfl (by decide) rfl ?_
    cases hf
    exact g_lret Γ hr dX0_valueAbove_17 [2, 3, 4, 0, 1, 5, 6, 7, 8, 9, 10, 11, 12, 13, 14, 15, 16] rfl rfl

theorem dX0_testAbove_0 : decode cX0_testAbove 0 = .ok (.lconst 0, 1) := by decide +kernel
theorem dX0_testAbove_1 : decode cX0_testAbove 1 = .ok (.lstore_n 2, 1) := by decide +kernel
theorem dX0_testAbove_2 : decode cX0_testAbove 2 = .ok (.iconst 0, 1) := by decide +kernel
theorem dX0_testAbove_3 : decode cX0_testAbove 3 = .ok (.istore 4, 2) := by decide +kernel
theorem dX0_testAbove_5 : decode cX0_testAbove 5 = .ok (.iload 4, 2) := by decide +kernel
theorem dX0_testAbove_7 : decode cX0_testAbove 7 = .ok (.iload_n 1, 1) := by decide +kernel
theorem dX0_testAbove_8 : decode cX0_testAbove 8 = .ok (.if_icmp .ge 30, 3) := by decide +kernel
theorem dX0_testAbove_11 : decode cX0_testAbove 11 = .ok (.lload_n 2, 1) := by decide +kernel
theorem dX0_testAbove_12 : decode cX0_testAbove 12 = .ok (.aload_n 0, 1) := by decide +kernel
theorem dX0_testAbove_13 : decode cX0_testAbove 13 = .ok (.getfield 26, 3) := by decide +kernel
theorem dX0_testAbove_16 : decode cX0_testAbove 16 = .ok (.iload 4, 2) := by decide +kernel
theorem dX0_testAbove_18 : decode cX0_testAbove 18 = .ok (.aaload, 1) := by decide +kernel
theorem dX0_testAbove_19 : decode cX0_testAbove 19 = .ok (.bipush 6, 2) := by decide +kernel
theorem dX0_testAbove_21 : decode cX0_testAbove 21 = .ok (.laload, 1) := by decide +kernel
theorem dX0_testAbove_22 : decode cX0_testAbove 22 = .ok (.aload_n 0, 1) := by decide +kernel
theorem dX0_testAbove_23 : decode cX0_testAbove 23 = .ok (.getfield 29, 3) := by decide +kernel
theorem dX0_testAbove_26 : decode cX0_testAbove 26 = .ok (.iload 4, 2) := by decide +kernel
theorem dX0_testAbove_28 : decode cX0_testAbove 28 = .ok (.laload, 1) := by decide +kernel
theorem dX0_testAbove_29 : decode cX0_testAbove 29 = .ok (.lmul, 1) := by decide +kernel
theorem dX0_testAbove_30 : decode cX0_testAbove 30 = .ok (.lsub, 1) := by decide +kernel
theorem dX0_testAbove_31 : decode cX0_testAbove 31 = .ok (.lstore_n 2, 1) := by decide +kernel
theorem dX0_testAbove_32 : decode cX0_testAbove 32 = .ok (.iinc 4 1, 3) := by decide +kernel
theorem dX0_testAbove_35 : decode cX0_testAbove 35 = .ok (.goto (-30), 3) := by decide +kernel
theorem dX0_testAbove_38 : decode cX0_testAbove 38 = .ok (.lload_n 2, 1) := by decide +kernel
theorem dX0_testAbove_39 : decode cX0_testAbove 39 = .ok (.lreturn, 1) := by decide +kernel
/-! ===== FlowMeters$Fit.testAbove(I)J ===== -/
def fX0_testAbove_L5 (N : Nat) (n : Nat) (y1 : Int32) (y2 : Int64) (y4 : Int32) (d_t_rows : Nat → Nat → Int64) (d_t_surplus : Nat → Int64) : Option (Int64) := match n with
  | 0 => none
  | n + 1 =>
    (if y1 ≤ y4 then
        some y2
      else
        (ya_ix 6 y4).bind fun v2 =>
        (ya_rd (d_t_rows v2) 7 6).bind fun v5 =>
        (ya_rd d_t_surplus 6 y4).bind fun v7 =>
        ya_lt (y2 - (v5 * v7)) fun v9 =>
        ya_lt (y4 + 1) fun v11 =>
        fX0_testAbove_L5 N n y1 v9 v11 d_t_rows d_t_surplus)
def fX0_testAbove (N : Nat) (c_t_rows : Nat → Nat → Int64) (c_t_surplus : Nat → Int64) (x1 : Int32) : Option (Int64) :=
  (fX0_testAbove_L5 N N x1 0 0 c_t_rows c_t_surplus).bind fun v13 =>
  some v13
theorem fX0_testAbove_26 : yF wsX0_testAbove RX0 26 0 3 RX0 TX0 7 := ⟨rfl, by decide, by decide +kernel, by decide +kernel⟩
theorem fX0_testAbove_29 : yF wsX0_testAbove RX0 29 0 4 RX0 TX0 7 := ⟨rfl, by decide, by decide +kernel, by decide +kernel⟩
abbrev rmX0_testAbove : Room := { frames := 0, cells := 0, slots := 0, locals := 0 }
theorem eX0_testAbove : yY yX0_testAbove wsX0_testAbove cX0_testAbove 5 (some .long) rmX0_testAbove 1 := ⟨⟨_, rfl⟩, rfl, rfl, by decide, by decide, by decide +kernel⟩
set_option maxHeartbeats 4000000 in
set_option maxRecDepth 100000 in
theorem mX0_testAbove {l : Launch} {D : va_G} {sz : Nat} {cI cJ cZ cW cR : ClassId} {N : Nat} {h_t : Nat} {A_t : Nat → Nat} {A_t_rows : Nat → Nat} {c_t_unread : Int32} {c_t_below : Int64} {c_t_rows : Nat → Nat → Int64} {c_t_surplus : Nat → Int64} {x1 : Int32} {r : Int64} (hf : fX0_testAbove N c_t_rows c_t_surplus x1 = some r) : Met l yX0_testAbove wsX0_testAbove rmX0_testAbove (yP D (yT cI cJ cZ cW cR) [(h_t, oF A_t c_t_unread c_t_below), (A_t 3, eQ cR 6 A_t_rows), (A_t_rows 0, eJ cJ 7 (c_t_rows 0)), (A_t_rows 1, eJ cJ 7 (c_t_rows 1)), (A_t_rows 2, eJ cJ 7 (c_t_rows 2)), (A_t_rows 3, eJ cJ 7 (c_t_rows 3)), (A_t_rows 4, eJ cJ 7 (c_t_rows 4)), (A_t_rows 5, eJ cJ 7 (c_t_rows 5)), (A_t 4, eJ cJ 6 c_t_surplus)] sz [.ref h_t, .int x1]) (yQl D (yT cI cJ cZ cW cR) r [(h_t, oF A_t c_t_unread c_t_below), (A_t 3, eQ cR 6 A_t_rows), (A_t_rows 0, eJ cJ 7 (c_t_rows 0)), (A_t_rows 1, eJ cJ 7 (c_t_rows 1)), (A_t_rows 2, eJ cJ 7 (c_t_rows 2)), (A_t_rows 3, eJ cJ 7 (c_t_rows 3)), (A_t_rows 4, eJ cJ 7 (c_t_rows 4)), (A_t_rows 5, eJ cJ 7 (c_t_rows 5)), (A_t 4, eJ cJ 6 c_t_surplus)] (va_A [(h_t, oF A_t c_t_unread c_t_below), (A_t 3, eQ cR 6 A_t_rows), (A_t_rows 0, eJ cJ 7 (c_t_rows 0)), (A_t_rows 1, eJ cJ 7 (c_t_rows 1)), (A_t_rows 2, eJ cJ 7 (c_t_rows 2)), (A_t_rows 3, eJ cJ 7 (c_t_rows 3)), (A_t_rows 4, eJ cJ 7 (c_t_rows 4)), (A_t_rows 5, eJ cJ 7 (c_t_rows 5)), (A_t 4, eJ cJ 6 c_t_surplus)] sz)) 0 0 (va_A [(h_t, oF A_t c_t_unread c_t_below), (A_t 3, eQ cR 6 A_t_rows), (A_t_rows 0, eJ cJ 7 (c_t_rows 0)), (A_t_rows 1, eJ cJ 7 (c_t_rows 1)), (A_t_rows 2, eJ cJ 7 (c_t_rows 2)), (A_t_rows 3, eJ cJ 7 (c_t_rows 3)), (A_t_rows 4, eJ cJ 7 (c_t_rows 4)), (A_t_rows 5, eJ cJ 7 (c_t_rows 5)), (A_t 4, eJ cJ 6 c_t_surplus)] sz) := by
  refine yM (cc := cX0_testAbove) (maxL := 5) (ret := (some .long)) RX0 (by decide) rfl rfl (Nat.le_of_ble_eq_true rfl) ?_
  intro p e s m below meth c Γ hr
  have loop5 : ∀ (n : Nat) (y1 : Int32) (y2 : Int64) (y4 : Int32) (d_t_unread : Int32) (d_t_below : Int64) (d_t_rows : Nat → Nat → Int64) (d_t_surplus : Nat → Int64) (w0 : Int64), fX0_testAbove_L5 N n y1 y2 y4 d_t_rows d_t_surplus = some w0 → yG p l e (headSpec wsX0_testAbove rmX0_testAbove).room s m (List.toArray [.ref h_t, .int x1]) below meth c D (va_A [(h_t, oF A_t c_t_unread c_t_below), (A_t 3, eQ cR 6 A_t_rows), (A_t_rows 0, eJ cJ 7 (c_t_rows 0)), (A_t_rows 1, eJ cJ 7 (c_t_rows 1)), (A_t_rows 2, eJ cJ 7 (c_t_rows 2)), (A_t_rows 3, eJ cJ 7 (c_t_rows 3)), (A_t_rows 4, eJ cJ 7 (c_t_rows 4)), (A_t_rows 5, eJ cJ 7 (c_t_rows 5)), (A_t 4, eJ cJ 6 c_t_surplus)] sz) 5 0 0 (MQ below (yQl D (yT cI cJ cZ cW cR) r [(h_t, oF A_t c_t_unread c_t_below), (A_t 3, eQ cR 6 A_t_rows), (A_t_rows 0, eJ cJ 7 (c_t_rows 0)), (A_t_rows 1, eJ cJ 7 (c_t_rows 1)), (A_t_rows 2, eJ cJ 7 (c_t_rows 2)), (A_t_rows 3, eJ cJ 7 (c_t_rows 3)), (A_t_rows 4, eJ cJ 7 (c_t_rows 4)), (A_t_rows 5, eJ cJ 7 (c_t_rows 5)), (A_t 4, eJ cJ 6 c_t_surplus)] (va_A [(h_t, oF A_t c_t_unread c_t_below), (A_t 3, eQ cR 6 A_t_rows), (A_t_rows 0, eJ cJ 7 (c_t_rows 0)), (A_t_rows 1, eJ cJ 7 (c_t_rows 1)), (A_t_rows 2, eJ cJ 7 (c_t_rows 2)), (A_t_rows 3, eJ cJ 7 (c_t_rows 3)), (A_t_rows 4, eJ cJ 7 (c_t_rows 4)), (A_t_rows 5, eJ cJ 7 (c_t_rows 5)), (A_t 4, eJ cJ 6 c_t_surplus)] sz)) (List.toArray [.ref h_t, .int x1]) s 0 0 (va_A [(h_t, oF A_t c_t_unread c_t_below), (A_t 3, eQ cR 6 A_t_rows), (A_t_rows 0, eJ cJ 7 (c_t_rows 0)), (A_t_rows 1, eJ cJ 7 (c_t_rows 1)), (A_t_rows 2, eJ cJ 7 (c_t_rows 2)), (A_t_rows 3, eJ cJ 7 (c_t_rows 3)), (A_t_rows 4, eJ cJ 7 (c_t_rows 4)), (A_t_rows 5, eJ cJ 7 (c_t_rows 5)), (A_t 4, eJ cJ 6 c_t_surplus)] sz)) 38 [(2, .long w0)] [] [(h_t, oF A_t d_t_unread d_t_below), (A_t 3, eQ cR 6 A_t_rows), (A_t_rows 0, eJ cJ 7 (d_t_rows 0)), (A_t_rows 1, eJ cJ 7 (d_t_rows 1)), (A_t_rows 2, eJ cJ 7 (d_t_rows 2)), (A_t_rows 3, eJ cJ 7 (d_t_rows 3)), (A_t_rows 4, eJ cJ 7 (d_t_rows 4)), (A_t_rows 5, eJ cJ 7 (d_t_rows 5)), (A_t 4, eJ cJ 6 d_t_surplus)] → yG p l e (headSpec wsX0_testAbove rmX0_testAbove).room s m (List.toArray [.ref h_t, .int x1]) below meth c D (va_A [(h_t, oF A_t c_t_unread c_t_below), (A_t 3, eQ cR 6 A_t_rows), (A_t_rows 0, eJ cJ 7 (c_t_rows 0)), (A_t_rows 1, eJ cJ 7 (c_t_rows 1)), (A_t_rows 2, eJ cJ 7 (c_t_rows 2)), (A_t_rows 3, eJ cJ 7 (c_t_rows 3)), (A_t_rows 4, eJ cJ 7 (c_t_rows 4)), (A_t_rows 5, eJ cJ 7 (c_t_rows 5)), (A_t 4, eJ cJ 6 c_t_surplus)] sz) 5 0 0 (MQ below (yQl D (yT cI cJ cZ cW cR) r [(h_t, oF A_t c_t_unread c_t_below), (A_t 3, eQ cR 6 A_t_rows), (A_t_rows 0, eJ cJ 7 (c_t_rows 0)), (A_t_rows 1, eJ cJ 7 (c_t_rows 1)), (A_t_rows 2, eJ cJ 7 (c_t_rows 2)), (A_t_rows 3, eJ cJ 7 (c_t_rows 3)), (A_t_rows 4, eJ cJ 7 (c_t_rows 4)), (A_t_rows 5, eJ cJ 7 (c_t_rows 5)), (A_t 4, eJ cJ 6 c_t_surplus)] (va_A [(h_t, oF A_t c_t_unread c_t_below), (A_t 3, eQ cR 6 A_t_rows), (A_t_rows 0, eJ cJ 7 (c_t_rows 0)), (A_t_rows 1, eJ cJ 7 (c_t_rows 1)), (A_t_rows 2, eJ cJ 7 (c_t_rows 2)), (A_t_rows 3, eJ cJ 7 (c_t_rows 3)), (A_t_rows 4, eJ cJ 7 (c_t_rows 4)), (A_t_rows 5, eJ cJ 7 (c_t_rows 5)), (A_t 4, eJ cJ 6 c_t_surplus)] sz)) (List.toArray [.ref h_t, .int x1]) s 0 0 (va_A [(h_t, oF A_t c_t_unread c_t_below), (A_t 3, eQ cR 6 A_t_rows), (A_t_rows 0, eJ cJ 7 (c_t_rows 0)), (A_t_rows 1, eJ cJ 7 (c_t_rows 1)), (A_t_rows 2, eJ cJ 7 (c_t_rows 2)), (A_t_rows 3, eJ cJ 7 (c_t_rows 3)), (A_t_rows 4, eJ cJ 7 (c_t_rows 4)), (A_t_rows 5, eJ cJ 7 (c_t_rows 5)), (A_t 4, eJ cJ 6 c_t_surplus)] sz)) 5 [(0, .ref h_t), (1, .int y1), (2, .long y2), (4, .int y4)] [] [(h_t, oF A_t d_t_unread d_t_below), (A_t 3, eQ cR 6 A_t_rows), (A_t_rows 0, eJ cJ 7 (d_t_rows 0)), (A_t_rows 1, eJ cJ 7 (d_t_rows 1)), (A_t_rows 2, eJ cJ 7 (d_t_rows 2)), (A_t_rows 3, eJ cJ 7 (d_t_rows 3)), (A_t_rows 4, eJ cJ 7 (d_t_rows 4)), (A_t_rows 5, eJ cJ 7 (d_t_rows 5)), (A_t 4, eJ cJ 6 d_t_surplus)] := by
    intro n
    induction n with
    | zero =>
      intro y1 y2 y4 d_t_unread d_t_below d_t_rows d_t_surplus w0 hf
      cases hf
    | succ n ih =>
      intro y1 y2 y4 d_t_unread d_t_below d_t_rows d_t_surplus w0 hf hk
      unfold fX0_testAbove_L5 at hf
      refine g_iload Γ 3 dX0_testAbove_5 rfl ?_
      refine g_iload_n Γ 1 dX0_testAbove_7 rfl ?_
      refine g_icmp_ge Γ 38 dX0_testAbove_8 (by decide) (fun c1 => ?_) (fun c1 => ?_)
      · have hf := ya_if1 c1 hf
        cases hf
        refine g_lv [2] rfl ?_
        exact hk
      · have hf := ya_if2 c1 hf
        refine g_lload_n Γ 2 dX0_testAbove_11 rfl ?_
        refine g_aload_n Γ 0 dX0_testAbove_12 rfl ?_
        refine g_get Γ fX0_testAbove_26 0 rfl rfl dX0_testAbove_13 ?_
        refine g_iload Γ 3 dX0_testAbove_16 rfl ?_
        obtain ⟨v2, e3, hf⟩ := ya_ob hf
        have h4 := ya_ix_lt e3
        refine g_aldR Γ e3 1 4 rfl rfl dX0_testAbove_18 ?_
        refine g_bipush (v := 6) Γ dX0_testAbove_19 (by decide) ?_
        obtain ⟨v5, e6, hf⟩ := ya_ob hf
        refine g_laldR (M := d_t_rows) Γ e6 h4 2 1 (ya_six rfl rfl rfl rfl rfl rfl) rfl dX0_testAbove_21 ?_
        refine g_aload_n Γ 0 dX0_testAbove_22 rfl ?_
        refine g_get Γ fX0_testAbove_29 0 rfl rfl dX0_testAbove_23 ?_
        refine g_iload Γ 3 dX0_testAbove_26 rfl ?_
        obtain ⟨v7, e8, hf⟩ := ya_ob hf
        refine g_lald Γ e8 8 1 rfl rfl dX0_testAbove_28 ?_
        refine g_lmul Γ dX0_testAbove_29 ?_
        refine g_lsub Γ dX0_testAbove_30 ?_
        obtain ⟨v9, e10, hf⟩ := ya_lt_inv hf
        refine g_nml e10 ?_
        refine g_lstore_n (lv' := [(2, .long v9), (0, .ref h_t), (1, .int y1), (4, .int y4)]) Γ dX0_testAbove_31 (by decide) rfl ?_
        obtain ⟨v11, e12, hf⟩ := ya_lt_inv hf
        refine g_iinc (lv' := [(4, .int v11), (2, .long v9), (0, .ref h_t), (1, .int y1)]) Γ 3 dX0_testAbove_32 rfl (by rw [e12]; rfl) (by decide) rfl ?_
        refine g_goto Γ 5 dX0_testAbove_35 (by decide) ?_
        refine g_lv [2, 3, 1, 0] rfl ?_
        exact ih _ _ _ _ _ _ _ _ hf hk
  show yG p l e (headSpec wsX0_testAbove rmX0_testAbove).room s m (List.toArray [.ref h_t, .int x1]) below meth c D (va_A [(h_t, oF A_t c_t_unread c_t_below), (A_t 3, eQ cR 6 A_t_rows), (A_t_rows 0, eJ cJ 7 (c_t_rows 0)), (A_t_rows 1, eJ cJ 7 (c_t_rows 1)), (A_t_rows 2, eJ cJ 7 (c_t_rows 2)), (A_t_rows 3, eJ cJ 7 (c_t_rows 3)), (A_t_rows 4, eJ cJ 7 (c_t_rows 4)), (A_t_rows 5, eJ cJ 7 (c_t_rows 5)), (A_t 4, eJ cJ 6 c_t_surplus)] sz) 5 0 0 (MQ below (yQl D (yT cI cJ cZ cW cR) r [(h_t, oF A_t c_t_unread c_t_below), (A_t 3, eQ cR 6 A_t_rows), (A_t_rows 0, eJ cJ 7 (c_t_rows 0)), (A_t_rows 1, eJ cJ 7 (c_t_rows 1)), (A_t_rows 2, eJ cJ 7 (c_t_rows 2)), (A_t_rows 3, eJ cJ 7 (c_t_rows 3)), (A_t_rows 4, eJ cJ 7 (c_t_rows 4)), (A_t_rows 5, eJ cJ 7 (c_t_rows 5)), (A_t 4, eJ cJ 6 c_t_surplus)] (va_A [(h_t, oF A_t c_t_unread c_t_below), (A_t 3, eQ cR 6 A_t_rows), (A_t_rows 0, eJ cJ 7 (c_t_rows 0)), (A_t_rows 1, eJ cJ 7 (c_t_rows 1)), (A_t_rows 2, eJ cJ 7 (c_t_rows 2)), (A_t_rows 3, eJ cJ 7 (c_t_rows 3)), (A_t_rows 4, eJ cJ 7 (c_t_rows 4)), (A_t_rows 5, eJ cJ 7 (c_t_rows 5)), (A_t 4, eJ cJ 6 c_t_surplus)] sz)) (List.toArray [.ref h_t, .int x1]) s 0 0 (va_A [(h_t, oF A_t c_t_unread c_t_below), (A_t 3, eQ cR 6 A_t_rows), (A_t_rows 0, eJ cJ 7 (c_t_rows 0)), (A_t_rows 1, eJ cJ 7 (c_t_rows 1)), (A_t_rows 2, eJ cJ 7 (c_t_rows 2)), (A_t_rows 3, eJ cJ 7 (c_t_rows 3)), (A_t_rows 4, eJ cJ 7 (c_t_rows 4)), (A_t_rows 5, eJ cJ 7 (c_t_rows 5)), (A_t 4, eJ cJ 6 c_t_surplus)] sz)) 0 [(0, .ref h_t), (1, .int x1)] [] [(h_t, oF A_t c_t_unread c_t_below), (A_t 3, eQ cR 6 A_t_rows), (A_t_rows 0, eJ cJ 7 (c_t_rows 0)), (A_t_rows 1, eJ cJ 7 (c_t_rows 1)), (A_t_rows 2, eJ cJ 7 (c_t_rows 2)), (A_t_rows 3, eJ cJ 7 (c_t_rows 3)), (A_t_rows 4, eJ cJ 7 (c_t_rows 4)), (A_t_rows 5, eJ cJ 7 (c_t_rows 5)), (A_t 4, eJ cJ 6 c_t_surplus)]
  unfold fX0_testAbove at hf
  refine g_lconst (v := 0) Γ dX0_testAbove_0 (by decide) ?_
  refine g_lstore_n (lv' := [(2, .long 0), (0, .ref h_t), (1, .int x1)]) Γ dX0_testAbove_1 (by decide) rfl ?_
  refine g_iconst (v := 0) Γ dX0_testAbove_2 (by decide) ?_
  refine g_istore (lv' := [(4, .int 0), (2, .long 0), (0, .ref h_t), (1, .int x1)]) Γ dX0_testAbove_3 (by decide) rfl ?_
  obtain ⟨v13, e14, hf⟩ := ya_ob hf
  refine g_lv [2, 3, 1, 0] rfl ?_
  refine loop5 N _ _ _ _ _ _ _ _ e14  ?_
  refine g_lload_n Γ 0 dX0_testAbove_38 rfl ?_
  cases hf
  exact g_lret Γ hr dX0_testAbove_39 [0, 1, 2, 3, 4, 5, 6, 7, 8] rfl rfl

