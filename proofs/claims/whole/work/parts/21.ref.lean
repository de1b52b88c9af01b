set_option maxRecDepth 20000 in
theorem ggX5_heaps_X5_flows : GoodIn wsX5_heaps wsX5_flows := goodIn_r _ [6, 7, 16, 17, 18, 19, 20, 21, 22, 23, 24, 25, 26, 27, 28, 29, 30, 31, 32, 33, 34] (by decide +kernel) (by decide +kernel)
set_option maxRecDepth 20000 in
theorem gX5_heaps_X5_flows : GoodIn wsX5_heaps (wsV RX5 57 RX5 yX5_flows wsX5_flows) := goodIn_app (goodIn_of _ (by decide +kernel)) ggX5_heaps_X5_flows
set_option maxRecDepth 20000 in
theorem ggX5_heaps_X5_isRead : GoodIn wsX5_heaps wsX5_isRead := goodIn_r _ [11, 12, 13, 14, 5, 15, 7, 16, 17, 18, 19, 20, 21, 22, 23, 24, 25, 26, 27, 28, 29, 30, 31, 32, 33, 34] (by decide +kernel) (by decide +kernel)
set_option maxRecDepth 20000 in
theorem gX5_heaps_X5_isRead : GoodIn wsX5_heaps (wsV RX5 91 RX5 yX5_isRead wsX5_isRead) := goodIn_app (goodIn_of _ (by decide +kernel)) ggX5_heaps_X5_isRead
set_option maxRecDepth 20000 in
theorem ggX5_heaps_X5_get : GoodIn wsX5_heaps wsX5_get := goodIn_r _ [15, 7, 16, 17, 18, 19, 20, 21, 22, 23, 24, 25, 26, 27, 28, 29, 30, 31, 32, 33, 34] (by decide +kernel) (by decide +kernel)
set_option maxRecDepth 20000 in
theorem gX5_heaps_X5_get : GoodIn wsX5_heaps (wsV RX5 86 RX5 yX5_get wsX5_get) := goodIn_app (goodIn_of _ (by decide +kernel)) ggX5_heaps_X5_get
theorem dX5_heaps_0 : decode cX5_heaps 0 = .ok (.iconst 0, 1) := by decide +kernel
theorem dX5_heaps_1 : decode cX5_heaps 1 = .ok (.istore_n 1, 1) := by decide +kernel
theorem dX5_heaps_2 : decode cX5_heaps 2 = .ok (.iload_n 1, 1) := by decide +kernel
theorem dX5_heaps_3 : decode cX5_heaps 3 = .ok (.bipush 6, 2) := by decide +kernel
theorem dX5_heaps_5 : decode cX5_heaps 5 = .ok (.if_icmp .ge 16, 3) := by decide +kernel
theorem dX5_heaps_8 : decode cX5_heaps 8 = .ok (.aload_n 0, 1) := by decide +kernel
theorem dX5_heaps_9 : decode cX5_heaps 9 = .ok (.getfield 16, 3) := by decide +kernel
theorem dX5_heaps_12 : decode cX5_heaps 12 = .ok (.iload_n 1, 1) := by decide +kernel
theorem dX5_heaps_13 : decode cX5_heaps 13 = .ok (.iload_n 1, 1) := by decide +kernel
theorem dX5_heaps_14 : decode cX5_heaps 14 = .ok (.iastore, 1) := by decide +kernel
theorem dX5_heaps_15 : decode cX5_heaps 15 = .ok (.iinc 1 1, 3) := by decide +kernel
theorem dX5_heaps_18 : decode cX5_heaps 18 = .ok (.goto (-16), 3) := by decide +kernel
theorem dX5_heaps_21 : decode cX5_heaps 21 = .ok (.iconst 0, 1) := by decide +kernel
theorem dX5_heaps_22 : decode cX5_heaps 22 = .ok (.istore_n 1, 1) := by decide +kernel
theorem dX5_heaps_23 : decode cX5_heaps 23 = .ok (.iload_n 1, 1) := by decide +kernel
theorem dX5_heaps_24 : decode cX5_heaps 24 = .ok (.bipush 6, 2) := by decide +kernel
theorem dX5_heaps_26 : decode cX5_heaps 26 = .ok (.if_icmp .ge 118, 3) := by decide +kernel
theorem dX5_heaps_29 : decode cX5_heaps 29 = .ok (.iconst 0, 1) := by decide +kernel
theorem dX5_heaps_30 : decode cX5_heaps 30 = .ok (.istore_n 2, 1) := by decide +kernel
theorem dX5_heaps_31 : decode cX5_heaps 31 = .ok (.iload_n 2, 1) := by decide +kernel
theorem dX5_heaps_32 : decode cX5_heaps 32 = .ok (.aload_n 0, 1) := by decide +kernel
theorem dX5_heaps_33 : decode cX5_heaps 33 = .ok (.invokevirtual 57, 3) := by decide +kernel
theorem dX5_heaps_36 : decode cX5_heaps 36 = .ok (.if_icmp .ge 102, 3) := by decide +kernel
theorem dX5_heaps_39 : decode cX5_heaps 39 = .ok (.aload_n 0, 1) := by decide +kernel
theorem dX5_heaps_40 : decode cX5_heaps 40 = .ok (.iload_n 2, 1) := by decide +kernel
theorem dX5_heaps_41 : decode cX5_heaps 41 = .ok (.invokevirtual 91, 3) := by decide +kernel
theorem dX5_heaps_44 : decode cX5_heaps 44 = .ok (.ifCond .eq 6, 3) := by decide +kernel
theorem dX5_heaps_47 : decode cX5_heaps 47 = .ok (.goto 85, 3) := by decide +kernel
theorem dX5_heaps_50 : decode cX5_heaps 50 = .ok (.aload_n 0, 1) := by decide +kernel
theorem dX5_heaps_51 : decode cX5_heaps 51 = .ok (.getfield 16, 3) := by decide +kernel
theorem dX5_heaps_54 : decode cX5_heaps 54 = .ok (.aload_n 0, 1) := by decide +kernel
theorem dX5_heaps_55 : decode cX5_heaps 55 = .ok (.iload_n 2, 1) := by decide +kernel
theorem dX5_heaps_56 : decode cX5_heaps 56 = .ok (.iconst 0, 1) := by decide +kernel
theorem dX5_heaps_57 : decode cX5_heaps 57 = .ok (.invokevirtual 86, 3) := by decide +kernel
theorem dX5_heaps_60 : decode cX5_heaps 60 = .ok (.iaload, 1) := by decide +kernel
theorem dX5_heaps_61 : decode cX5_heaps 61 = .ok (.istore_n 3, 1) := by decide +kernel
theorem dX5_heaps_62 : decode cX5_heaps 62 = .ok (.aload_n 0, 1) := by decide +kernel
theorem dX5_heaps_63 : decode cX5_heaps 63 = .ok (.getfield 16, 3) := by decide +kernel
theorem dX5_heaps_66 : decode cX5_heaps 66 = .ok (.aload_n 0, 1) := by decide +kernel
theorem dX5_heaps_67 : decode cX5_heaps 67 = .ok (.iload_n 2, 1) := by decide +kernel
theorem dX5_heaps_68 : decode cX5_heaps 68 = .ok (.iconst 1, 1) := by decide +kernel
theorem dX5_heaps_69 : decode cX5_heaps 69 = .ok (.invokevirtual 86, 3) := by decide +kernel
theorem dX5_heaps_72 : decode cX5_heaps 72 = .ok (.iaload, 1) := by decide +kernel
theorem dX5_heaps_73 : decode cX5_heaps 73 = .ok (.istore 4, 2) := by decide +kernel
theorem dX5_heaps_75 : decode cX5_heaps 75 = .ok (.iconst 0, 1) := by decide +kernel
theorem dX5_heaps_76 : decode cX5_heaps 76 = .ok (.istore 5, 2) := by decide +kernel
theorem dX5_heaps_78 : decode cX5_heaps 78 = .ok (.iload 5, 2) := by decide +kernel
theorem dX5_heaps_80 : decode cX5_heaps 80 = .ok (.bipush 6, 2) := by decide +kernel
theorem dX5_heaps_82 : decode cX5_heaps 82 = .ok (.if_icmp .ge 50, 3) := by decide +kernel
theorem dX5_heaps_85 : decode cX5_heaps 85 = .ok (.aload_n 0, 1) := by decide +kernel
theorem dX5_heaps_86 : decode cX5_heaps 86 = .ok (.getfield 16, 3) := by decide +kernel
theorem dX5_heaps_89 : decode cX5_heaps 89 = .ok (.iload 5, 2) := by decide +kernel
theorem dX5_heaps_91 : decode cX5_heaps 91 = .ok (.iaload, 1) := by decide +kernel
theorem dX5_heaps_92 : decode cX5_heaps 92 = .ok (.iload_n 3, 1) := by decide +kernel
theorem dX5_heaps_93 : decode cX5_heaps 93 = .ok (.iload 4, 2) := by decide +kernel
theorem dX5_heaps_95 : decode cX5_heaps 95 = .ok (.if_icmp .le 7, 3) := by decide +kernel
theorem dX5_heaps_98 : decode cX5_heaps 98 = .ok (.iload_n 3, 1) := by decide +kernel
theorem dX5_heaps_99 : decode cX5_heaps 99 = .ok (.goto 5, 3) := by decide +kernel
theorem dX5_heaps_102 : decode cX5_heaps 102 = .ok (.iload 4, 2) := by decide +kernel
theorem dX5_heaps_104 : decode cX5_heaps 104 = .ok (.if_icmp .ne 22, 3) := by decide +kernel
theorem dX5_heaps_107 : decode cX5_heaps 107 = .ok (.aload_n 0, 1) := by decide +kernel
theorem dX5_heaps_108 : decode cX5_heaps 108 = .ok (.getfield 16, 3) := by decide +kernel
theorem dX5_heaps_111 : decode cX5_heaps 111 = .ok (.iload 5, 2) := by decide +kernel
theorem dX5_heaps_113 : decode cX5_heaps 113 = .ok (.iload_n 3, 1) := by decide +kernel
theorem dX5_heaps_114 : decode cX5_heaps 114 = .ok (.iload 4, 2) := by decide +kernel
theorem dX5_heaps_116 : decode cX5_heaps 116 = .ok (.if_icmp .ge 7, 3) := by decide +kernel
theorem dX5_heaps_119 : decode cX5_heaps 119 = .ok (.iload_n 3, 1) := by decide +kernel
theorem dX5_heaps_120 : decode cX5_heaps 120 = .ok (.goto 5, 3) := by decide +kernel
theorem dX5_heaps_123 : decode cX5_heaps 123 = .ok (.iload 4, 2) := by decide +kernel
theorem dX5_heaps_125 : decode cX5_heaps 125 = .ok (.iastore, 1) := by decide +kernel
theorem dX5_heaps_126 : decode cX5_heaps 126 = .ok (.iinc 5 1, 3) := by decide +kernel
theorem dX5_heaps_129 : decode cX5_heaps 129 = .ok (.goto (-51), 3) := by decide +kernel
theorem dX5_heaps_132 : decode cX5_heaps 132 = .ok (.iinc 2 1, 3) := by decide +kernel
theorem dX5_heaps_135 : decode cX5_heaps 135 = .ok (.goto (-104), 3) := by decide +kernel
theorem dX5_heaps_138 : decode cX5_heaps 138 = .ok (.iinc 1 1, 3) := by decide +kernel
theorem dX5_heaps_141 : decode cX5_heaps 141 = .ok (.goto (-118), 3) := by decide +kernel
theorem dX5_heaps_144 : decode cX5_heaps 144 = .ok (.return_, 1) := by decide +kernel
/-! ===== FlowMetersModel.heaps()V ===== -/
def fX5_heaps_L2 (N : Nat) (n : Nat) (y1 : Int32) (d_t_heapOf : Nat → Int32) : Option (Nat → Int32) := match n with
  | 0 => none
  | n + 1 =>
    (if 6 ≤ y1 then
        some d_t_heapOf
      else
        (ya_wr d_t_heapOf 6 y1 y1).bind fun v2 =>
        ya_lt (y1 + 1) fun v4 =>
        fX5_heaps_L2 N n v4 v2)
def fX5_heaps_L78 (N : Nat) (n : Nat) (y1 : Int32) (y2 : Int32) (y3 : Int32) (y4 : Int32) (y5 : Int32) (d_t_heapOf : Nat → Int32) : Option (Nat → Int32) := match n with
  | 0 => none
  | n + 1 =>
    (if 6 ≤ y5 then
        some d_t_heapOf
      else
        (ya_rd d_t_heapOf 6 y5).bind fun v24 =>
        (if y3 ≤ y4 then
          (if v24 = y4 then
            (if y4 ≤ y3 then
              (ya_wr d_t_heapOf 6 y5 y4).bind fun v31 =>
              ya_lt (y5 + 1) fun v33 =>
              fX5_heaps_L78 N n y1 y2 y3 y4 v33 v31
            else
              (ya_wr d_t_heapOf 6 y5 y3).bind fun v35 =>
              ya_lt (y5 + 1) fun v37 =>
              fX5_heaps_L78 N n y1 y2 y3 y4 v37 v35)
          else
            ya_lt (y5 + 1) fun v28 =>
            fX5_heaps_L78 N n y1 y2 y3 y4 v28 d_t_heapOf)
        else
          (if v24 = y3 then
            (if y4 ≤ y3 then
              (ya_wr d_t_heapOf 6 y5 y4).bind fun v43 =>
              ya_lt (y5 + 1) fun v45 =>
              fX5_heaps_L78 N n y1 y2 y3 y4 v45 v43
            else
              (ya_wr d_t_heapOf 6 y5 y3).bind fun v47 =>
              ya_lt (y5 + 1) fun v49 =>
              fX5_heaps_L78 N n y1 y2 y3 y4 v49 v47)
          else
            ya_lt (y5 + 1) fun v40 =>
            fX5_heaps_L78 N n y1 y2 y3 y4 v40 d_t_heapOf)))
def fX5_heaps_L31 (N : Nat) (n : Nat) (y1 : Int32) (y2 : Int32) (d_t_now : Nat → Int32) (d_t_heapOf : Nat → Int32) : Option (Nat → Int32) := match n with
  | 0 => none
  | n + 1 =>
    (fX5_flows d_t_now).bind fun v9 =>
      (if v9 ≤ y2 then
        some d_t_heapOf
      else
        (fX5_isRead d_t_now y2).bind fun v12 =>
        (if v12 = 0 then
          (fX5_get d_t_now y2 0).bind fun v15 =>
          (ya_rd d_t_heapOf 6 v15).bind fun v17 =>
          (fX5_get d_t_now y2 1).bind fun v19 =>
          (ya_rd d_t_heapOf 6 v19).bind fun v21 =>
          (fX5_heaps_L78 N N y1 y2 v17 v21 0 d_t_heapOf).bind fun v51 =>
          ya_lt (y2 + 1) fun v53 =>
          fX5_heaps_L31 N n y1 v53 d_t_now v51
        else
          ya_lt (y2 + 1) fun v55 =>
          fX5_heaps_L31 N n y1 v55 d_t_now d_t_heapOf))
def fX5_heaps_L23 (N : Nat) (n : Nat) (y1 : Int32) (d_t_now : Nat → Int32) (d_t_heapOf : Nat → Int32) : Option (Nat → Int32) := match n with
  | 0 => none
  | n + 1 =>
    (if 6 ≤ y1 then
        some d_t_heapOf
      else
        (fX5_heaps_L31 N N y1 0 d_t_now d_t_heapOf).bind fun v57 =>
        ya_lt (y1 + 1) fun v59 =>
        fX5_heaps_L23 N n v59 d_t_now v57)
def fX5_heaps (N : Nat) (c_t_now : Nat → Int32) (c_t_heapOf : Nat → Int32)  : Option (Nat → Int32) :=
  (fX5_heaps_L2 N N 0 c_t_heapOf).bind fun v6 =>
  (fX5_heaps_L23 N N 0 c_t_now v6).bind fun v61 =>
  some v61
theorem fX5_heaps_16 : yF wsX5_heaps RX5 16 5 3 RX5 TX5 19 := ⟨rfl, by decide, by decide +kernel, by decide +kernel⟩
abbrev rmX5_heaps : Room := { frames := 2, cells := 0, slots := 0, locals := 43 }
theorem eX5_heaps : yY yX5_heaps wsX5_heaps cX5_heaps 6 none rmX5_heaps 0 := ⟨⟨_, rfl⟩, rfl, rfl, by decide, by decide, by decide +kernel⟩
set_option maxHeartbeats 4000000 in
set_option maxRecDepth 100000 in
theorem mX5_heaps {l : Launch} {D : va_G} {sz : Nat} {cI cJ cZ cW cR : ClassId} {N : Nat} {h_t : Nat} {A_t : Nat → Nat} {c_t_many : Int32} {c_t_below : Int64} {c_t_above1 : Int64} {c_t_below1 : Int64} {c_t_now : Nat → Int32} {c_t_heapOf : Nat → Int32} {zc_t_heapOf : Nat → Int32} (hf : fX5_heaps N c_t_now c_t_heapOf = some zc_t_heapOf) : Met l yX5_heaps wsX5_heaps rmX5_heaps (yP D (yT cI cJ cZ cW cR) [(h_t, oR A_t c_t_many c_t_below c_t_above1 c_t_below1), (A_t 0, eI cI 242 c_t_now), (A_t 2, eI cI 6 c_t_heapOf)] sz [.ref h_t]) (yQv D (yT cI cJ cZ cW cR) [(h_t, oR A_t c_t_many c_t_below c_t_above1 c_t_below1), (A_t 0, eI cI 242 c_t_now), (A_t 2, eI cI 6 zc_t_heapOf)] (va_A [(h_t, oR A_t c_t_many c_t_below c_t_above1 c_t_below1), (A_t 0, eI cI 242 c_t_now), (A_t 2, eI cI 6 c_t_heapOf)] sz)) 0 0 (va_A [(h_t, oR A_t c_t_many c_t_below c_t_above1 c_t_below1), (A_t 0, eI cI 242 c_t_now), (A_t 2, eI cI 6 c_t_heapOf)] sz) := by
  refine yM (cc := cX5_heaps) (maxL := 6) (ret := none) RX5 (by decide) rfl rfl (Nat.le_of_ble_eq_true rfl) ?_
  intro p e s m below meth c Γ hr
  have loop2 : ∀ (n : Nat) (y1 : Int32) (d_t_many : Int32) (d_t_below : Int64) (d_t_above1 : Int64) (d_t_below1 : Int64) (d_t_now : Nat → Int32) (d_t_heapOf : Nat → Int32) (w0 : Nat → Int32), fX5_heaps_L2 N n y1 d_t_heapOf = some w0 → yG p l e (headSpec wsX5_heaps rmX5_heaps).room s m (List.toArray [.ref h_t]) below meth c D (va_A [(h_t, oR A_t c_t_many c_t_below c_t_above1 c_t_below1), (A_t 0, eI cI 242 c_t_now), (A_t 2, eI cI 6 c_t_heapOf)] sz) 6 0 0 (MQ below (yQv D (yT cI cJ cZ cW cR) [(h_t, oR A_t c_t_many c_t_below c_t_above1 c_t_below1), (A_t 0, eI cI 242 c_t_now), (A_t 2, eI cI 6 zc_t_heapOf)] (va_A [(h_t, oR A_t c_t_many c_t_below c_t_above1 c_t_below1), (A_t 0, eI cI 242 c_t_now), (A_t 2, eI cI 6 c_t_heapOf)] sz)) (List.toArray [.ref h_t]) s 0 0 (va_A [(h_t, oR A_t c_t_many c_t_below c_t_above1 c_t_below1), (A_t 0, eI cI 242 c_t_now), (A_t 2, eI cI 6 c_t_heapOf)] sz)) 21 [(0, .ref h_t)] [] [(h_t, oR A_t d_t_many d_t_below d_t_above1 d_t_below1), (A_t 0, eI cI 242 d_t_now), (A_t 2, eI cI 6 w0)] → yG p l e (headSpec wsX5_heaps rmX5_heaps).room s m (List.toArray [.ref h_t]) below meth c D (va_A [(h_t, oR A_t c_t_many c_t_below c_t_above1 c_t_below1), (A_t 0, eI cI 242 c_t_now), (A_t 2, eI cI 6 c_t_heapOf)] sz) 6 0 0 (MQ below (yQv D (yT cI cJ cZ cW cR) [(h_t, oR A_t c_t_many c_t_below c_t_above1 c_t_below1), (A_t 0, eI cI 242 c_t_now), (A_t 2, eI cI 6 zc_t_heapOf)] (va_A [(h_t, oR A_t c_t_many c_t_below c_t_above1 c_t_below1), (A_t 0, eI cI 242 c_t_now), (A_t 2, eI cI 6 c_t_heapOf)] sz)) (List.toArray [.ref h_t]) s 0 0 (va_A [(h_t, oR A_t c_t_many c_t_below c_t_above1 c_t_below1), (A_t 0, eI cI 242 c_t_now), (A_t 2, eI cI 6 c_t_heapOf)] sz)) 2 [(0, .ref h_t), (1, .int y1)] [] [(h_t, oR A_t d_t_many d_t_below d_t_above1 d_t_below1), (A_t 0, eI cI 242 d_t_now), (A_t 2, eI cI 6 d_t_heapOf)] := by
    intro n
    induction n with
    | zero =>
      intro y1 d_t_many d_t_below d_t_above1 d_t_below1 d_t_now d_t_heapOf w0 hf
      cases hf
    | succ n ih =>
      intro y1 d_t_many d_t_below d_t_above1 d_t_below1 d_t_now d_t_heapOf w0 hf hk
      unfold fX5_heaps_L2 at hf
      refine g_iload_n Γ 1 dX5_heaps_2 rfl ?_
      refine g_bipush (v := 6) Γ dX5_heaps_3 (by decide) ?_
      refine g_icmp_ge Γ 21 dX5_heaps_5 (by decide) (fun c1 => ?_) (fun c1 => ?_)
      · have hf := ya_if1 c1 hf
        cases hf
        refine g_lv [0] rfl ?_
        exact hk
      · have hf := ya_if2 c1 hf
        refine g_aload_n Γ 0 dX5_heaps_8 rfl ?_
        refine g_get Γ fX5_heaps_16 0 rfl rfl dX5_heaps_9 ?_
        refine g_iload_n Γ 1 dX5_heaps_12 rfl ?_
        refine g_iload_n Γ 1 dX5_heaps_13 rfl ?_
        obtain ⟨v2, e3, hf⟩ := ya_ob hf
        refine g_iast (ws' := [(h_t, oR A_t d_t_many d_t_below d_t_above1 d_t_below1), (A_t 0, eI cI 242 d_t_now), (A_t 2, eI cI 6 v2)]) Γ e3 2 0 rfl rfl dX5_heaps_14 rfl ?_
        obtain ⟨v4, e5, hf⟩ := ya_lt_inv hf
        refine g_iinc (lv' := [(1, .int v4), (0, .ref h_t)]) Γ 1 dX5_heaps_15 rfl (by rw [e5]; rfl) (by decide) rfl ?_
        refine g_goto Γ 2 dX5_heaps_18 (by decide) ?_
        refine g_lv [1, 0] rfl ?_
        exact ih _ _ _ _ _ _ _ _ hf hk
  have loop78 : ∀ (n : Nat) (y1 : Int32) (y2 : Int32) (y3 : Int32) (y4 : Int32) (y5 : Int32) (d_t_many : Int32) (d_t_below : Int64) (d_t_above1 : Int64) (d_t_below1 : Int64) (d_t_now : Nat → Int32) (d_t_heapOf : Nat → Int32) (w0 : Nat → Int32), fX5_heaps_L78 N n y1 y2 y3 y4 y5 d_t_heapOf = some w0 → yG p l e (headSpec wsX5_heaps rmX5_heaps).room s m (List.toArray [.ref h_t]) below meth c D (va_A [(h_t, oR A_t c_t_many c_t_below c_t_above1 c_t_below1), (A_t 0, eI cI 242 c_t_now), (A_t 2, eI cI 6 c_t_heapOf)] sz) 6 0 0 (MQ below (yQv D (yT cI cJ cZ cW cR) [(h_t, oR A_t c_t_many c_t_below c_t_above1 c_t_below1), (A_t 0, eI cI 242 c_t_now), (A_t 2, eI cI 6 zc_t_heapOf)] (va_A [(h_t, oR A_t c_t_many c_t_below c_t_above1 c_t_below1), (A_t 0, eI cI 242 c_t_now), (A_t 2, eI cI 6 c_t_heapOf)] sz)) (List.toArray [.ref h_t]) s 0 0 (va_A [(h_t, oR A_t c_t_many c_t_below c_t_above1 c_t_below1), (A_t 0, eI cI 242 c_t_now), (A_t 2, eI cI 6 c_t_heapOf)] sz)) 132 [(0, .ref h_t), (1, .int y1), (2, .int y2)] [] [(h_t, oR A_t d_t_many d_t_below d_t_above1 d_t_below1), (A_t 0, eI cI 242 d_t_now), (A_t 2, eI cI 6 w0)] → yG p l e (headSpec wsX5_heaps rmX5_heaps).room s m (List.toArray [.ref h_t]) below meth c D (va_A [(h_t, oR A_t c_t_many c_t_below c_t_above1 c_t_below1), (A_t 0, eI cI 242 c_t_now), (A_t 2, eI cI 6 c_t_heapOf)] sz) 6 0 0 (MQ below (yQv D (yT cI cJ cZ cW cR) [(h_t, oR A_t c_t_many c_t_below c_t_above1 c_t_below1), (A_t 0, eI cI 242 c_t_now), (A_t 2, eI cI 6 zc_t_heapOf)] (va_A [(h_t, oR A_t c_t_many c_t_below c_t_above1 c_t_below1), (A_t 0, eI cI 242 c_t_now), (A_t 2, eI cI 6 c_t_heapOf)] sz)) (List.toArray [.ref h_t]) s 0 0 (va_A [(h_t, oR A_t c_t_many c_t_below c_t_above1 c_t_below1), (A_t 0, eI cI 242 c_t_now), (A_t 2, eI cI 6 c_t_heapOf)] sz)) 78 [(0, .ref h_t), (1, .int y1), (2, .int y2), (3, .int y3), (4, .int y4), (5, .int y5)] [] [(h_t, oR A_t d_t_many d_t_below d_t_above1 d_t_below1), (A_t 0, eI cI 242 d_t_now), (A_t 2, eI cI 6 d_t_heapOf)] := by
    intro n
    induction n with
    | zero =>
      intro y1 y2 y3 y4 y5 d_t_many d_t_below d_t_above1 d_t_below1 d_t_now d_t_heapOf w0 hf
      cases hf
    | succ n ih =>
      intro y1 y2 y3 y4 y5 d_t_many d_t_below d_t_above1 d_t_below1 d_t_now d_t_heapOf w0 hf hk
      unfold fX5_heaps_L78 at hf
      refine g_iload Γ 5 dX5_heaps_78 rfl ?_
      refine g_bipush (v := 6) Γ dX5_heaps_80 (by decide) ?_
      refine g_icmp_ge Γ 132 dX5_heaps_82 (by decide) (fun c23 => ?_) (fun c23 => ?_)
      · have hf := ya_if1 c23 hf
        cases hf
        refine g_lv [0, 1, 2] rfl ?_
        exact hk
      · have hf := ya_if2 c23 hf
        refine g_aload_n Γ 0 dX5_heaps_85 rfl ?_
        refine g_get Γ fX5_heaps_16 0 rfl rfl dX5_heaps_86 ?_
        refine g_iload Γ 5 dX5_heaps_89 rfl ?_
        obtain ⟨v24, e25, hf⟩ := ya_ob hf
        refine g_iald Γ e25 2 0 rfl rfl dX5_heaps_91 ?_
        refine g_iload_n Γ 3 dX5_heaps_92 rfl ?_
        refine g_iload Γ 4 dX5_heaps_93 rfl ?_
        refine g_icmp_le Γ 102 dX5_heaps_95 (by decide) (fun c26 => ?_) (fun c26 => ?_)
        · have hf := ya_if1 c26 hf
          refine g_iload Γ 4 dX5_heaps_102 rfl ?_
          refine g_icmp_ne Γ 126 dX5_heaps_104 (by decide) (fun c27 => ?_) (fun c27 => ?_)
          · have hf := ya_if2 c27 hf
            obtain ⟨v28, e29, hf⟩ := ya_lt_inv hf
            refine g_iinc (lv' := [(5, .int v28), (0, .ref h_t), (1, .int y1), (2, .int y2), (3, .int y3), (4, .int y4)]) Γ 5 dX5_heaps_126 rfl (by rw [e29]; rfl) (by decide) rfl ?_
            refine g_goto Γ 78 dX5_heaps_129 (by decide) ?_
            refine g_lv [1, 2, 3, 4, 5, 0] rfl ?_
            exact ih _ _ _ _ _ _ _ _ _ _ _ _ hf hk
          · have hf := ya_if1 c27 hf
            refine g_aload_n Γ 0 dX5_heaps_107 rfl ?_
            refine g_get Γ fX5_heaps_16 0 rfl rfl dX5_heaps_108 ?_
            refine g_iload Γ 5 dX5_heaps_111 rfl ?_
            refine g_iload_n Γ 3 dX5_heaps_113 rfl ?_
            refine g_iload Γ 4 dX5_heaps_114 rfl ?_
            refine g_icmp_ge Γ 123 dX5_heaps_116 (by decide) (fun c30 => ?_) (fun c30 => ?_)
            · have hf := ya_if1 c30 hf
              refine g_iload Γ 4 dX5_heaps_123 rfl ?_
              obtain ⟨v31, e32, hf⟩ := ya_ob hf
              refine g_iast (ws' := [(h_t, oR A_t d_t_many d_t_below d_t_above1 d_t_below1), (A_t 0, eI cI 242 d_t_now), (A_t 2, eI cI 6 v31)]) Γ e32 2 0 rfl rfl dX5_heaps_125 rfl ?_
              obtain ⟨v33, e34, hf⟩ := ya_lt_inv hf
              refine g_iinc (lv' := [(5, .int v33), (0, .ref h_t), (1, .int y1), (2, .int y2), (3, .int y3), (4, .int y4)]) Γ 5 dX5_heaps_126 rfl (by rw [e34]; rfl) (by decide) rfl ?_
              refine g_goto Γ 78 dX5_heaps_129 (by decide) ?_
              refine g_lv [1, 2, 3, 4, 5, 0] rfl ?_
              exact ih _ _ _ _ _ _ _ _ _ _ _ _ hf hk
            · have hf := ya_if2 c30 hf
              refine g_iload_n Γ 3 dX5_heaps_119 rfl ?_
              refine g_goto Γ 125 dX5_heaps_120 (by decide) ?_
              obtain ⟨v35, e36, hf⟩ := ya_ob hf
              refine g_iast (ws' := [(h_t, oR A_t d_t_many d_t_below d_t_above1 d_t_below1), (A_t 0, eI cI 242 d_t_now), (A_t 2, eI cI 6 v35)]) Γ e36 2 0 rfl rfl dX5_heaps_125 rfl ?_
              obtain ⟨v37, e38, hf⟩ := ya_lt_inv hf
              refine g_iinc (lv' := [(5, .int v37), (0, .ref h_t), (1, .int y1), (2, .int y2), (3, .int y3), (4, .int y4)]) Γ 5 dX5_heaps_126 rfl (by rw [e38]; rfl) (by decide) rfl ?_
              refine g_goto Γ 78 dX5_heaps_129 (by decide) ?_
              refine g_lv [1, 2, 3, 4, 5, 0] rfl ?_
              exact ih _ _ _ _ _ _ _ _ _ _ _ _ hf hk
        · have hf := ya_if2 c26 hf
          refine g_iload_n Γ 3 dX5_heaps_98 rfl ?_
          refine g_goto Γ 104 dX5_heaps_99 (by decide) ?_
          refine g_icmp_ne Γ 126 dX5_heaps_104 (by decide) (fun c39 => ?_) (fun c39 => ?_)
          · have hf := ya_if2 c39 hf
            obtain ⟨v40, e41, hf⟩ := ya_lt_inv hf
            refine g_iinc (lv' := [(5, .int v40), (0, .ref h_t), (1, .int y1), (2, .int y2), (3, .int y3), (4, .int y4)]) Γ 5 dX5_heaps_126 rfl (by rw [e41]; rfl) (by decide) rfl ?_
            refine g_goto Γ 78 dX5_heaps_129 (by decide) ?_
            refine g_lv [1, 2, 3, 4, 5, 0] rfl ?_
            exact ih _ _ _ _ _ _ _ _ _ _ _ _ hf hk
          · have hf := ya_if1 c39 hf
            refine g_aload_n Γ 0 dX5_heaps_107 rfl ?_
            refine g_get Γ fX5_heaps_16 0 rfl rfl dX5_heaps_108 ?_
            refine g_iload Γ 5 dX5_heaps_111 rfl ?_
            refine g_iload_n Γ 3 dX5_heaps_113 rfl ?_
            refine g_iload Γ 4 dX5_heaps_114 rfl ?_
            refine g_icmp_ge Γ 123 dX5_heaps_116 (by decide) (fun c42 => ?_) (fun c42 => ?_)
            · have hf := ya_if1 c42 hf
              refine g_iload Γ 4 dX5_heaps_123 rfl ?_
              obtain ⟨v43, e44, hf⟩ := ya_ob hf
              refine g_iast (ws' := [(h_t, oR A_t d_t_many d_t_below d_t_above1 d_t_below1), (A_t 0, eI cI 242 d_t_now), (A_t 2, eI cI 6 v43)]) Γ e44 2 0 rfl rfl dX5_heaps_125 rfl ?_
              obtain ⟨v45, e46, hf⟩ := ya_lt_inv hf
              refine g_iinc (lv' := [(5, .int v45), (0, .ref h_t), (1, .int y1), (2, .int y2), (3, .int y3), (4, .int y4)]) Γ 5 dX5_heaps_126 rfl (by rw [e46]; rfl) (by decide) rfl ?_
              refine g_goto Γ 78 dX5_heaps_129 (by decide) ?_
              refine g_lv [1, 2, 3, 4, 5, 0] rfl ?_
              exact ih _ _ _ _ _ _ _ _ _ _ _ _ hf hk
            · have hf := ya_if2 c42 hf
              refine g_iload_n Γ 3 dX5_heaps_119 rfl ?_
              refine g_goto Γ 125 dX5_heaps_120 (by decide) ?_
              obtain ⟨v47, e48, hf⟩ := ya_ob hf
              refine g_iast (ws' := [(h_t, oR A_t d_t_many d_t_below d_t_above1 d_t_below1), (A_t 0, eI cI 242 d_t_now), (A_t 2, eI cI 6 v47)]) Γ e48 2 0 rfl rfl dX5_heaps_125 rfl ?_
              obtain ⟨v49, e50, hf⟩ := ya_lt_inv hf
              refine g_iinc (lv' := [(5, .int v49), (0, .ref h_t), (1, .int y1), (2, .int y2), (3, .int y3), (4, .int y4)]) Γ 5 dX5_heaps_126 rfl (by rw [e50]; rfl) (by decide) rfl ?_
              refine g_goto Γ 78 dX5_heaps_129 (by decide) ?_
              refine g_lv [1, 2, 3, 4, 5, 0] rfl ?_
              exact ih _ _ _ _ _ _ _ _ _ _ _ _ hf hk
  have loop31 : ∀ (n : Nat) (y1 : Int32) (y2 : Int32) (d_t_many : Int32) (d_t_below : Int64) (d_t_above1 : Int64) (d_t_below1 : Int64) (d_t_now : Nat → Int32) (d_t_heapOf : Nat → Int32) (w0 : Nat → Int32), fX5_heaps_L31 N n y1 y2 d_t_now d_t_heapOf = some w0 → yG p l e (headSpec wsX5_heaps rmX5_heaps).room s m (List.toArray [.ref h_t]) below meth c D (va_A [(h_t, oR A_t c_t_many c_t_below c_t_above1 c_t_below1), (A_t 0, eI cI 242 c_t_now), (A_t 2, eI cI 6 c_t_heapOf)] sz) 6 0 0 (MQ below (yQv D (yT cI cJ cZ cW cR) [(h_t, oR A_t c_t_many c_t_below c_t_above1 c_t_below1), (A_t 0, eI cI 242 c_t_now), (A_t 2, eI cI 6 zc_t_heapOf)] (va_A [(h_t, oR A_t c_t_many c_t_below c_t_above1 c_t_below1), (A_t 0, eI cI 242 c_t_now), (A_t 2, eI cI 6 c_t_heapOf)] sz)) (List.toArray [.ref h_t]) s 0 0 (va_A [(h_t, oR A_t c_t_many c_t_below c_t_above1 c_t_below1), (A_t 0, eI cI 242 c_t_now), (A_t 2, eI cI 6 c_t_heapOf)] sz)) 138 [(0, .ref h_t), (1, .int y1)] [] [(h_t, oR A_t d_t_many d_t_below d_t_above1 d_t_below1), (A_t 0, eI cI 242 d_t_now), (A_t 2, eI cI 6 w0)] → yG p l e (headSpec wsX5_heaps rmX5_heaps).room s m (List.toArray [.ref h_t]) below meth c D (va_A [(h_t, oR A_t c_t_many c_t_below c_t_above1 c_t_below1), (A_t 0, eI cI 242 c_t_now), (A_t 2, eI cI 6 c_t_heapOf)] sz) 6 0 0 (MQ below (yQv D (yT cI cJ cZ cW cR) [(h_t, oR A_t c_t_many c_t_below c_t_above1 c_t_below1), (A_t 0, eI cI 242 c_t_now), (A_t 2, eI cI 6 zc_t_heapOf)] (va_A [(h_t, oR A_t c_t_many c_t_below c_t_above1 c_t_below1), (A_t 0, eI cI 242 c_t_now), (A_t 2, eI cI 6 c_t_heapOf)] sz)) (List.toArray [.ref h_t]) s 0 0 (va_A [(h_t, oR A_t c_t_many c_t_below c_t_above1 c_t_below1), (A_t 0, eI cI 242 c_t_now), (A_t 2, eI cI 6 c_t_heapOf)] sz)) 31 [(0, .ref h_t), (1, .int y1), (2, .int y2)] [] [(h_t, oR A_t d_t_many d_t_below d_t_above1 d_t_below1), (A_t 0, eI cI 242 d_t_now), (A_t 2, eI cI 6 d_t_heapOf)] := by
    intro n
    induction n with
    | zero =>
      intro y1 y2 d_t_many d_t_below d_t_above1 d_t_below1 d_t_now d_t_heapOf w0 hf
      cases hf
    | succ n ih =>
      intro y1 y2 d_t_many d_t_below d_t_above1 d_t_below1 d_t_now d_t_heapOf w0 hf hk
      unfold fX5_heaps_L31 at hf
      refine g_iload_n Γ 2 dX5_heaps_31 rfl ?_
      refine g_aload_n Γ 0 dX5_heaps_32 rfl ?_
      obtain ⟨v9, e10, hf⟩ := ya_ob hf
      refine g_vi (q := (RX5, TX5, 19)) (wr := [(A_t 2, eI cI 6 d_t_heapOf)]) (ws' := [(A_t 2, eI cI 6 d_t_heapOf), (h_t, oR A_t d_t_many d_t_below d_t_above1 d_t_below1), (A_t 0, eI cI 242 d_t_now)]) Γ (fun sz => mX5_flows (l := l) (D := D) (sz := sz) (cI := cI) (cJ := cJ) (cZ := cZ) (cW := cW) (cR := cR) (h_t := h_t) (A_t := A_t) (hf := e10)) eX5_flows gX5_heaps_X5_flows rfl rfl 0 rfl rfl rfl (Nat.le_of_ble_eq_true rfl) ⟨Nat.le_of_ble_eq_true rfl, Nat.le_of_ble_eq_true rfl⟩ dX5_heaps_33 [0, 1] [2] rfl rfl rfl rfl (by decide) rfl ?_
      refine g_icmp_ge Γ 138 dX5_heaps_36 (by decide) (fun c11 => ?_) (fun c11 => ?_)
      · have hf := ya_if1 c11 hf
        cases hf
        refine g_lv [0, 1] rfl ?_
        refine g_ws (ws' := [(h_t, oR A_t d_t_many d_t_below d_t_above1 d_t_below1), (A_t 0, eI cI 242 d_t_now), (A_t 2, eI cI 6 d_t_heapOf)]) [1, 2, 0] rfl rfl ?_
        exact hk
      · have hf := ya_if2 c11 hf
        refine g_aload_n Γ 0 dX5_heaps_39 rfl ?_
        refine g_iload_n Γ 2 dX5_heaps_40 rfl ?_
        obtain ⟨v12, e13, hf⟩ := ya_ob hf
        refine g_vi (q := (RX5, TX5, 19)) (wr := [(A_t 2, eI cI 6 d_t_heapOf)]) (ws' := [(A_t 2, eI cI 6 d_t_heapOf), (h_t, oR A_t d_t_many d_t_below d_t_above1 d_t_below1), (A_t 0, eI cI 242 d_t_now)]) Γ (fun sz => mX5_isRead (l := l) (D := D) (sz := sz) (cI := cI) (cJ := cJ) (cZ := cZ) (cW := cW) (cR := cR) (h_t := h_t) (A_t := A_t) (hf := e13)) eX5_isRead gX5_heaps_X5_isRead rfl rfl 0 rfl rfl rfl (Nat.le_of_ble_eq_true rfl) ⟨Nat.le_of_ble_eq_true rfl, Nat.le_of_ble_eq_true rfl⟩ dX5_heaps_41 [1, 2] [0] rfl rfl rfl rfl (by decide) rfl ?_
        refine g_if_eq Γ 50 dX5_heaps_44 (by decide) (fun c14 => ?_) (fun c14 => ?_)
        · have hf := ya_if1 c14 hf
          refine g_aload_n Γ 0 dX5_heaps_50 rfl ?_
          refine g_get Γ fX5_heaps_16 1 rfl rfl dX5_heaps_51 ?_
          refine g_aload_n Γ 0 dX5_heaps_54 rfl ?_
          refine g_iload_n Γ 2 dX5_heaps_55 rfl ?_
          refine g_iconst (v := 0) Γ dX5_heaps_56 (by decide) ?_
          obtain ⟨v15, e16, hf⟩ := ya_ob hf
          refine g_vi (q := (RX5, TX5, 19)) (wr := [(A_t 2, eI cI 6 d_t_heapOf)]) (ws' := [(A_t 2, eI cI 6 d_t_heapOf), (h_t, oR A_t d_t_many d_t_below d_t_above1 d_t_below1), (A_t 0, eI cI 242 d_t_now)]) Γ (fun sz => mX5_get (l := l) (D := D) (sz := sz) (cI := cI) (cJ := cJ) (cZ := cZ) (cW := cW) (cR := cR) (h_t := h_t) (A_t := A_t) (hf := e16)) eX5_get gX5_heaps_X5_get rfl rfl 0 rfl rfl rfl (Nat.le_of_ble_eq_true rfl) ⟨Nat.le_of_ble_eq_true rfl, Nat.le_of_ble_eq_true rfl⟩ dX5_heaps_57 [1, 2] [0] rfl rfl rfl rfl (by decide) rfl ?_
          obtain ⟨v17, e18, hf⟩ := ya_ob hf
          refine g_iald Γ e18 0 0 rfl rfl dX5_heaps_60 ?_
          refine g_istore_n (lv' := [(3, .int v17), (0, .ref h_t), (1, .int y1), (2, .int y2)]) Γ dX5_heaps_61 (by decide) rfl ?_
          refine g_aload_n Γ 1 dX5_heaps_62 rfl ?_
          refine g_get Γ fX5_heaps_16 1 rfl rfl dX5_heaps_63 ?_
          refine g_aload_n Γ 1 dX5_heaps_66 rfl ?_
          refine g_iload_n Γ 3 dX5_heaps_67 rfl ?_
          refine g_iconst (v := 1) Γ dX5_heaps_68 (by decide) ?_
          obtain ⟨v19, e20, hf⟩ := ya_ob hf
          refine g_vi (q := (RX5, TX5, 19)) (wr := [(A_t 2, eI cI 6 d_t_heapOf)]) (ws' := [(A_t 2, eI cI 6 d_t_heapOf), (h_t, oR A_t d_t_many d_t_below d_t_above1 d_t_below1), (A_t 0, eI cI 242 d_t_now)]) Γ (fun sz => mX5_get (l := l) (D := D) (sz := sz) (cI := cI) (cJ := cJ) (cZ := cZ) (cW := cW) (cR := cR) (h_t := h_t) (A_t := A_t) (hf := e20)) eX5_get gX5_heaps_X5_get rfl rfl 0 rfl rfl rfl (Nat.le_of_ble_eq_true rfl) ⟨Nat.le_of_ble_eq_true rfl, Nat.le_of_ble_eq_true rfl⟩ dX5_heaps_69 [1, 2] [0] rfl rfl rfl rfl (by decide) rfl ?_
          obtain ⟨v21, e22, hf⟩ := ya_ob hf
          refine g_iald Γ e22 0 0 rfl rfl dX5_heaps_72 ?_
          refine g_istore (lv' := [(4, .int v21), (3, .int v17), (0, .ref h_t), (1, .int y1), (2, .int y2)]) Γ dX5_heaps_73 (by decide) rfl ?_
          refine g_iconst (v := 0) Γ dX5_heaps_75 (by decide) ?_
          refine g_istore (lv' := [(5, .int 0), (4, .int v21), (3, .int v17), (0, .ref h_t), (1, .int y1), (2, .int y2)]) Γ dX5_heaps_76 (by decide) rfl ?_
          obtain ⟨v51, e52, hf⟩ := ya_ob hf
          refine g_lv [3, 4, 5, 2, 1, 0] rfl ?_
          refine g_ws (ws' := [(h_t, oR A_t d_t_many d_t_below d_t_above1 d_t_below1), (A_t 0, eI cI 242 d_t_now), (A_t 2, eI cI 6 d_t_heapOf)]) [1, 2, 0] rfl rfl ?_
          refine loop78 N _ _ _ _ _ _ _ _ _ _ _ _ e52  ?_
          obtain ⟨v53, e54, hf⟩ := ya_lt_inv hf
          refine g_iinc (lv' := [(2, .int v53), (0, .ref h_t), (1, .int y1)]) Γ 2 dX5_heaps_132 rfl (by rw [e54]; rfl) (by decide) rfl ?_
          refine g_goto Γ 31 dX5_heaps_135 (by decide) ?_
          refine g_lv [1, 2, 0] rfl ?_
          exact ih _ _ _ _ _ _ _ _ _ hf hk
        · have hf := ya_if2 c14 hf
          refine g_goto Γ 132 dX5_heaps_47 (by decide) ?_
          obtain ⟨v55, e56, hf⟩ := ya_lt_inv hf
          refine g_iinc (lv' := [(2, .int v55), (0, .ref h_t), (1, .int y1)]) Γ 2 dX5_heaps_132 rfl (by rw [e56]; rfl) (by decide) rfl ?_
          refine g_goto Γ 31 dX5_heaps_135 (by decide) ?_
          refine g_lv [1, 2, 0] rfl ?_
          refine g_ws (ws' := [(h_t, oR A_t d_t_many d_t_below d_t_above1 d_t_below1), (A_t 0, eI cI 242 d_t_now), (A_t 2, eI cI 6 d_t_heapOf)]) [1, 2, 0] rfl rfl ?_
          exact ih _ _ _ _ _ _ _ _ _ hf hk
  have loop23 : ∀ (n : Nat) (y1 : Int32) (d_t_many : Int32) (d_t_below : Int64) (d_t_above1 : Int64) (d_t_below1 : Int64) (d_t_now : Nat → Int32) (d_t_heapOf : Nat → Int32) (w0 : Nat → Int32), fX5_heaps_L23 N n y1 d_t_now d_t_heapOf = some w0 → yG p l e (headSpec wsX5_heaps rmX5_heaps).room s m (List.toArray [.ref h_t]) below meth c D (va_A [(h_t, oR A_t c_t_many c_t_below c_t_above1 c_t_below1), (A_t 0, eI cI 242 c_t_now), (A_t 2, eI cI 6 c_t_heapOf)] sz) 6 0 0 (MQ below (yQv D (yT cI cJ cZ cW cR) [(h_t, oR A_t c_t_many c_t_below c_t_above1 c_t_below1), (A_t 0, eI cI 242 c_t_now), (A_t 2, eI cI 6 zc_t_heapOf)] (va_A [(h_t, oR A_t c_t_many c_t_below c_t_above1 c_t_below1), (A_t 0, eI cI 242 c_t_now), (A_t 2, eI cI 6 c_t_heapOf)] sz)) (List.toArray [.ref h_t]) s 0 0 (va_A [(h_t, oR A_t c_t_many c_t_below c_t_above1 c_t_below1), (A_t 0, eI cI 242 c_t_now), (A_t 2, eI cI 6 c_t_heapOf)] sz)) 144 [] [] [(h_t, oR A_t d_t_many d_t_below d_t_above1 d_t_below1), (A_t 0, eI cI 242 d_t_now), (A_t 2, eI cI 6 w0)] → yG p l e (headSpec wsX5_heaps rmX5_heaps).room s m (List.toArray [.ref h_t]) below meth c D (va_A [(h_t, oR A_t c_t_many c_t_below c_t_above1 c_t_below1), (A_t 0, eI cI 242 c_t_now), (A_t 2, eI cI 6 c_t_heapOf)] sz) 6 0 0 (MQ below (yQv D (yT cI cJ cZ cW cR) [(h_t, oR A_t c_t_many c_t_below c_t_above1 c_t_below1), (A_t 0, eI cI 242 c_t_now), (A_t 2, eI cI 6 zc_t_heapOf)] (va_A [(h_t, oR A_t c_t_many c_t_below c_t_above1 c_t_below1), (A_t 0, eI cI 242 c_t_now), (A_t 2, eI cI 6 c_t_heapOf)] sz)) (List.toArray [.ref h_t]) s 0 0 (va_A [(h_t, oR A_t c_t_many c_t_below c_t_above1 c_t_below1), (A_t 0, eI cI 242 c_t_now), (A_t 2, eI cI 6 c_t_heapOf)] sz)) 23 [(0, .ref h_t), (1, .int y1)] [] [(h_t, oR A_t d_t_many d_t_below d_t_above1 d_t_below1), (A_t 0, eI cI 242 d_t_now), (A_t 2, eI cI 6 d_t_heapOf)] := by
    intro n
    induction n with
    | zero =>
      intro y1 d_t_many d_t_below d_t_above1 d_t_below1 d_t_now d_t_heapOf w0 hf
      cases hf
    | succ n ih =>
      intro y1 d_t_many d_t_below d_t_above1 d_t_below1 d_t_now d_t_heapOf w0 hf hk
      unfold fX5_heaps_L23 at hf
      refine g_iload_n Γ 1 dX5_heaps_23 rfl ?_
      refine g_bipush (v := 6) Γ dX5_heaps_24 (by decide) ?_
      refine g_icmp_ge Γ 144 dX5_heaps_26 (by decide) (fun c8 => ?_) (fun c8 => ?_)
      · have hf := ya_if1 c8 hf
        cases hf
        refine g_lv [] rfl ?_
        exact hk
      · have hf := ya_if2 c8 hf
        refine g_iconst (v := 0) Γ dX5_heaps_29 (by decide) ?_
        refine g_istore_n (lv' := [(2, .int 0), (0, .ref h_t), (1, .int y1)]) Γ dX5_heaps_30 (by decide) rfl ?_
        obtain ⟨v57, e58, hf⟩ := ya_ob hf
        refine g_lv [1, 2, 0] rfl ?_
        refine loop31 N _ _ _ _ _ _ _ _ _ e58  ?_
        obtain ⟨v59, e60, hf⟩ := ya_lt_inv hf
        refine g_iinc (lv' := [(1, .int v59), (0, .ref h_t)]) Γ 1 dX5_heaps_138 rfl (by rw [e60]; rfl) (by decide) rfl ?_
        refine g_goto Γ 23 dX5_heaps_141 (by decide) ?_
        refine g_lv [1, 0] rfl ?_
        exact ih _ _ _ _ _ _ _ _ hf hk
  show yG p l e (headSpec wsX5_heaps rmX5_heaps).room s m (List.toArray [.ref h_t]) below meth c D (va_A [(h_t, oR A_t c_t_many c_t_below c_t_above1 c_t_below1), (A_t 0, eI cI 242 c_t_now), (A_t 2, eI cI 6 c_t_heapOf)] sz) 6 0 0 (MQ below (yQv D (yT cI cJ cZ cW cR) [(h_t, oR A_t c_t_many c_t_below c_t_above1 c_t_below1), (A_t 0, eI cI 242 c_t_now), (A_t 2, eI cI 6 zc_t_heapOf)] (va_A [(h_t, oR A_t c_t_many c_t_below c_t_above1 c_t_below1), (A_t 0, eI cI 242 c_t_now), (A_t 2, eI cI 6 c_t_heapOf)] sz)) (List.toArray [.ref h_t]) s 0 0 (va_A [(h_t, oR A_t c_t_many c_t_below c_t_above1 c_t_below1), (A_t 0, eI cI 242 c_t_now), (A_t 2, eI cI 6 c_t_heapOf)] sz)) 0 [(0, .ref h_t)] [] [(h_t, oR A_t c_t_many c_t_below c_t_above1 c_t_below1), (A_t 0, eI cI 242 c_t_now), (A_t 2, eI cI 6 c_t_heapOf)]
  unfold fX5_heaps at hf
  refine g_iconst (v := 0) Γ dX5_heaps_0 (by decide) ?_
  refine g_istore_n (lv' := [(1, .int 0), (0, .ref h_t)]) Γ dX5_heaps_1 (by decide) rfl ?_
  obtain ⟨v6, e7, hf⟩ := ya_ob hf
  refine g_lv [1, 0] rfl ?_
  refine loop2 N _ _ _ _ _ _ _ _ e7  ?_
  refine g_iconst (v := 0) Γ dX5_heaps_21 (by decide) ?_
  refine g_istore_n (lv' := [(1, .int 0), (0, .ref h_t)]) Γ dX5_heaps_22 (by decide) rfl ?_
  obtain ⟨v61, e62, hf⟩ := ya_ob hf
  refine g_lv [1, 0] rfl ?_
  refine loop23 N _ _ _ _ _ _ _ _ e62  ?_
  cases hf
  exact g_vret Γ hr dX5_heaps_144 [0, 1, 2] rfl rfl

set_option maxRecDepth 20000 in
theorem ggX5_determinant_X5_determinant : GoodIn wsX5_determinant wsX5_determinant := goodIn_r _ [0, 1, 2, 3, 4, 5, 6, 7, 8, 9, 10, 11, 12, 13, 14, 15, 16, 17, 18, 19, 20, 21, 22, 23, 24] (by decide +kernel) (by decide +kernel)
set_option maxRecDepth 20000 in
theorem gX5_determinant_X5_determinant : GoodIn wsX5_determinant (wsV RX5 94 RX5 yX5_determinant wsX5_determinant) := goodIn_app (goodIn_of _ (by decide +kernel)) ggX5_determinant_X5_determinant
theorem dX5_determinant_0 : decode cX5_determinant 0 = .ok (.iload_n 1, 1) := by decide +kernel
theorem dX5_determinant_1 : decode cX5_determinant 1 = .ok (.ifCond .ne 5, 3) := by decide +kernel
theorem dX5_determinant_4 : decode cX5_determinant 4 = .ok (.lconst 1, 1) := by decide +kernel
theorem dX5_determinant_5 : decode cX5_determinant 5 = .ok (.lreturn, 1) := by decide +kernel
theorem dX5_determinant_6 : decode cX5_determinant 6 = .ok (.lconst 0, 1) := by decide +kernel
theorem dX5_determinant_7 : decode cX5_determinant 7 = .ok (.lstore_n 3, 1) := by decide +kernel
theorem dX5_determinant_8 : decode cX5_determinant 8 = .ok (.bipush 36, 2) := by decide +kernel
theorem dX5_determinant_10 : decode cX5_determinant 10 = .ok (.iload_n 2, 1) := by decide +kernel
theorem dX5_determinant_11 : decode cX5_determinant 11 = .ok (.imul, 1) := by decide +kernel
theorem dX5_determinant_12 : decode cX5_determinant 12 = .ok (.istore 5, 2) := by decide +kernel
theorem dX5_determinant_14 : decode cX5_determinant 14 = .ok (.iconst 0, 1) := by decide +kernel
theorem dX5_determinant_15 : decode cX5_determinant 15 = .ok (.istore 6, 2) := by decide +kernel
theorem dX5_determinant_17 : decode cX5_determinant 17 = .ok (.iload 6, 2) := by decide +kernel
theorem dX5_determinant_19 : decode cX5_determinant 19 = .ok (.iload_n 1, 1) := by decide +kernel
theorem dX5_determinant_20 : decode cX5_determinant 20 = .ok (.if_icmp .ge 147, 3) := by decide +kernel
theorem dX5_determinant_23 : decode cX5_determinant 23 = .ok (.aload_n 0, 1) := by decide +kernel
theorem dX5_determinant_24 : decode cX5_determinant 24 = .ok (.getfield 35, 3) := by decide +kernel
theorem dX5_determinant_27 : decode cX5_determinant 27 = .ok (.iload 5, 2) := by decide +kernel
theorem dX5_determinant_29 : decode cX5_determinant 29 = .ok (.iload 6, 2) := by decide +kernel
theorem dX5_determinant_31 : decode cX5_determinant 31 = .ok (.iadd, 1) := by decide +kernel
theorem dX5_determinant_32 : decode cX5_determinant 32 = .ok (.laload, 1) := by decide +kernel
theorem dX5_determinant_33 : decode cX5_determinant 33 = .ok (.lstore 7, 2) := by decide +kernel
theorem dX5_determinant_35 : decode cX5_determinant 35 = .ok (.lload 7, 2) := by decide +kernel
theorem dX5_determinant_37 : decode cX5_determinant 37 = .ok (.lconst 0, 1) := by decide +kernel
theorem dX5_determinant_38 : decode cX5_determinant 38 = .ok (.lcmp, 1) := by decide +kernel
theorem dX5_determinant_39 : decode cX5_determinant 39 = .ok (.ifCond .ne 6, 3) := by decide +kernel
theorem dX5_determinant_42 : decode cX5_determinant 42 = .ok (.goto 119, 3) := by decide +kernel
theorem dX5_determinant_45 : decode cX5_determinant 45 = .ok (.iconst 1, 1) := by decide +kernel
theorem dX5_determinant_46 : decode cX5_determinant 46 = .ok (.istore 9, 2) := by decide +kernel
theorem dX5_determinant_48 : decode cX5_determinant 48 = .ok (.iload 9, 2) := by decide +kernel
theorem dX5_determinant_50 : decode cX5_determinant 50 = .ok (.iload_n 1, 1) := by decide +kernel
theorem dX5_determinant_51 : decode cX5_determinant 51 = .ok (.if_icmp .ge 77, 3) := by decide +kernel
theorem dX5_determinant_54 : decode cX5_determinant 54 = .ok (.iconst 0, 1) := by decide +kernel
theorem dX5_determinant_55 : decode cX5_determinant 55 = .ok (.istore 10, 2) := by decide +kernel
theorem dX5_determinant_57 : decode cX5_determinant 57 = .ok (.iconst 0, 1) := by decide +kernel
theorem dX5_determinant_58 : decode cX5_determinant 58 = .ok (.istore 11, 2) := by decide +kernel
theorem dX5_determinant_60 : decode cX5_determinant 60 = .ok (.iload 11, 2) := by decide +kernel
theorem dX5_determinant_62 : decode cX5_determinant 62 = .ok (.iload_n 1, 1) := by decide +kernel
theorem dX5_determinant_63 : decode cX5_determinant 63 = .ok (.if_icmp .ge 59, 3) := by decide +kernel
theorem dX5_determinant_66 : decode cX5_determinant 66 = .ok (.iload 11, 2) := by decide +kernel
theorem dX5_determinant_68 : decode cX5_determinant 68 = .ok (.iload 6, 2) := by decide +kernel
theorem dX5_determinant_70 : decode cX5_determinant 70 = .ok (.if_icmp .ne 6, 3) := by decide +kernel
theorem dX5_determinant_73 : decode cX5_determinant 73 = .ok (.goto 43, 3) := by decide +kernel
theorem dX5_determinant_76 : decode cX5_determinant 76 = .ok (.aload_n 0, 1) := by decide +kernel
theorem dX5_determinant_77 : decode cX5_determinant 77 = .ok (.getfield 35, 3) := by decide +kernel
theorem dX5_determinant_80 : decode cX5_determinant 80 = .ok (.iload 5, 2) := by decide +kernel
theorem dX5_determinant_82 : decode cX5_determinant 82 = .ok (.bipush 36, 2) := by decide +kernel
theorem dX5_determinant_84 : decode cX5_determinant 84 = .ok (.iadd, 1) := by decide +kernel
theorem dX5_determinant_85 : decode cX5_determinant 85 = .ok (.bipush 6, 2) := by decide +kernel
theorem dX5_determinant_87 : decode cX5_determinant 87 = .ok (.iload 9, 2) := by decide +kernel
theorem dX5_determinant_89 : decode cX5_determinant 89 = .ok (.iconst 1, 1) := by decide +kernel
theorem dX5_determinant_90 : decode cX5_determinant 90 = .ok (.isub, 1) := by decide +kernel
theorem dX5_determinant_91 : decode cX5_determinant 91 = .ok (.imul, 1) := by decide +kernel
theorem dX5_determinant_92 : decode cX5_determinant 92 = .ok (.iadd, 1) := by decide +kernel
theorem dX5_determinant_93 : decode cX5_determinant 93 = .ok (.iload 10, 2) := by decide +kernel
theorem dX5_determinant_95 : decode cX5_determinant 95 = .ok (.iadd, 1) := by decide +kernel
theorem dX5_determinant_96 : decode cX5_determinant 96 = .ok (.aload_n 0, 1) := by decide +kernel
theorem dX5_determinant_97 : decode cX5_determinant 97 = .ok (.getfield 35, 3) := by decide +kernel
theorem dX5_determinant_100 : decode cX5_determinant 100 = .ok (.iload 5, 2) := by decide +kernel
theorem dX5_determinant_102 : decode cX5_determinant 102 = .ok (.bipush 6, 2) := by decide +kernel
theorem dX5_determinant_104 : decode cX5_determinant 104 = .ok (.iload 9, 2) := by decide +kernel
theorem dX5_determinant_106 : decode cX5_determinant 106 = .ok (.imul, 1) := by decide +kernel
theorem dX5_determinant_107 : decode cX5_determinant 107 = .ok (.iadd, 1) := by decide +kernel
theorem dX5_determinant_108 : decode cX5_determinant 108 = .ok (.iload 11, 2) := by decide +kernel
theorem dX5_determinant_110 : decode cX5_determinant 110 = .ok (.iadd, 1) := by decide +kernel
theorem dX5_determinant_111 : decode cX5_determinant 111 = .ok (.laload, 1) := by decide +kernel
theorem dX5_determinant_112 : decode cX5_determinant 112 = .ok (.lastore, 1) := by decide +kernel
theorem dX5_determinant_113 : decode cX5_determinant 113 = .ok (.iinc 10 1, 3) := by decide +kernel
theorem dX5_determinant_116 : decode cX5_determinant 116 = .ok (.iinc 11 1, 3) := by decide +kernel
theorem dX5_determinant_119 : decode cX5_determinant 119 = .ok (.goto (-59), 3) := by decide +kernel
theorem dX5_determinant_122 : decode cX5_determinant 122 = .ok (.iinc 9 1, 3) := by decide +kernel
theorem dX5_determinant_125 : decode cX5_determinant 125 = .ok (.goto (-77), 3) := by decide +kernel
theorem dX5_determinant_128 : decode cX5_determinant 128 = .ok (.lload 7, 2) := by decide +kernel
theorem dX5_determinant_130 : decode cX5_determinant 130 = .ok (.aload_n 0, 1) := by decide +kernel
theorem dX5_determinant_131 : decode cX5_determinant 131 = .ok (.iload_n 1, 1) := by decide +kernel
theorem dX5_determinant_132 : decode cX5_determinant 132 = .ok (.iconst 1, 1) := by decide +kernel
theorem dX5_determinant_133 : decode cX5_determinant 133 = .ok (.isub, 1) := by decide +kernel
theorem dX5_determinant_134 : decode cX5_determinant 134 = .ok (.iload_n 2, 1) := by decide +kernel
theorem dX5_determinant_135 : decode cX5_determinant 135 = .ok (.iconst 1, 1) := by decide +kernel
theorem dX5_determinant_136 : decode cX5_determinant 136 = .ok (.iadd, 1) := by decide +kernel
theorem dX5_determinant_137 : decode cX5_determinant 137 = .ok (.invokevirtual 94, 3) := by decide +kernel
theorem dX5_determinant_140 : decode cX5_determinant 140 = .ok (.lmul, 1) := by decide +kernel
theorem dX5_determinant_141 : decode cX5_determinant 141 = .ok (.lstore 9, 2) := by decide +kernel
theorem dX5_determinant_143 : decode cX5_determinant 143 = .ok (.lload_n 3, 1) := by decide +kernel
theorem dX5_determinant_144 : decode cX5_determinant 144 = .ok (.iload 6, 2) := by decide +kernel
theorem dX5_determinant_146 : decode cX5_determinant 146 = .ok (.iconst 2, 1) := by decide +kernel
theorem dX5_determinant_147 : decode cX5_determinant 147 = .ok (.irem, 1) := by decide +kernel
theorem dX5_determinant_148 : decode cX5_determinant 148 = .ok (.ifCond .ne 8, 3) := by decide +kernel
theorem dX5_determinant_151 : decode cX5_determinant 151 = .ok (.lload 9, 2) := by decide +kernel
theorem dX5_determinant_153 : decode cX5_determinant 153 = .ok (.goto 6, 3) := by decide +kernel
theorem dX5_determinant_156 : decode cX5_determinant 156 = .ok (.lload 9, 2) := by decide +kernel
theorem dX5_determinant_158 : decode cX5_determinant 158 = .ok (.lneg, 1) := by decide +kernel
theorem dX5_determinant_159 : decode cX5_determinant 159 = .ok (.ladd, 1) := by decide +kernel
theorem dX5_determinant_160 : decode cX5_determinant 160 = .ok (.lstore_n 3, 1) := by decide +kernel
theorem dX5_determinant_161 : decode cX5_determinant 161 = .ok (.iinc 6 1, 3) := by decide +kernel
theorem dX5_determinant_164 : decode cX5_determinant 164 = .ok (.goto (-147), 3) := by decide +kernel
theorem dX5_determinant_167 : decode cX5_determinant 167 = .ok (.lload_n 3, 1) := by decide +kernel
theorem dX5_determinant_168 : decode cX5_determinant 168 = .ok (.lreturn, 1) := by decide +kernel
/-! ===== FlowMetersModel.determinant(II)J ===== -/
def fX5_determinant_L60 (N : Nat) (n : Nat) (y1 : Int32) (y2 : Int32) (y3 : Int64) (y5 : Int32) (y6 : Int32) (y7 : Int64) (y9 : Int32) (y10 : Int32) (y11 : Int32) (d_t_work : Nat → Int64) : Option (Nat → Int64) := match n with
  | 0 => none
  | n + 1 =>
    (if y1 ≤ y11 then
        some d_t_work
      else
        (if y11 = y6 then
          ya_lt (y11 + 1) fun v19 =>
          fX5_determinant_L60 N n y1 y2 y3 y5 y6 y7 y9 y10 v19 d_t_work
        else
          (ya_rd d_t_work 216 ((y5 + (6 * y9)) + y11)).bind fun v11 =>
          (ya_wr d_t_work 216 (((y5 + 36) + (6 * (y9 - 1))) + y10) v11).bind fun v13 =>
          ya_lt (y10 + 1) fun v15 =>
          ya_lt (y11 + 1) fun v17 =>
          fX5_determinant_L60 N n y1 y2 y3 y5 y6 y7 y9 v15 v17 v13))
def fX5_determinant_L48 (N : Nat) (n : Nat) (y1 : Int32) (y2 : Int32) (y3 : Int64) (y5 : Int32) (y6 : Int32) (y7 : Int64) (y9 : Int32) (d_t_work : Nat → Int64) : Option (Nat → Int64) := match n with
  | 0 => none
  | n + 1 =>
    (if y1 ≤ y9 then
        some d_t_work
      else
        (fX5_determinant_L60 N N y1 y2 y3 y5 y6 y7 y9 0 0 d_t_work).bind fun v21 =>
        ya_lt (y9 + 1) fun v23 =>
        fX5_determinant_L48 N n y1 y2 y3 y5 y6 y7 v23 v21)
def fX5_determinant_L17 (rec : (Nat → Int64) → Int32 → Int32 → Option (Int64 × (Nat → Int64))) (N : Nat) (n : Nat) (y1 : Int32) (y2 : Int32) (y3 : Int64) (y5 : Int32) (y6 : Int32) (d_t_work : Nat → Int64) : Option (Int64 × (Nat → Int64)) := match n with
  | 0 => none
  | n + 1 =>
    (if y1 ≤ y6 then
        some (y3, d_t_work)
      else
        (ya_rd d_t_work 216 (y5 + y6)).bind fun v5 =>
        (if (lg_cmp v5 0) = 0 then
          ya_lt (y6 + 1) fun v43 =>
          fX5_determinant_L17 rec N n y1 y2 y3 y5 v43 d_t_work
        else
          (fX5_determinant_L48 N N y1 y2 y3 y5 y6 v5 1 d_t_work).bind fun v25 =>
          (rec v25 (y1 - 1) (y2 + 1)).bind fun (v27, v28) =>
          ya_lt (v5 * v27) fun v30 =>
          (ya_irm y6 2).bind fun v32 =>
          (if v32 = 0 then
            ya_lt (y3 + v30) fun v39 =>
            ya_lt (y6 + 1) fun v41 =>
            fX5_determinant_L17 rec N n y1 y2 v39 y5 v41 v28
          else
            ya_lt (y3 + (-v30)) fun v35 =>
            ya_lt (y6 + 1) fun v37 =>
            fX5_determinant_L17 rec N n y1 y2 v35 y5 v37 v28)))
def fX5_determinant (N : Nat) (d : Nat) (c_t_work : Nat → Int64) (x1 : Int32) (x2 : Int32) : Option (Int64 × (Nat → Int64)) := match d with
  | 0 => none
  | d + 1 =>
  (if x1 = 0 then
    some (1, c_t_work)
  else
    ya_lt (36 * x2) fun v2 =>
    (fX5_determinant_L17 (fX5_determinant N d) N N x1 x2 0 v2 0 c_t_work).bind fun (v45, v46) =>
    some (v45, v46))
theorem fX5_determinant_35 : yF wsX5_determinant RX5 35 5 9 RX5 TX5 19 := ⟨rfl, by decide, by decide +kernel, by decide +kernel⟩
abbrev rmX5_determinant (d : Nat) : Room := { frames := d, cells := 0, slots := 0, locals := d * 40 }
theorem eX5_determinant (d : Nat) : yY yX5_determinant wsX5_determinant cX5_determinant 12 (some .long) (rmX5_determinant d) 2 := ⟨⟨_, rfl⟩, rfl, rfl, by decide, by decide, by decide +kernel⟩
set_option maxHeartbeats 4000000 in
set_option maxRecDepth 100000 in
theorem mX5_determinant {l : Launch} {D : va_G} {cI cJ cZ cW cR : ClassId} {N : Nat} (d : Nat) : ∀ {sz : Nat} {h_t : Nat} {A_t : Nat → Nat} {c_t_many : Int32} {c_t_below : Int64} {c_t_above1 : Int64} {c_t_below1 : Int64} {c_t_work : Nat → Int64} {x1 : Int32} {x2 : Int32} {r : Int64} {zc_t_work : Nat → Int64} (hf : fX5_determinant N d c_t_work x1 x2 = some (r, zc_t_work)), Met l yX5_determinant wsX5_determinant (rmX5_determinant d) (yP D (yT cI cJ cZ cW cR) [(h_t, oR A_t c_t_many c_t_below c_t_above1 c_t_below1), (A_t 8, eJ cJ 216 c_t_work)] sz [.ref h_t, .int x1, .int x2]) (yQl D (yT cI cJ cZ cW cR) r [(h_t, oR A_t c_t_many c_t_below c_t_above1 c_t_below1), (A_t 8, eJ cJ 216 zc_t_work)] (va_A [(h_t, oR A_t c_t_many c_t_below c_t_above1 c_t_below1), (A_t 8, eJ cJ 216 c_t_work)] sz)) 0 0 (va_A [(h_t, oR A_t c_t_many c_t_below c_t_above1 c_t_below1), (A_t 8, eJ cJ 216 c_t_work)] sz) := by
  induction d with
  | zero =>
    intro sz h_t A_t c_t_many c_t_below c_t_above1 c_t_below1 c_t_work x1 x2 r zc_t_work hf
    cases hf
  | succ d ih9 =>
  intro sz h_t A_t c_t_many c_t_below c_t_above1 c_t_below1 c_t_work x1 x2 r zc_t_work hf
  refine yM (cc := cX5_determinant) (maxL := 12) (ret := (some .long)) RX5 (by decide) rfl rfl (Nat.le_of_ble_eq_true rfl) ?_
  intro p e s m below meth c Γ hr
  have loop60 : ∀ (n : Nat) (y1 : Int32) (y2 : Int32) (y3 : Int64) (y5 : Int32) (y6 : Int32) (y7 : Int64) (y9 : Int32) (y10 : Int32) (y11 : Int32) (d_t_many : Int32) (d_t_below : Int64) (d_t_above1 : Int64) (d_t_below1 : Int64) (d_t_work : Nat → Int64) (w0 : Nat → Int64), fX5_determinant_L60 N n y1 y2 y3 y5 y6 y7 y9 y10 y11 d_t_work = some w0 → yG p l e (headSpec wsX5_determinant (rmX5_determinant (d + 1))).room s m (List.toArray [.ref h_t, .int x1, .int x2]) below meth c D (va_A [(h_t, oR A_t c_t_many c_t_below c_t_above1 c_t_below1), (A_t 8, eJ cJ 216 c_t_work)] sz) 12 0 0 (MQ below (yQl D (yT cI cJ cZ cW cR) r [(h_t, oR A_t c_t_many c_t_below c_t_above1 c_t_below1), (A_t 8, eJ cJ 216 zc_t_work)] (va_A [(h_t, oR A_t c_t_many c_t_below c_t_above1 c_t_below1), (A_t 8, eJ cJ 216 c_t_work)] sz)) (List.toArray [.ref h_t, .int x1, .int x2]) s 0 0 (va_A [(h_t, oR A_t c_t_many c_t_below c_t_above1 c_t_below1), (A_t 8, eJ cJ 216 c_t_work)] sz)) 122 [(0, .ref h_t), (1, .int y1), (2, .int y2), (3, .long y3), (5, .int y5), (6, .int y6), (7, .long y7), (9, .int y9)] [] [(h_t, oR A_t d_t_many d_t_below d_t_above1 d_t_below1), (A_t 8, eJ cJ 216 w0)] → yG p l e (headSpec wsX5_determinant (rmX5_determinant (d + 1))).room s m (List.toArray [.ref h_t, .int x1, .int x2]) below meth c D (va_A [(h_t, oR A_t c_t_many c_t_below c_t_above1 c_t_below1), (A_t 8, eJ cJ 216 c_t_work)] sz) 12 0 0 (MQ below (yQl D (yT cI cJ cZ cW cR) r [(h_t, oR A_t c_t_many c_t_below c_t_above1 c_t_below1), (A_t 8, eJ cJ 216 zc_t_work)] (va_A [(h_t, oR A_t c_t_many c_t_below c_t_above1 c_t_below1), (A_t 8, eJ cJ 216 c_t_work)] sz)) (List.toArray [.ref h_t, .int x1, .int x2]) s 0 0 (va_A [(h_t, oR A_t c_t_many c_t_below c_t_above1 c_t_below1), (A_t 8, eJ cJ 216 c_t_work)] sz)) 60 [(0, .ref h_t), (1, .int y1), (2, .int y2), (3, .long y3), (5, .int y5), (6, .int y6), (7, .long y7), (9, .int y9), (10, .int y10), (11, .int y11)] [] [(h_t, oR A_t d_t_many d_t_below d_t_above1 d_t_below1), (A_t 8, eJ cJ 216 d_t_work)] := by
    intro n
    induction n with
    | zero =>
      intro y1 y2 y3 y5 y6 y7 y9 y10 y11 d_t_many d_t_below d_t_above1 d_t_below1 d_t_work w0 hf
      cases hf
    | succ n ih =>
      intro y1 y2 y3 y5 y6 y7 y9 y10 y11 d_t_many d_t_below d_t_above1 d_t_below1 d_t_work w0 hf hk
      unfold fX5_determinant_L60 at hf
      refine g_iload Γ 9 dX5_determinant_60 rfl ?_
      refine g_iload_n Γ 1 dX5_determinant_62 rfl ?_
      refine g_icmp_ge Γ 122 dX5_determinant_63 (by decide) (fun c9 => ?_) (fun c9 => ?_)
      · have hf := ya_if1 c9 hf
        cases hf
        refine g_lv [0, 1, 2, 3, 4, 5, 6, 7] rfl ?_
        exact hk
      · have hf := ya_if2 c9 hf
        refine g_iload Γ 9 dX5_determinant_66 rfl ?_
        refine g_iload Γ 5 dX5_determinant_68 rfl ?_
        refine g_icmp_ne Γ 76 dX5_determinant_70 (by decide) (fun c10 => ?_) (fun c10 => ?_)
        · have hf := ya_if2 c10 hf
          refine g_aload_n Γ 0 dX5_determinant_76 rfl ?_
          refine g_get Γ fX5_determinant_35 0 rfl rfl dX5_determinant_77 ?_
          refine g_iload Γ 4 dX5_determinant_80 rfl ?_
          refine g_bipush (v := 36) Γ dX5_determinant_82 (by decide) ?_
          refine g_iadd Γ dX5_determinant_84 ?_
          refine g_bipush (v := 6) Γ dX5_determinant_85 (by decide) ?_
          refine g_iload Γ 7 dX5_determinant_87 rfl ?_
          refine g_iconst (v := 1) Γ dX5_determinant_89 (by decide) ?_
          refine g_isub Γ dX5_determinant_90 ?_
          refine g_imul Γ dX5_determinant_91 ?_
          refine g_iadd Γ dX5_determinant_92 ?_
          refine g_iload Γ 8 dX5_determinant_93 rfl ?_
          refine g_iadd Γ dX5_determinant_95 ?_
          refine g_aload_n Γ 0 dX5_determinant_96 rfl ?_
          refine g_get Γ fX5_determinant_35 0 rfl rfl dX5_determinant_97 ?_
          refine g_iload Γ 4 dX5_determinant_100 rfl ?_
          refine g_bipush (v := 6) Γ dX5_determinant_102 (by decide) ?_
          refine g_iload Γ 7 dX5_determinant_104 rfl ?_
          refine g_imul Γ dX5_determinant_106 ?_
          refine g_iadd Γ dX5_determinant_107 ?_
          refine g_iload Γ 9 dX5_determinant_108 rfl ?_
          refine g_iadd Γ dX5_determinant_110 ?_
          obtain ⟨v11, e12, hf⟩ := ya_ob hf
          refine g_lald Γ e12 1 1 rfl rfl dX5_determinant_111 ?_
          obtain ⟨v13, e14, hf⟩ := ya_ob hf
          refine g_last (ws' := [(h_t, oR A_t d_t_many d_t_below d_t_above1 d_t_below1), (A_t 8, eJ cJ 216 v13)]) Γ e14 1 1 rfl rfl dX5_determinant_112 rfl ?_
          obtain ⟨v15, e16, hf⟩ := ya_lt_inv hf
          refine g_iinc (lv' := [(10, .int v15), (0, .ref h_t), (1, .int y1), (2, .int y2), (3, .long y3), (5, .int y5), (6, .int y6), (7, .long y7), (9, .int y9), (11, .int y11)]) Γ 8 dX5_determinant_113 rfl (by rw [e16]; rfl) (by decide) rfl ?_
          obtain ⟨v17, e18, hf⟩ := ya_lt_inv hf
          refine g_iinc (lv' := [(11, .int v17), (10, .int v15), (0, .ref h_t), (1, .int y1), (2, .int y2), (3, .long y3), (5, .int y5), (6, .int y6), (7, .long y7), (9, .int y9)]) Γ 9 dX5_determinant_116 rfl (by rw [e18]; rfl) (by decide) rfl ?_
          refine g_goto Γ 60 dX5_determinant_119 (by decide) ?_
          refine g_lv [2, 3, 4, 5, 6, 7, 8, 9, 1, 0] rfl ?_
          exact ih _ _ _ _ _ _ _ _ _ _ _ _ _ _ _ hf hk
        · have hf := ya_if1 c10 hf
          refine g_goto Γ 116 dX5_determinant_73 (by decide) ?_
          obtain ⟨v19, e20, hf⟩ := ya_lt_inv hf
          refine g_iinc (lv' := [(11, .int v19), (0, .ref h_t), (1, .int y1), (2, .int y2), (3, .long y3), (5, .int y5), (6, .int y6), (7, .long y7), (9, .int y9), (10, .int y10)]) Γ 9 dX5_determinant_116 rfl (by rw [e20]; rfl) (by decide) rfl ?_
          refine g_goto Γ 60 dX5_determinant_119 (by decide) ?_
          refine g_lv [1, 2, 3, 4, 5, 6, 7, 8, 9, 0] rfl ?_
          exact ih _ _ _ _ _ _ _ _ _ _ _ _ _ _ _ hf hk
  have loop48 : ∀ (n : Nat) (y1 : Int32) (y2 : Int32) (y3 : Int64) (y5 : Int32) (y6 : Int32) (y7 : Int64) (y9 : Int32) (d_t_many : Int32) (d_t_below : Int64) (d_t_above1 : Int64) (d_t_below1 : Int64) (d_t_work : Nat → Int64) (w0 : Nat → Int64), fX5_determinant_L48 N n y1 y2 y3 y5 y6 y7 y9 d_t_work = some w0 → yG p l e (headSpec wsX5_determinant (rmX5_determinant (d + 1))).room s m (List.toArray [.ref h_t, .int x1, .int x2]) below meth c D (va_A [(h_t, oR A_t c_t_many c_t_below c_t_above1 c_t_below1), (A_t 8, eJ cJ 216 c_t_work)] sz) 12 0 0 (MQ below (yQl D (yT cI cJ cZ cW cR) r [(h_t, oR A_t c_t_many c_t_below c_t_above1 c_t_below1), (A_t 8, eJ cJ 216 zc_t_work)] (va_A [(h_t, oR A_t c_t_many c_t_below c_t_above1 c_t_below1), (A_t 8, eJ cJ 216 c_t_work)] sz)) (List.toArray [.ref h_t, .int x1, .int x2]) s 0 0 (va_A [(h_t, oR A_t c_t_many c_t_below c_t_above1 c_t_below1), (A_t 8, eJ cJ 216 c_t_work)] sz)) 128 [(0, .ref h_t), (1, .int y1), (2, .int y2), (3, .long y3), (5, .int y5), (6, .int y6), (7, .long y7)] [] [(h_t, oR A_t d_t_many d_t_below d_t_above1 d_t_below1), (A_t 8, eJ cJ 216 w0)] → yG p l e (headSpec wsX5_determinant (rmX5_determinant (d + 1))).room s m (List.toArray [.ref h_t, .int x1, .int x2]) below meth c D (va_A [(h_t, oR A_t c_t_many c_t_below c_t_above1 c_t_below1), (A_t 8, eJ cJ 216 c_t_work)] sz) 12 0 0 (MQ below (yQl D (yT cI cJ cZ cW cR) r [(h_t, oR A_t c_t_many c_t_below c_t_above1 c_t_below1), (A_t 8, eJ cJ 216 zc_t_work)] (va_A [(h_t, oR A_t c_t_many c_t_below c_t_above1 c_t_below1), (A_t 8, eJ cJ 216 c_t_work)] sz)) (List.toArray [.ref h_t, .int x1, .int x2]) s 0 0 (va_A [(h_t, oR A_t c_t_many c_t_below c_t_above1 c_t_below1), (A_t 8, eJ cJ 216 c_t_work)] sz)) 48 [(0, .ref h_t), (1, .int y1), (2, .int y2), (3, .long y3), (5, .int y5), (6, .int y6), (7, .long y7), (9, .int y9)] [] [(h_t, oR A_t d_t_many d_t_below d_t_above1 d_t_below1), (A_t 8, eJ cJ 216 d_t_work)] := by
    intro n
    induction n with
    | zero =>
      intro y1 y2 y3 y5 y6 y7 y9 d_t_many d_t_below d_t_above1 d_t_below1 d_t_work w0 hf
      cases hf
    | succ n ih =>
      intro y1 y2 y3 y5 y6 y7 y9 d_t_many d_t_below d_t_above1 d_t_below1 d_t_work w0 hf hk
      unfold fX5_determinant_L48 at hf
      refine g_iload Γ 7 dX5_determinant_48 rfl ?_
      refine g_iload_n Γ 1 dX5_determinant_50 rfl ?_
      refine g_icmp_ge Γ 128 dX5_determinant_51 (by decide) (fun c8 => ?_) (fun c8 => ?_)
      · have hf := ya_if1 c8 hf
        cases hf
        refine g_lv [0, 1, 2, 3, 4, 5, 6] rfl ?_
        exact hk
      · have hf := ya_if2 c8 hf
        refine g_iconst (v := 0) Γ dX5_determinant_54 (by decide) ?_
        refine g_istore (lv' := [(10, .int 0), (0, .ref h_t), (1, .int y1), (2, .int y2), (3, .long y3), (5, .int y5), (6, .int y6), (7, .long y7), (9, .int y9)]) Γ dX5_determinant_55 (by decide) rfl ?_
        refine g_iconst (v := 0) Γ dX5_determinant_57 (by decide) ?_
        refine g_istore (lv' := [(11, .int 0), (10, .int 0), (0, .ref h_t), (1, .int y1), (2, .int y2), (3, .long y3), (5, .int y5), (6, .int y6), (7, .long y7), (9, .int y9)]) Γ dX5_determinant_58 (by decide) rfl ?_
        obtain ⟨v21, e22, hf⟩ := ya_ob hf
        refine g_lv [2, 3, 4, 5, 6, 7, 8, 9, 1, 0] rfl ?_
        refine loop60 N _ _ _ _ _ _ _ _ _ _ _ _ _ _ _ e22  ?_
        obtain ⟨v23, e24, hf⟩ := ya_lt_inv hf
        refine g_iinc (lv' := [(9, .int v23), (0, .ref h_t), (1, .int y1), (2, .int y2), (3, .long y3), (5, .int y5), (6, .int y6), (7, .long y7)]) Γ 7 dX5_determinant_122 rfl (by rw [e24]; rfl) (by decide) rfl ?_
        refine g_goto Γ 48 dX5_determinant_125 (by decide) ?_
        refine g_lv [1, 2, 3, 4, 5, 6, 7, 0] rfl ?_
        exact ih _ _ _ _ _ _ _ _ _ _ _ _ _ hf hk
  have loop17 : ∀ (n : Nat) (y1 : Int32) (y2 : Int32) (y3 : Int64) (y5 : Int32) (y6 : Int32) (d_t_many : Int32) (d_t_below : Int64) (d_t_above1 : Int64) (d_t_below1 : Int64) (d_t_work : Nat → Int64) (w0 : Int64) (w1 : Nat → Int64), fX5_determinant_L17 (fX5_determinant N d) N n y1 y2 y3 y5 y6 d_t_work = some (w0, w1) → yG p l e (headSpec wsX5_determinant (rmX5_determinant (d + 1))).room s m (List.toArray [.ref h_t, .int x1, .int x2]) below meth c D (va_A [(h_t, oR A_t c_t_many c_t_below c_t_above1 c_t_below1), (A_t 8, eJ cJ 216 c_t_work)] sz) 12 0 0 (MQ below (yQl D (yT cI cJ cZ cW cR) r [(h_t, oR A_t c_t_many c_t_below c_t_above1 c_t_below1), (A_t 8, eJ cJ 216 zc_t_work)] (va_A [(h_t, oR A_t c_t_many c_t_below c_t_above1 c_t_below1), (A_t 8, eJ cJ 216 c_t_work)] sz)) (List.toArray [.ref h_t, .int x1, .int x2]) s 0 0 (va_A [(h_t, oR A_t c_t_many c_t_below c_t_above1 c_t_below1), (A_t 8, eJ cJ 216 c_t_work)] sz)) 167 [(3, .long w0)] [] [(h_t, oR A_t d_t_many d_t_below d_t_above1 d_t_below1), (A_t 8, eJ cJ 216 w1)] → yG p l e (headSpec wsX5_determinant (rmX5_determinant (d + 1))).room s m (List.toArray [.ref h_t, .int x1, .int x2]) below meth c D (va_A [(h_t, oR A_t c_t_many c_t_below c_t_above1 c_t_below1), (A_t 8, eJ cJ 216 c_t_work)] sz) 12 0 0 (MQ below (yQl D (yT cI cJ cZ cW cR) r [(h_t, oR A_t c_t_many c_t_below c_t_above1 c_t_below1), (A_t 8, eJ cJ 216 zc_t_work)] (va_A [(h_t, oR A_t c_t_many c_t_below c_t_above1 c_t_below1), (A_t 8, eJ cJ 216 c_t_work)] sz)) (List.toArray [.ref h_t, .int x1, .int x2]) s 0 0 (va_A [(h_t, oR A_t c_t_many c_t_below c_t_above1 c_t_below1), (A_t 8, eJ cJ 216 c_t_work)] sz)) 17 [(0, .ref h_t), (1, .int y1), (2, .int y2), (3, .long y3), (5, .int y5), (6, .int y6)] [] [(h_t, oR A_t d_t_many d_t_below d_t_above1 d_t_below1), (A_t 8, eJ cJ 216 d_t_work)] := by
    intro n
    induction n with
    | zero =>
      intro y1 y2 y3 y5 y6 d_t_many d_t_below d_t_above1 d_t_below1 d_t_work w0 w1 hf
      cases hf
    | succ n ih =>
      intro y1 y2 y3 y5 y6 d_t_many d_t_below d_t_above1 d_t_below1 d_t_work w0 w1 hf hk
      unfold fX5_determinant_L17 at hf
      refine g_iload Γ 5 dX5_determinant_17 rfl ?_
      refine g_iload_n Γ 1 dX5_determinant_19 rfl ?_
      refine g_icmp_ge Γ 167 dX5_determinant_20 (by decide) (fun c4 => ?_) (fun c4 => ?_)
      · have hf := ya_if1 c4 hf
        cases hf
        refine g_lv [3] rfl ?_
        exact hk
      · have hf := ya_if2 c4 hf
        refine g_aload_n Γ 0 dX5_determinant_23 rfl ?_
        refine g_get Γ fX5_determinant_35 0 rfl rfl dX5_determinant_24 ?_
        refine g_iload Γ 4 dX5_determinant_27 rfl ?_
        refine g_iload Γ 5 dX5_determinant_29 rfl ?_
        refine g_iadd Γ dX5_determinant_31 ?_
        obtain ⟨v5, e6, hf⟩ := ya_ob hf
        refine g_lald Γ e6 1 1 rfl rfl dX5_determinant_32 ?_
        refine g_lstore (lv' := [(7, .long v5), (0, .ref h_t), (1, .int y1), (2, .int y2), (3, .long y3), (5, .int y5), (6, .int y6)]) Γ dX5_determinant_33 (by decide) rfl ?_
        refine g_lload Γ 0 dX5_determinant_35 rfl ?_
        refine g_lconst (v := 0) Γ dX5_determinant_37 (by decide) ?_
        refine g_lcmp Γ dX5_determinant_38 ?_
        refine g_if_ne Γ 45 dX5_determinant_39 (by decide) (fun c7 => ?_) (fun c7 => ?_)
        · have hf := ya_if2 c7 hf
          refine g_iconst (v := 1) Γ dX5_determinant_45 (by decide) ?_
          refine g_istore (lv' := [(9, .int 1), (7, .long v5), (0, .ref h_t), (1, .int y1), (2, .int y2), (3, .long y3), (5, .int y5), (6, .int y6)]) Γ dX5_determinant_46 (by decide) rfl ?_
          obtain ⟨v25, e26, hf⟩ := ya_ob hf
          refine g_lv [2, 3, 4, 5, 6, 7, 1, 0] rfl ?_
          refine loop48 N _ _ _ _ _ _ _ _ _ _ _ _ _ e26  ?_
          refine g_lload Γ 6 dX5_determinant_128 rfl ?_
          refine g_aload_n Γ 0 dX5_determinant_130 rfl ?_
          refine g_iload_n Γ 1 dX5_determinant_131 rfl ?_
          refine g_iconst (v := 1) Γ dX5_determinant_132 (by decide) ?_
          refine g_isub Γ dX5_determinant_133 ?_
          refine g_iload_n Γ 2 dX5_determinant_134 rfl ?_
          refine g_iconst (v := 1) Γ dX5_determinant_135 (by decide) ?_
          refine g_iadd Γ dX5_determinant_136 ?_
          obtain ⟨⟨v27, v28⟩, e29, hf⟩ := ya_ob hf
          refine g_vl (q := (RX5, TX5, 19)) (wr := []) (ws' := [(h_t, oR A_t d_t_many d_t_below d_t_above1 d_t_below1), (A_t 8, eJ cJ 216 v28)]) Γ (fun sz => ih9 (sz := sz) (h_t := h_t) (A_t := A_t) (hf := e29)) (eX5_determinant _) gX5_determinant_X5_determinant rfl rfl 0 rfl rfl rfl (Nat.le_of_ble_eq_true rfl) ⟨Nat.le_refl _, by show 8 + (12 + 11) + d * 40 ≤ (d + 1) * 40; omega⟩ dX5_determinant_137 [0, 1] [] rfl rfl rfl rfl (by decide) rfl ?_
          refine g_lmul Γ dX5_determinant_140 ?_
          obtain ⟨v30, e31, hf⟩ := ya_lt_inv hf
          refine g_nml e31 ?_
          refine g_lstore (lv' := [(9, .long v30), (0, .ref h_t), (1, .int y1), (2, .int y2), (3, .long y3), (5, .int y5), (6, .int y6), (7, .long v5)]) Γ dX5_determinant_141 (by decide) rfl ?_
          refine g_lload_n Γ 4 dX5_determinant_143 rfl ?_
          refine g_iload Γ 6 dX5_determinant_144 rfl ?_
          refine g_iconst (v := 2) Γ dX5_determinant_146 (by decide) ?_
          obtain ⟨v32, e33, hf⟩ := ya_ob hf
          refine g_irem Γ e33 dX5_determinant_147 ?_
          refine g_if_ne Γ 156 dX5_determinant_148 (by decide) (fun c34 => ?_) (fun c34 => ?_)
          · have hf := ya_if2 c34 hf
            refine g_lload Γ 0 dX5_determinant_156 rfl ?_
            refine g_lneg Γ dX5_determinant_158 ?_
            refine g_ladd Γ dX5_determinant_159 ?_
            obtain ⟨v35, e36, hf⟩ := ya_lt_inv hf
            refine g_nml e36 ?_
            refine g_lstore_n (lv' := [(3, .long v35), (9, .long v30), (0, .ref h_t), (1, .int y1), (2, .int y2), (5, .int y5), (6, .int y6), (7, .long v5)]) Γ dX5_determinant_160 (by decide) rfl ?_
            obtain ⟨v37, e38, hf⟩ := ya_lt_inv hf
            refine g_iinc (lv' := [(6, .int v37), (3, .long v35), (9, .long v30), (0, .ref h_t), (1, .int y1), (2, .int y2), (5, .int y5), (7, .long v5)]) Γ 6 dX5_determinant_161 rfl (by rw [e38]; rfl) (by decide) rfl ?_
            refine g_goto Γ 17 dX5_determinant_164 (by decide) ?_
            refine g_lv [3, 4, 5, 1, 6, 0] rfl ?_
            exact ih _ _ _ _ _ _ _ _ _ _ _ _ hf hk
          · have hf := ya_if1 c34 hf
            refine g_lload Γ 0 dX5_determinant_151 rfl ?_
            refine g_goto Γ 159 dX5_determinant_153 (by decide) ?_
            refine g_ladd Γ dX5_determinant_159 ?_
            obtain ⟨v39, e40, hf⟩ := ya_lt_inv hf
            refine g_nml e40 ?_
            refine g_lstore_n (lv' := [(3, .long v39), (9, .long v30), (0, .ref h_t), (1, .int y1), (2, .int y2), (5, .int y5), (6, .int y6), (7, .long v5)]) Γ dX5_determinant_160 (by decide) rfl ?_
            obtain ⟨v41, e42, hf⟩ := ya_lt_inv hf
            refine g_iinc (lv' := [(6, .int v41), (3, .long v39), (9, .long v30), (0, .ref h_t), (1, .int y1), (2, .int y2), (5, .int y5), (7, .long v5)]) Γ 6 dX5_determinant_161 rfl (by rw [e42]; rfl) (by decide) rfl ?_
            refine g_goto Γ 17 dX5_determinant_164 (by decide) ?_
            refine g_lv [3, 4, 5, 1, 6, 0] rfl ?_
            exact ih _ _ _ _ _ _ _ _ _ _ _ _ hf hk
        · have hf := ya_if1 c7 hf
          refine g_goto Γ 161 dX5_determinant_42 (by decide) ?_
          obtain ⟨v43, e44, hf⟩ := ya_lt_inv hf
          refine g_iinc (lv' := [(6, .int v43), (7, .long v5), (0, .ref h_t), (1, .int y1), (2, .int y2), (3, .long y3), (5, .int y5)]) Γ 6 dX5_determinant_161 rfl (by rw [e44]; rfl) (by decide) rfl ?_
          refine g_goto Γ 17 dX5_determinant_164 (by decide) ?_
          refine g_lv [2, 3, 4, 5, 6, 0] rfl ?_
          exact ih _ _ _ _ _ _ _ _ _ _ _ _ hf hk
  show yG p l e (headSpec wsX5_determinant (rmX5_determinant (d + 1))).room s m (List.toArray [.ref h_t, .int x1, .int x2]) below meth c D (va_A [(h_t, oR A_t c_t_many c_t_below c_t_above1 c_t_below1), (A_t 8, eJ cJ 216 c_t_work)] sz) 12 0 0 (MQ below (yQl D (yT cI cJ cZ cW cR) r [(h_t, oR A_t c_t_many c_t_below c_t_above1 c_t_below1), (A_t 8, eJ cJ 216 zc_t_work)] (va_A [(h_t, oR A_t c_t_many c_t_below c_t_above1 c_t_below1), (A_t 8, eJ cJ 216 c_t_work)] sz)) (List.toArray [.ref h_t, .int x1, .int x2]) s 0 0 (va_A [(h_t, oR A_t c_t_many c_t_below c_t_above1 c_t_below1), (A_t 8, eJ cJ 216 c_t_work)] sz)) 0 [(0, .ref h_t), (1, .int x1), (2, .int x2)] [] [(h_t, oR A_t c_t_many c_t_below c_t_above1 c_t_below1), (A_t 8, eJ cJ 216 c_t_work)]
  unfold fX5_determinant at hf
  refine g_iload_n Γ 1 dX5_determinant_0 rfl ?_
  refine g_if_ne Γ 6 dX5_determinant_1 (by decide) (fun c1 => ?_) (fun c1 => ?_)
  · have hf := ya_if2 c1 hf
    refine g_lconst (v := 0) Γ dX5_determinant_6 (by decide) ?_
    refine g_lstore_n (lv' := [(3, .long 0), (0, .ref h_t), (1, .int x1), (2, .int x2)]) Γ dX5_determinant_7 (by decide) rfl ?_
    refine g_bipush (v := 36) Γ dX5_determinant_8 (by decide) ?_
    refine g_iload_n Γ 3 dX5_determinant_10 rfl ?_
    refine g_imul Γ dX5_determinant_11 ?_
    obtain ⟨v2, e3, hf⟩ := ya_lt_inv hf
    refine g_nmi e3 ?_
    refine g_istore (lv' := [(5, .int v2), (3, .long 0), (0, .ref h_t), (1, .int x1), (2, .int x2)]) Γ dX5_determinant_12 (by decide) rfl ?_
    refine g_iconst (v := 0) Γ dX5_determinant_14 (by decide) ?_
    refine g_istore (lv' := [(6, .int 0), (5, .int v2), (3, .long 0), (0, .ref h_t), (1, .int x1), (2, .int x2)]) Γ dX5_determinant_15 (by decide) rfl ?_
    obtain ⟨⟨v45, v46⟩, e47, hf⟩ := ya_ob hf
    refine g_lv [3, 4, 5, 2, 1, 0] rfl ?_
    refine loop17 N _ _ _ _ _ _ _ _ _ _ _ _ e47  ?_
    refine g_lload_n Γ 0 dX5_determinant_167 rfl ?_
    cases hf
    exact g_lret Γ hr dX5_determinant_168 [0, 1] rfl rfl
  · have hf := ya_if1 c1 hf
    refine g_lconst (v := 1) Γ dX5_determinant_4 (by decide) ?_
    cases hf
    exact g_lret Γ hr dX5_determinant_5 [0, 1] rfl rfl

theorem dX5_puts_0 : decode cX5_puts 0 = .ok (.iload_n 1, 1) := by decide +kernel
theorem dX5_puts_1 : decode cX5_puts 1 = .ok (.iconst (-1), 1) := by decide +kernel
theorem dX5_puts_2 : decode cX5_puts 2 = .ok (.if_icmp .ne 4, 3) := by decide +kernel
theorem dX5_puts_5 : decode cX5_puts 5 = .ok (.return_, 1) := by decide +kernel
theorem dX5_puts_6 : decode cX5_puts 6 = .ok (.aload_n 0, 1) := by decide +kernel
theorem dX5_puts_7 : decode cX5_puts 7 = .ok (.getfield 25, 3) := by decide +kernel
theorem dX5_puts_10 : decode cX5_puts 10 = .ok (.bipush 6, 2) := by decide +kernel
theorem dX5_puts_12 : decode cX5_puts 12 = .ok (.iload_n 1, 1) := by decide +kernel
theorem dX5_puts_13 : decode cX5_puts 13 = .ok (.imul, 1) := by decide +kernel
theorem dX5_puts_14 : decode cX5_puts 14 = .ok (.iload_n 1, 1) := by decide +kernel
theorem dX5_puts_15 : decode cX5_puts 15 = .ok (.iadd, 1) := by decide +kernel
theorem dX5_puts_16 : decode cX5_puts 16 = .ok (.dup2, 1) := by decide +kernel
theorem dX5_puts_17 : decode cX5_puts 17 = .ok (.laload, 1) := by decide +kernel
theorem dX5_puts_18 : decode cX5_puts 18 = .ok (.iload_n 3, 1) := by decide +kernel
theorem dX5_puts_19 : decode cX5_puts 19 = .ok (.i2l, 1) := by decide +kernel
theorem dX5_puts_20 : decode cX5_puts 20 = .ok (.ladd, 1) := by decide +kernel
theorem dX5_puts_21 : decode cX5_puts 21 = .ok (.lastore, 1) := by decide +kernel
theorem dX5_puts_22 : decode cX5_puts 22 = .ok (.iload_n 2, 1) := by decide +kernel
theorem dX5_puts_23 : decode cX5_puts 23 = .ok (.iconst (-1), 1) := by decide +kernel
theorem dX5_puts_24 : decode cX5_puts 24 = .ok (.if_icmp .eq 19, 3) := by decide +kernel
theorem dX5_puts_27 : decode cX5_puts 27 = .ok (.aload_n 0, 1) := by decide +kernel
theorem dX5_puts_28 : decode cX5_puts 28 = .ok (.getfield 25, 3) := by decide +kernel
theorem dX5_puts_31 : decode cX5_puts 31 = .ok (.bipush 6, 2) := by decide +kernel
theorem dX5_puts_33 : decode cX5_puts 33 = .ok (.iload_n 1, 1) := by decide +kernel
theorem dX5_puts_34 : decode cX5_puts 34 = .ok (.imul, 1) := by decide +kernel
theorem dX5_puts_35 : decode cX5_puts 35 = .ok (.iload_n 2, 1) := by decide +kernel
theorem dX5_puts_36 : decode cX5_puts 36 = .ok (.iadd, 1) := by decide +kernel
theorem dX5_puts_37 : decode cX5_puts 37 = .ok (.dup2, 1) := by decide +kernel
theorem dX5_puts_38 : decode cX5_puts 38 = .ok (.laload, 1) := by decide +kernel
theorem dX5_puts_39 : decode cX5_puts 39 = .ok (.iload_n 3, 1) := by decide +kernel
theorem dX5_puts_40 : decode cX5_puts 40 = .ok (.i2l, 1) := by decide +kernel
theorem dX5_puts_41 : decode cX5_puts 41 = .ok (.lsub, 1) := by decide +kernel
theorem dX5_puts_42 : decode cX5_puts 42 = .ok (.lastore, 1) := by decide +kernel
theorem dX5_puts_43 : decode cX5_puts 43 = .ok (.return_, 1) := by decide +kernel
/-! ===== FlowMetersModel.puts(III)V ===== -/
def fX5_puts (c_t_matrix : Nat → Int64) (x1 : Int32) (x2 : Int32) (x3 : Int32) : Option (Nat → Int64) :=
  (if x1 = (-1) then
    some c_t_matrix
  else
    (ya_rd c_t_matrix 36 ((6 * x1) + x1)).bind fun v2 =>
    (ya_wr c_t_matrix 36 ((6 * x1) + x1) (v2 + (Int32.toInt64 x3))).bind fun v4 =>
    (if x2 = (-1) then
      some v4
    else
      (ya_rd v4 36 ((6 * x1) + x2)).bind fun v7 =>
      (ya_wr v4 36 ((6 * x1) + x2) (v7 - (Int32.toInt64 x3))).bind fun v9 =>
      some v9))
theorem fX5_puts_25 : yF wsX5_puts RX5 25 5 6 RX5 TX5 19 := ⟨rfl, by decide, by decide +kernel, by decide +kernel⟩
abbrev rmX5_puts : Room := { frames := 0, cells := 0, slots := 0, locals := 0 }
theorem eX5_puts : yY yX5_puts wsX5_puts cX5_puts 4 none rmX5_puts 3 := ⟨⟨_, rfl⟩, rfl, rfl, by decide, by decide, by decide +kernel⟩
set_option maxHeartbeats 4000000 in
set_option maxRecDepth 100000 in
theorem mX5_puts {l : Launch} {D : va_G} {sz : Nat} {cI cJ cZ cW cR : ClassId} {h_t : Nat} {A_t : Nat → Nat} {c_t_many : Int32} {c_t_below : Int64} {c_t_above1 : Int64} {c_t_below1 : Int64} {c_t_matrix : Nat → Int64} {x1 : Int32} {x2 : Int32} {x3 : Int32} {zc_t_matrix : Nat → Int64} (hf : fX5_puts c_t_matrix x1 x2 x3 = some zc_t_matrix) : Met l yX5_puts wsX5_puts rmX5_puts (yP D (yT cI cJ cZ cW cR) [(h_t, oR A_t c_t_many c_t_below c_t_above1 c_t_below1), (A_t 5, eJ cJ 36 c_t_matrix)] sz [.ref h_t, .int x1, .int x2, .int x3]) (yQv D (yT cI cJ cZ cW cR) [(h_t, oR A_t c_t_many c_t_below c_t_above1 c_t_below1), (A_t 5, eJ cJ 36 zc_t_matrix)] (va_A [(h_t, oR A_t c_t_many c_t_below c_t_above1 c_t_below1), (A_t 5, eJ cJ 36 c_t_matrix)] sz)) 0 0 (va_A [(h_t, oR A_t c_t_many c_t_below c_t_above1 c_t_below1), (A_t 5, eJ cJ 36 c_t_matrix)] sz) := by
  refine yM (cc := cX5_puts) (maxL := 4) (ret := none) RX5 (by decide) rfl rfl (Nat.le_of_ble_eq_true rfl) ?_
  intro p e s m below meth c Γ hr
  show yG p l e (headSpec wsX5_puts rmX5_puts).room s m (List.toArray [.ref h_t, .int x1, .int x2, .int x3]) below meth c D (va_A [(h_t, oR A_t c_t_many c_t_below c_t_above1 c_t_below1), (A_t 5, eJ cJ 36 c_t_matrix)] sz) 4 0 0 (MQ below (yQv D (yT cI cJ cZ cW cR) [(h_t, oR A_t c_t_many c_t_below c_t_above1 c_t_below1), (A_t 5, eJ cJ 36 zc_t_matrix)] (va_A [(h_t, oR A_t c_t_many c_t_below c_t_above1 c_t_below1), (A_t 5, eJ cJ 36 c_t_matrix)] sz)) (List.toArray [.ref h_t, .int x1, .int x2, .int x3]) s 0 0 (va_A [(h_t, oR A_t c_t_many c_t_below c_t_above1 c_t_below1), (A_t 5, eJ cJ 36 c_t_matrix)] sz)) 0 [(0, .ref h_t), (1, .int x1), (2, .int x2), (3, .int x3)] [] [(h_t, oR A_t c_t_many c_t_below c_t_above1 c_t_below1), (A_t 5, eJ cJ 36 c_t_matrix)]
  unfold fX5_puts at hf
  refine g_iload_n Γ 1 dX5_puts_0 rfl ?_
  refine g_iconst (v := (-1)) Γ dX5_puts_1 (by decide) ?_
  refine g_icmp_ne Γ 6 dX5_puts_2 (by decide) (fun c1 => ?_) (fun c1 => ?_)
  · have hf := ya_if2 c1 hf
    refine g_aload_n Γ 0 dX5_puts_6 rfl ?_
    refine g_get Γ fX5_puts_25 0 rfl rfl dX5_puts_7 ?_
    refine g_bipush (v := 6) Γ dX5_puts_10 (by decide) ?_
    refine g_iload_n Γ 1 dX5_puts_12 rfl ?_
    refine g_imul Γ dX5_puts_13 ?_
    refine g_iload_n Γ 1 dX5_puts_14 rfl ?_
    refine g_iadd Γ dX5_puts_15 ?_
    refine g_dup2 Γ dX5_puts_16 rfl rfl ?_
    obtain ⟨v2, e3, hf⟩ := ya_ob hf
    refine g_lald Γ e3 1 1 rfl rfl dX5_puts_17 ?_
    refine g_iload_n Γ 3 dX5_puts_18 rfl ?_
    refine g_i2l Γ dX5_puts_19 ?_
    refine g_ladd Γ dX5_puts_20 ?_
    obtain ⟨v4, e5, hf⟩ := ya_ob hf
    refine g_last (ws' := [(h_t, oR A_t c_t_many c_t_below c_t_above1 c_t_below1), (A_t 5, eJ cJ 36 v4)]) Γ e5 1 1 rfl rfl dX5_puts_21 rfl ?_
    refine g_iload_n Γ 2 dX5_puts_22 rfl ?_
    refine g_iconst (v := (-1)) Γ dX5_puts_23 (by decide) ?_
    refine g_icmp_eq Γ 43 dX5_puts_24 (by decide) (fun c6 => ?_) (fun c6 => ?_)
    · have hf := ya_if1 c6 hf
      cases hf
      exact g_vret Γ hr dX5_puts_43 [0, 1] rfl rfl
    · have hf := ya_if2 c6 hf
      refine g_aload_n Γ 0 dX5_puts_27 rfl ?_
      refine g_get Γ fX5_puts_25 0 rfl rfl dX5_puts_28 ?_
      refine g_bipush (v := 6) Γ dX5_puts_31 (by decide) ?_
      refine g_iload_n Γ 1 dX5_puts_33 rfl ?_
      refine g_imul Γ dX5_puts_34 ?_
      refine g_iload_n Γ 2 dX5_puts_35 rfl ?_
      refine g_iadd Γ dX5_puts_36 ?_
      refine g_dup2 Γ dX5_puts_37 rfl rfl ?_
      obtain ⟨v7, e8, hf⟩ := ya_ob hf
      refine g_lald Γ e8 1 1 rfl rfl dX5_puts_38 ?_
      refine g_iload_n Γ 3 dX5_puts_39 rfl ?_
      refine g_i2l Γ dX5_puts_40 ?_
      refine g_lsub Γ dX5_puts_41 ?_
      obtain ⟨v9, e10, hf⟩ := ya_ob hf
      refine g_last (ws' := [(h_t, oR A_t c_t_many c_t_below c_t_above1 c_t_below1), (A_t 5, eJ cJ 36 v9)]) Γ e10 1 1 rfl rfl dX5_puts_42 rfl ?_
      cases hf
      exact g_vret Γ hr dX5_puts_43 [0, 1] rfl rfl
  · have hf := ya_if1 c1 hf
    cases hf
    exact g_vret Γ hr dX5_puts_5 [0, 1] rfl rfl

set_option maxRecDepth 20000 in
theorem ggX5_solves_X5_heaps : GoodIn wsX5_solves wsX5_heaps := goodIn_r _ [13, 2, 14, 15, 16, 12, 17, 18, 19, 20, 21, 22, 23, 24, 25, 26, 39, 40, 41, 42, 43, 44, 45, 46, 47, 48, 49, 50, 51, 52, 53, 54, 55, 56, 57] (by decide +kernel) (by decide +kernel)
set_option maxRecDepth 20000 in
theorem gX5_solves_X5_heaps : GoodIn wsX5_solves (wsV RX5 98 RX5 yX5_heaps wsX5_heaps) := goodIn_app (goodIn_of _ (by decide +kernel)) ggX5_solves_X5_heaps
set_option maxRecDepth 20000 in
theorem ggX5_solves_X5_flows : GoodIn wsX5_solves wsX5_flows := goodIn_r _ [17, 18, 39, 40, 41, 42, 43, 44, 45, 46, 47, 48, 49, 50, 51, 52, 53, 54, 55, 56, 57] (by decide +kernel) (by decide +kernel)
set_option maxRecDepth 20000 in
theorem gX5_solves_X5_flows : GoodIn wsX5_solves (wsV RX5 57 RX5 yX5_flows wsX5_flows) := goodIn_app (goodIn_of _ (by decide +kernel)) ggX5_solves_X5_flows
set_option maxRecDepth 20000 in
theorem ggX5_solves_X5_get : GoodIn wsX5_solves wsX5_get := goodIn_r _ [26, 18, 39, 40, 41, 42, 43, 44, 45, 46, 47, 48, 49, 50, 51, 52, 53, 54, 55, 56, 57] (by decide +kernel) (by decide +kernel)
set_option maxRecDepth 20000 in
theorem gX5_solves_X5_get : GoodIn wsX5_solves (wsV RX5 86 RX5 yX5_get wsX5_get) := goodIn_app (goodIn_of _ (by decide +kernel)) ggX5_solves_X5_get
set_option maxRecDepth 20000 in
theorem ggX5_solves_X5_knots : GoodIn wsX5_solves wsX5_knots := goodIn_r _ [30, 18, 39, 40, 41, 42, 43, 44, 45, 46, 47, 48, 49, 50, 51, 52, 53, 54, 55, 56, 57] (by decide +kernel) (by decide +kernel)
set_option maxRecDepth 20000 in
theorem gX5_solves_X5_knots : GoodIn wsX5_solves (wsV RX5 65 RX5 yX5_knots wsX5_knots) := goodIn_app (goodIn_of _ (by decide +kernel)) ggX5_solves_X5_knots
set_option maxRecDepth 20000 in
theorem ggX5_solves_X5_isRead : GoodIn wsX5_solves wsX5_isRead := goodIn_r _ [22, 23, 24, 25, 12, 26, 18, 39, 40, 41, 42, 43, 44, 45, 46, 47, 48, 49, 50, 51, 52, 53, 54, 55, 56, 57] (by decide +kernel) (by decide +kernel)
set_option maxRecDepth 20000 in
theorem gX5_solves_X5_isRead : GoodIn wsX5_solves (wsV RX5 91 RX5 yX5_isRead wsX5_isRead) := goodIn_app (goodIn_of _ (by decide +kernel)) ggX5_solves_X5_isRead
set_option maxRecDepth 20000 in
theorem ggX5_solves_X5_puts : GoodIn wsX5_solves wsX5_puts := goodIn_r _ [34, 4, 39, 40, 41, 42, 43, 44, 45, 46, 47, 48, 49, 50, 51, 52, 53, 54, 55, 56, 57] (by decide +kernel) (by decide +kernel)
set_option maxRecDepth 20000 in
theorem gX5_solves_X5_puts : GoodIn wsX5_solves (wsV RX5 101 RX5 yX5_puts wsX5_puts) := goodIn_app (goodIn_of _ (by decide +kernel)) ggX5_solves_X5_puts
set_option maxRecDepth 20000 in
theorem ggX5_solves_X5_determinant : GoodIn wsX5_solves wsX5_determinant := goodIn_r _ [38, 6, 35, 36, 37, 12, 39, 40, 41, 42, 43, 44, 45, 46, 47, 48, 49, 50, 51, 52, 53, 54, 55, 56, 57] (by decide +kernel) (by decide +kernel)
set_option maxRecDepth 20000 in
theorem gX5_solves_X5_determinant : GoodIn wsX5_solves (wsV RX5 94 RX5 yX5_determinant wsX5_determinant) := goodIn_app (goodIn_of _ (by decide +kernel)) ggX5_solves_X5_determinant
theorem dX5_solves_0 : decode cX5_solves 0 = .ok (.aload_n 0, 1) := by decide +kernel
theorem dX5_solves_1 : decode cX5_solves 1 = .ok (.invokevirtual 98, 3) := by decide +kernel
theorem dX5_solves_4 : decode cX5_solves 4 = .ok (.iconst 0, 1) := by decide +kernel
theorem dX5_solves_5 : decode cX5_solves 5 = .ok (.istore_n 1, 1) := by decide +kernel
theorem dX5_solves_6 : decode cX5_solves 6 = .ok (.iload_n 1, 1) := by decide +kernel
theorem dX5_solves_7 : decode cX5_solves 7 = .ok (.bipush 6, 2) := by decide +kernel
theorem dX5_solves_9 : decode cX5_solves 9 = .ok (.if_icmp .ge 21, 3) := by decide +kernel
theorem dX5_solves_12 : decode cX5_solves 12 = .ok (.aload_n 0, 1) := by decide +kernel
theorem dX5_solves_13 : decode cX5_solves 13 = .ok (.getfield 19, 3) := by decide +kernel
theorem dX5_solves_16 : decode cX5_solves 16 = .ok (.iload_n 1, 1) := by decide +kernel
theorem dX5_solves_17 : decode cX5_solves 17 = .ok (.aload_n 0, 1) := by decide +kernel
theorem dX5_solves_18 : decode cX5_solves 18 = .ok (.getfield 16, 3) := by decide +kernel
theorem dX5_solves_21 : decode cX5_solves 21 = .ok (.iload_n 1, 1) := by decide +kernel
theorem dX5_solves_22 : decode cX5_solves 22 = .ok (.iaload, 1) := by decide +kernel
theorem dX5_solves_23 : decode cX5_solves 23 = .ok (.iastore, 1) := by decide +kernel
theorem dX5_solves_24 : decode cX5_solves 24 = .ok (.iinc 1 1, 3) := by decide +kernel
theorem dX5_solves_27 : decode cX5_solves 27 = .ok (.goto (-21), 3) := by decide +kernel
theorem dX5_solves_30 : decode cX5_solves 30 = .ok (.iconst 0, 1) := by decide +kernel
theorem dX5_solves_31 : decode cX5_solves 31 = .ok (.istore_n 1, 1) := by decide +kernel
theorem dX5_solves_32 : decode cX5_solves 32 = .ok (.iload_n 1, 1) := by decide +kernel
theorem dX5_solves_33 : decode cX5_solves 33 = .ok (.bipush 6, 2) := by decide +kernel
theorem dX5_solves_35 : decode cX5_solves 35 = .ok (.if_icmp .ge 107, 3) := by decide +kernel
theorem dX5_solves_38 : decode cX5_solves 38 = .ok (.iconst 0, 1) := by decide +kernel
theorem dX5_solves_39 : decode cX5_solves 39 = .ok (.istore_n 2, 1) := by decide +kernel
theorem dX5_solves_40 : decode cX5_solves 40 = .ok (.iload_n 2, 1) := by decide +kernel
theorem dX5_solves_41 : decode cX5_solves 41 = .ok (.aload_n 0, 1) := by decide +kernel
theorem dX5_solves_42 : decode cX5_solves 42 = .ok (.invokevirtual 57, 3) := by decide +kernel
theorem dX5_solves_45 : decode cX5_solves 45 = .ok (.if_icmp .ge 91, 3) := by decide +kernel
theorem dX5_solves_48 : decode cX5_solves 48 = .ok (.aload_n 0, 1) := by decide +kernel
theorem dX5_solves_49 : decode cX5_solves 49 = .ok (.getfield 19, 3) := by decide +kernel
theorem dX5_solves_52 : decode cX5_solves 52 = .ok (.aload_n 0, 1) := by decide +kernel
theorem dX5_solves_53 : decode cX5_solves 53 = .ok (.iload_n 2, 1) := by decide +kernel
theorem dX5_solves_54 : decode cX5_solves 54 = .ok (.iconst 0, 1) := by decide +kernel
theorem dX5_solves_55 : decode cX5_solves 55 = .ok (.invokevirtual 86, 3) := by decide +kernel
theorem dX5_solves_58 : decode cX5_solves 58 = .ok (.iaload, 1) := by decide +kernel
theorem dX5_solves_59 : decode cX5_solves 59 = .ok (.istore_n 3, 1) := by decide +kernel
theorem dX5_solves_60 : decode cX5_solves 60 = .ok (.aload_n 0, 1) := by decide +kernel
theorem dX5_solves_61 : decode cX5_solves 61 = .ok (.getfield 19, 3) := by decide +kernel
theorem dX5_solves_64 : decode cX5_solves 64 = .ok (.aload_n 0, 1) := by decide +kernel
theorem dX5_solves_65 : decode cX5_solves 65 = .ok (.iload_n 2, 1) := by decide +kernel
theorem dX5_solves_66 : decode cX5_solves 66 = .ok (.iconst 1, 1) := by decide +kernel
theorem dX5_solves_67 : decode cX5_solves 67 = .ok (.invokevirtual 86, 3) := by decide +kernel
theorem dX5_solves_70 : decode cX5_solves 70 = .ok (.iaload, 1) := by decide +kernel
theorem dX5_solves_71 : decode cX5_solves 71 = .ok (.istore 4, 2) := by decide +kernel
theorem dX5_solves_73 : decode cX5_solves 73 = .ok (.iconst 0, 1) := by decide +kernel
theorem dX5_solves_74 : decode cX5_solves 74 = .ok (.istore 5, 2) := by decide +kernel
theorem dX5_solves_76 : decode cX5_solves 76 = .ok (.iload 5, 2) := by decide +kernel
theorem dX5_solves_78 : decode cX5_solves 78 = .ok (.bipush 6, 2) := by decide +kernel
theorem dX5_solves_80 : decode cX5_solves 80 = .ok (.if_icmp .ge 50, 3) := by decide +kernel
theorem dX5_solves_83 : decode cX5_solves 83 = .ok (.aload_n 0, 1) := by decide +kernel
theorem dX5_solves_84 : decode cX5_solves 84 = .ok (.getfield 19, 3) := by decide +kernel
theorem dX5_solves_87 : decode cX5_solves 87 = .ok (.iload 5, 2) := by decide +kernel
theorem dX5_solves_89 : decode cX5_solves 89 = .ok (.iaload, 1) := by decide +kernel
theorem dX5_solves_90 : decode cX5_solves 90 = .ok (.iload_n 3, 1) := by decide +kernel
theorem dX5_solves_91 : decode cX5_solves 91 = .ok (.iload 4, 2) := by decide +kernel
theorem dX5_solves_93 : decode cX5_solves 93 = .ok (.if_icmp .le 7, 3) := by decide +kernel
theorem dX5_solves_96 : decode cX5_solves 96 = .ok (.iload_n 3, 1) := by decide +kernel
theorem dX5_solves_97 : decode cX5_solves 97 = .ok (.goto 5, 3) := by decide +kernel
theorem dX5_solves_100 : decode cX5_solves 100 = .ok (.iload 4, 2) := by decide +kernel
theorem dX5_solves_102 : decode cX5_solves 102 = .ok (.if_icmp .ne 22, 3) := by decide +kernel
theorem dX5_solves_105 : decode cX5_solves 105 = .ok (.aload_n 0, 1) := by decide +kernel
theorem dX5_solves_106 : decode cX5_solves 106 = .ok (.getfield 19, 3) := by decide +kernel
theorem dX5_solves_109 : decode cX5_solves 109 = .ok (.iload 5, 2) := by decide +kernel
theorem dX5_solves_111 : decode cX5_solves 111 = .ok (.iload_n 3, 1) := by decide +kernel
theorem dX5_solves_112 : decode cX5_solves 112 = .ok (.iload 4, 2) := by decide +kernel
theorem dX5_solves_114 : decode cX5_solves 114 = .ok (.if_icmp .ge 7, 3) := by decide +kernel
theorem dX5_solves_117 : decode cX5_solves 117 = .ok (.iload_n 3, 1) := by decide +kernel
theorem dX5_solves_118 : decode cX5_solves 118 = .ok (.goto 5, 3) := by decide +kernel
theorem dX5_solves_121 : decode cX5_solves 121 = .ok (.iload 4, 2) := by decide +kernel
theorem dX5_solves_123 : decode cX5_solves 123 = .ok (.iastore, 1) := by decide +kernel
theorem dX5_solves_124 : decode cX5_solves 124 = .ok (.iinc 5 1, 3) := by decide +kernel
theorem dX5_solves_127 : decode cX5_solves 127 = .ok (.goto (-51), 3) := by decide +kernel
theorem dX5_solves_130 : decode cX5_solves 130 = .ok (.iinc 2 1, 3) := by decide +kernel
theorem dX5_solves_133 : decode cX5_solves 133 = .ok (.goto (-93), 3) := by decide +kernel
theorem dX5_solves_136 : decode cX5_solves 136 = .ok (.iinc 1 1, 3) := by decide +kernel
theorem dX5_solves_139 : decode cX5_solves 139 = .ok (.goto (-107), 3) := by decide +kernel
theorem dX5_solves_142 : decode cX5_solves 142 = .ok (.iconst 0, 1) := by decide +kernel
theorem dX5_solves_143 : decode cX5_solves 143 = .ok (.istore_n 1, 1) := by decide +kernel
theorem dX5_solves_144 : decode cX5_solves 144 = .ok (.iconst 0, 1) := by decide +kernel
theorem dX5_solves_145 : decode cX5_solves 145 = .ok (.istore_n 2, 1) := by decide +kernel
theorem dX5_solves_146 : decode cX5_solves 146 = .ok (.iload_n 2, 1) := by decide +kernel
theorem dX5_solves_147 : decode cX5_solves 147 = .ok (.aload_n 0, 1) := by decide +kernel
theorem dX5_solves_148 : decode cX5_solves 148 = .ok (.invokevirtual 65, 3) := by decide +kernel
theorem dX5_solves_151 : decode cX5_solves 151 = .ok (.if_icmp .ge 49, 3) := by decide +kernel
theorem dX5_solves_154 : decode cX5_solves 154 = .ok (.aload_n 0, 1) := by decide +kernel
theorem dX5_solves_155 : decode cX5_solves 155 = .ok (.getfield 22, 3) := by decide +kernel
theorem dX5_solves_158 : decode cX5_solves 158 = .ok (.iload_n 2, 1) := by decide +kernel
theorem dX5_solves_159 : decode cX5_solves 159 = .ok (.iconst (-1), 1) := by decide +kernel
theorem dX5_solves_160 : decode cX5_solves 160 = .ok (.iastore, 1) := by decide +kernel
theorem dX5_solves_161 : decode cX5_solves 161 = .ok (.aload_n 0, 1) := by decide +kernel
theorem dX5_solves_162 : decode cX5_solves 162 = .ok (.getfield 16, 3) := by decide +kernel
theorem dX5_solves_165 : decode cX5_solves 165 = .ok (.iload_n 2, 1) := by decide +kernel
theorem dX5_solves_166 : decode cX5_solves 166 = .ok (.iaload, 1) := by decide +kernel
theorem dX5_solves_167 : decode cX5_solves 167 = .ok (.iload_n 2, 1) := by decide +kernel
theorem dX5_solves_168 : decode cX5_solves 168 = .ok (.if_icmp .ne 26, 3) := by decide +kernel
theorem dX5_solves_171 : decode cX5_solves 171 = .ok (.aload_n 0, 1) := by decide +kernel
theorem dX5_solves_172 : decode cX5_solves 172 = .ok (.getfield 19, 3) := by decide +kernel
theorem dX5_solves_175 : decode cX5_solves 175 = .ok (.iload_n 2, 1) := by decide +kernel
theorem dX5_solves_176 : decode cX5_solves 176 = .ok (.iaload, 1) := by decide +kernel
theorem dX5_solves_177 : decode cX5_solves 177 = .ok (.iload_n 2, 1) := by decide +kernel
theorem dX5_solves_178 : decode cX5_solves 178 = .ok (.if_icmp .ne 6, 3) := by decide +kernel
theorem dX5_solves_181 : decode cX5_solves 181 = .ok (.goto 13, 3) := by decide +kernel
theorem dX5_solves_184 : decode cX5_solves 184 = .ok (.aload_n 0, 1) := by decide +kernel
theorem dX5_solves_185 : decode cX5_solves 185 = .ok (.getfield 22, 3) := by decide +kernel
theorem dX5_solves_188 : decode cX5_solves 188 = .ok (.iload_n 2, 1) := by decide +kernel
theorem dX5_solves_189 : decode cX5_solves 189 = .ok (.iload_n 1, 1) := by decide +kernel
theorem dX5_solves_190 : decode cX5_solves 190 = .ok (.iastore, 1) := by decide +kernel
theorem dX5_solves_191 : decode cX5_solves 191 = .ok (.iinc 1 1, 3) := by decide +kernel
theorem dX5_solves_194 : decode cX5_solves 194 = .ok (.iinc 2 1, 3) := by decide +kernel
theorem dX5_solves_197 : decode cX5_solves 197 = .ok (.goto (-51), 3) := by decide +kernel
theorem dX5_solves_200 : decode cX5_solves 200 = .ok (.iconst 0, 1) := by decide +kernel
theorem dX5_solves_201 : decode cX5_solves 201 = .ok (.istore_n 2, 1) := by decide +kernel
theorem dX5_solves_202 : decode cX5_solves 202 = .ok (.iload_n 2, 1) := by decide +kernel
theorem dX5_solves_203 : decode cX5_solves 203 = .ok (.bipush 36, 2) := by decide +kernel
theorem dX5_solves_205 : decode cX5_solves 205 = .ok (.if_icmp .ge 16, 3) := by decide +kernel
theorem dX5_solves_208 : decode cX5_solves 208 = .ok (.aload_n 0, 1) := by decide +kernel
theorem dX5_solves_209 : decode cX5_solves 209 = .ok (.getfield 25, 3) := by decide +kernel
theorem dX5_solves_212 : decode cX5_solves 212 = .ok (.iload_n 2, 1) := by decide +kernel
theorem dX5_solves_213 : decode cX5_solves 213 = .ok (.lconst 0, 1) := by decide +kernel
theorem dX5_solves_214 : decode cX5_solves 214 = .ok (.lastore, 1) := by decide +kernel
theorem dX5_solves_215 : decode cX5_solves 215 = .ok (.iinc 2 1, 3) := by decide +kernel
theorem dX5_solves_218 : decode cX5_solves 218 = .ok (.goto (-16), 3) := by decide +kernel
theorem dX5_solves_221 : decode cX5_solves 221 = .ok (.iconst 0, 1) := by decide +kernel
theorem dX5_solves_222 : decode cX5_solves 222 = .ok (.istore_n 2, 1) := by decide +kernel
theorem dX5_solves_223 : decode cX5_solves 223 = .ok (.iload_n 2, 1) := by decide +kernel
theorem dX5_solves_224 : decode cX5_solves 224 = .ok (.bipush 6, 2) := by decide +kernel
theorem dX5_solves_226 : decode cX5_solves 226 = .ok (.if_icmp .ge 16, 3) := by decide +kernel
theorem dX5_solves_229 : decode cX5_solves 229 = .ok (.aload_n 0, 1) := by decide +kernel
theorem dX5_solves_230 : decode cX5_solves 230 = .ok (.getfield 29, 3) := by decide +kernel
theorem dX5_solves_233 : decode cX5_solves 233 = .ok (.iload_n 2, 1) := by decide +kernel
theorem dX5_solves_234 : decode cX5_solves 234 = .ok (.lconst 0, 1) := by decide +kernel
theorem dX5_solves_235 : decode cX5_solves 235 = .ok (.lastore, 1) := by decide +kernel
theorem dX5_solves_236 : decode cX5_solves 236 = .ok (.iinc 2 1, 3) := by decide +kernel
theorem dX5_solves_239 : decode cX5_solves 239 = .ok (.goto (-16), 3) := by decide +kernel
theorem dX5_solves_242 : decode cX5_solves 242 = .ok (.iconst 0, 1) := by decide +kernel
theorem dX5_solves_243 : decode cX5_solves 243 = .ok (.istore_n 2, 1) := by decide +kernel
theorem dX5_solves_244 : decode cX5_solves 244 = .ok (.iload_n 2, 1) := by decide +kernel
theorem dX5_solves_245 : decode cX5_solves 245 = .ok (.aload_n 0, 1) := by decide +kernel
theorem dX5_solves_246 : decode cX5_solves 246 = .ok (.invokevirtual 57, 3) := by decide +kernel
theorem dX5_solves_249 : decode cX5_solves 249 = .ok (.if_icmp .ge 161, 3) := by decide +kernel
theorem dX5_solves_252 : decode cX5_solves 252 = .ok (.aload_n 0, 1) := by decide +kernel
theorem dX5_solves_253 : decode cX5_solves 253 = .ok (.getfield 16, 3) := by decide +kernel
theorem dX5_solves_256 : decode cX5_solves 256 = .ok (.aload_n 0, 1) := by decide +kernel
theorem dX5_solves_257 : decode cX5_solves 257 = .ok (.iload_n 2, 1) := by decide +kernel
theorem dX5_solves_258 : decode cX5_solves 258 = .ok (.iconst 0, 1) := by decide +kernel
theorem dX5_solves_259 : decode cX5_solves 259 = .ok (.invokevirtual 86, 3) := by decide +kernel
theorem dX5_solves_262 : decode cX5_solves 262 = .ok (.iaload, 1) := by decide +kernel
theorem dX5_solves_263 : decode cX5_solves 263 = .ok (.istore_n 3, 1) := by decide +kernel
theorem dX5_solves_264 : decode cX5_solves 264 = .ok (.aload_n 0, 1) := by decide +kernel
theorem dX5_solves_265 : decode cX5_solves 265 = .ok (.getfield 16, 3) := by decide +kernel
theorem dX5_solves_268 : decode cX5_solves 268 = .ok (.aload_n 0, 1) := by decide +kernel
theorem dX5_solves_269 : decode cX5_solves 269 = .ok (.iload_n 2, 1) := by decide +kernel
theorem dX5_solves_270 : decode cX5_solves 270 = .ok (.iconst 1, 1) := by decide +kernel
theorem dX5_solves_271 : decode cX5_solves 271 = .ok (.invokevirtual 86, 3) := by decide +kernel
theorem dX5_solves_274 : decode cX5_solves 274 = .ok (.iaload, 1) := by decide +kernel
theorem dX5_solves_275 : decode cX5_solves 275 = .ok (.istore 4, 2) := by decide +kernel
theorem dX5_solves_277 : decode cX5_solves 277 = .ok (.aload_n 0, 1) := by decide +kernel
theorem dX5_solves_278 : decode cX5_solves 278 = .ok (.iload_n 2, 1) := by decide +kernel
theorem dX5_solves_279 : decode cX5_solves 279 = .ok (.invokevirtual 91, 3) := by decide +kernel
theorem dX5_solves_282 : decode cX5_solves 282 = .ok (.ifCond .eq 122, 3) := by decide +kernel
theorem dX5_solves_285 : decode cX5_solves 285 = .ok (.iload_n 3, 1) := by decide +kernel
theorem dX5_solves_286 : decode cX5_solves 286 = .ok (.iload 4, 2) := by decide +kernel
theorem dX5_solves_288 : decode cX5_solves 288 = .ok (.if_icmp .ne 6, 3) := by decide +kernel
theorem dX5_solves_291 : decode cX5_solves 291 = .ok (.goto 113, 3) := by decide +kernel
theorem dX5_solves_294 : decode cX5_solves 294 = .ok (.aload_n 0, 1) := by decide +kernel
theorem dX5_solves_295 : decode cX5_solves 295 = .ok (.aload_n 0, 1) := by decide +kernel
theorem dX5_solves_296 : decode cX5_solves 296 = .ok (.getfield 22, 3) := by decide +kernel
theorem dX5_solves_299 : decode cX5_solves 299 = .ok (.iload_n 3, 1) := by decide +kernel
theorem dX5_solves_300 : decode cX5_solves 300 = .ok (.iaload, 1) := by decide +kernel
theorem dX5_solves_301 : decode cX5_solves 301 = .ok (.aload_n 0, 1) := by decide +kernel
theorem dX5_solves_302 : decode cX5_solves 302 = .ok (.getfield 22, 3) := by decide +kernel
theorem dX5_solves_305 : decode cX5_solves 305 = .ok (.iload 4, 2) := by decide +kernel
theorem dX5_solves_307 : decode cX5_solves 307 = .ok (.iaload, 1) := by decide +kernel
theorem dX5_solves_308 : decode cX5_solves 308 = .ok (.aload_n 0, 1) := by decide +kernel
theorem dX5_solves_309 : decode cX5_solves 309 = .ok (.iload_n 2, 1) := by decide +kernel
theorem dX5_solves_310 : decode cX5_solves 310 = .ok (.iconst 4, 1) := by decide +kernel
theorem dX5_solves_311 : decode cX5_solves 311 = .ok (.invokevirtual 86, 3) := by decide +kernel
theorem dX5_solves_314 : decode cX5_solves 314 = .ok (.invokevirtual 101, 3) := by decide +kernel
theorem dX5_solves_317 : decode cX5_solves 317 = .ok (.aload_n 0, 1) := by decide +kernel
theorem dX5_solves_318 : decode cX5_solves 318 = .ok (.aload_n 0, 1) := by decide +kernel
theorem dX5_solves_319 : decode cX5_solves 319 = .ok (.getfield 22, 3) := by decide +kernel
theorem dX5_solves_322 : decode cX5_solves 322 = .ok (.iload 4, 2) := by decide +kernel
theorem dX5_solves_324 : decode cX5_solves 324 = .ok (.iaload, 1) := by decide +kernel
theorem dX5_solves_325 : decode cX5_solves 325 = .ok (.aload_n 0, 1) := by decide +kernel
theorem dX5_solves_326 : decode cX5_solves 326 = .ok (.getfield 22, 3) := by decide +kernel
theorem dX5_solves_329 : decode cX5_solves 329 = .ok (.iload_n 3, 1) := by decide +kernel
theorem dX5_solves_330 : decode cX5_solves 330 = .ok (.iaload, 1) := by decide +kernel
theorem dX5_solves_331 : decode cX5_solves 331 = .ok (.aload_n 0, 1) := by decide +kernel
theorem dX5_solves_332 : decode cX5_solves 332 = .ok (.iload_n 2, 1) := by decide +kernel
theorem dX5_solves_333 : decode cX5_solves 333 = .ok (.iconst 4, 1) := by decide +kernel
theorem dX5_solves_334 : decode cX5_solves 334 = .ok (.invokevirtual 86, 3) := by decide +kernel
theorem dX5_solves_337 : decode cX5_solves 337 = .ok (.invokevirtual 101, 3) := by decide +kernel
theorem dX5_solves_340 : decode cX5_solves 340 = .ok (.aload_n 0, 1) := by decide +kernel
theorem dX5_solves_341 : decode cX5_solves 341 = .ok (.getfield 22, 3) := by decide +kernel
theorem dX5_solves_344 : decode cX5_solves 344 = .ok (.iload 4, 2) := by decide +kernel
theorem dX5_solves_346 : decode cX5_solves 346 = .ok (.iaload, 1) := by decide +kernel
theorem dX5_solves_347 : decode cX5_solves 347 = .ok (.iconst (-1), 1) := by decide +kernel
theorem dX5_solves_348 : decode cX5_solves 348 = .ok (.if_icmp .eq 25, 3) := by decide +kernel
theorem dX5_solves_351 : decode cX5_solves 351 = .ok (.aload_n 0, 1) := by decide +kernel
theorem dX5_solves_352 : decode cX5_solves 352 = .ok (.getfield 29, 3) := by decide +kernel
theorem dX5_solves_355 : decode cX5_solves 355 = .ok (.aload_n 0, 1) := by decide +kernel
theorem dX5_solves_356 : decode cX5_solves 356 = .ok (.getfield 22, 3) := by decide +kernel
theorem dX5_solves_359 : decode cX5_solves 359 = .ok (.iload 4, 2) := by decide +kernel
theorem dX5_solves_361 : decode cX5_solves 361 = .ok (.iaload, 1) := by decide +kernel
theorem dX5_solves_362 : decode cX5_solves 362 = .ok (.dup2, 1) := by decide +kernel
theorem dX5_solves_363 : decode cX5_solves 363 = .ok (.laload, 1) := by decide +kernel
theorem dX5_solves_364 : decode cX5_solves 364 = .ok (.aload_n 0, 1) := by decide +kernel
theorem dX5_solves_365 : decode cX5_solves 365 = .ok (.iload_n 2, 1) := by decide +kernel
theorem dX5_solves_366 : decode cX5_solves 366 = .ok (.iconst 3, 1) := by decide +kernel
theorem dX5_solves_367 : decode cX5_solves 367 = .ok (.invokevirtual 86, 3) := by decide +kernel
theorem dX5_solves_370 : decode cX5_solves 370 = .ok (.i2l, 1) := by decide +kernel
theorem dX5_solves_371 : decode cX5_solves 371 = .ok (.lsub, 1) := by decide +kernel
theorem dX5_solves_372 : decode cX5_solves 372 = .ok (.lastore, 1) := by decide +kernel
theorem dX5_solves_373 : decode cX5_solves 373 = .ok (.aload_n 0, 1) := by decide +kernel
theorem dX5_solves_374 : decode cX5_solves 374 = .ok (.getfield 22, 3) := by decide +kernel
theorem dX5_solves_377 : decode cX5_solves 377 = .ok (.iload_n 3, 1) := by decide +kernel
theorem dX5_solves_378 : decode cX5_solves 378 = .ok (.iaload, 1) := by decide +kernel
theorem dX5_solves_379 : decode cX5_solves 379 = .ok (.iconst (-1), 1) := by decide +kernel
theorem dX5_solves_380 : decode cX5_solves 380 = .ok (.if_icmp .eq 24, 3) := by decide +kernel
theorem dX5_solves_383 : decode cX5_solves 383 = .ok (.aload_n 0, 1) := by decide +kernel
theorem dX5_solves_384 : decode cX5_solves 384 = .ok (.getfield 29, 3) := by decide +kernel
theorem dX5_solves_387 : decode cX5_solves 387 = .ok (.aload_n 0, 1) := by decide +kernel
theorem dX5_solves_388 : decode cX5_solves 388 = .ok (.getfield 22, 3) := by decide +kernel
theorem dX5_solves_391 : decode cX5_solves 391 = .ok (.iload_n 3, 1) := by decide +kernel
theorem dX5_solves_392 : decode cX5_solves 392 = .ok (.iaload, 1) := by decide +kernel
theorem dX5_solves_393 : decode cX5_solves 393 = .ok (.dup2, 1) := by decide +kernel
theorem dX5_solves_394 : decode cX5_solves 394 = .ok (.laload, 1) := by decide +kernel
theorem dX5_solves_395 : decode cX5_solves 395 = .ok (.aload_n 0, 1) := by decide +kernel
theorem dX5_solves_396 : decode cX5_solves 396 = .ok (.iload_n 2, 1) := by decide +kernel
theorem dX5_solves_397 : decode cX5_solves 397 = .ok (.iconst 3, 1) := by decide +kernel
theorem dX5_solves_398 : decode cX5_solves 398 = .ok (.invokevirtual 86, 3) := by decide +kernel
theorem dX5_solves_401 : decode cX5_solves 401 = .ok (.i2l, 1) := by decide +kernel
theorem dX5_solves_402 : decode cX5_solves 402 = .ok (.ladd, 1) := by decide +kernel
theorem dX5_solves_403 : decode cX5_solves 403 = .ok (.lastore, 1) := by decide +kernel
theorem dX5_solves_404 : decode cX5_solves 404 = .ok (.iinc 2 1, 3) := by decide +kernel
theorem dX5_solves_407 : decode cX5_solves 407 = .ok (.goto (-163), 3) := by decide +kernel
theorem dX5_solves_410 : decode cX5_solves 410 = .ok (.iconst 0, 1) := by decide +kernel
theorem dX5_solves_411 : decode cX5_solves 411 = .ok (.istore_n 2, 1) := by decide +kernel
theorem dX5_solves_412 : decode cX5_solves 412 = .ok (.iload_n 2, 1) := by decide +kernel
theorem dX5_solves_413 : decode cX5_solves 413 = .ok (.bipush 36, 2) := by decide +kernel
theorem dX5_solves_415 : decode cX5_solves 415 = .ok (.if_icmp .ge 21, 3) := by decide +kernel
theorem dX5_solves_418 : decode cX5_solves 418 = .ok (.aload_n 0, 1) := by decide +kernel
theorem dX5_solves_419 : decode cX5_solves 419 = .ok (.getfield 35, 3) := by decide +kernel
theorem dX5_solves_422 : decode cX5_solves 422 = .ok (.iload_n 2, 1) := by decide +kernel
theorem dX5_solves_423 : decode cX5_solves 423 = .ok (.aload_n 0, 1) := by decide +kernel
theorem dX5_solves_424 : decode cX5_solves 424 = .ok (.getfield 25, 3) := by decide +kernel
theorem dX5_solves_427 : decode cX5_solves 427 = .ok (.iload_n 2, 1) := by decide +kernel
theorem dX5_solves_428 : decode cX5_solves 428 = .ok (.laload, 1) := by decide +kernel
theorem dX5_solves_429 : decode cX5_solves 429 = .ok (.lastore, 1) := by decide +kernel
theorem dX5_solves_430 : decode cX5_solves 430 = .ok (.iinc 2 1, 3) := by decide +kernel
theorem dX5_solves_433 : decode cX5_solves 433 = .ok (.goto (-21), 3) := by decide +kernel
theorem dX5_solves_436 : decode cX5_solves 436 = .ok (.aload_n 0, 1) := by decide +kernel
theorem dX5_solves_437 : decode cX5_solves 437 = .ok (.aload_n 0, 1) := by decide +kernel
theorem dX5_solves_438 : decode cX5_solves 438 = .ok (.iload_n 1, 1) := by decide +kernel
theorem dX5_solves_439 : decode cX5_solves 439 = .ok (.iconst 0, 1) := by decide +kernel
theorem dX5_solves_440 : decode cX5_solves 440 = .ok (.invokevirtual 94, 3) := by decide +kernel
theorem dX5_solves_443 : decode cX5_solves 443 = .ok (.putfield 104, 3) := by decide +kernel
theorem dX5_solves_446 : decode cX5_solves 446 = .ok (.iconst 0, 1) := by decide +kernel
theorem dX5_solves_447 : decode cX5_solves 447 = .ok (.istore_n 2, 1) := by decide +kernel
theorem dX5_solves_448 : decode cX5_solves 448 = .ok (.iload_n 2, 1) := by decide +kernel
theorem dX5_solves_449 : decode cX5_solves 449 = .ok (.aload_n 0, 1) := by decide +kernel
theorem dX5_solves_450 : decode cX5_solves 450 = .ok (.invokevirtual 65, 3) := by decide +kernel
theorem dX5_solves_453 : decode cX5_solves 453 = .ok (.if_icmp .ge 113, 3) := by decide +kernel
theorem dX5_solves_456 : decode cX5_solves 456 = .ok (.aload_n 0, 1) := by decide +kernel
theorem dX5_solves_457 : decode cX5_solves 457 = .ok (.getfield 32, 3) := by decide +kernel
theorem dX5_solves_460 : decode cX5_solves 460 = .ok (.iload_n 2, 1) := by decide +kernel
theorem dX5_solves_461 : decode cX5_solves 461 = .ok (.lconst 0, 1) := by decide +kernel
theorem dX5_solves_462 : decode cX5_solves 462 = .ok (.lastore, 1) := by decide +kernel
theorem dX5_solves_463 : decode cX5_solves 463 = .ok (.aload_n 0, 1) := by decide +kernel
theorem dX5_solves_464 : decode cX5_solves 464 = .ok (.getfield 22, 3) := by decide +kernel
theorem dX5_solves_467 : decode cX5_solves 467 = .ok (.iload_n 2, 1) := by decide +kernel
theorem dX5_solves_468 : decode cX5_solves 468 = .ok (.iaload, 1) := by decide +kernel
theorem dX5_solves_469 : decode cX5_solves 469 = .ok (.iconst (-1), 1) := by decide +kernel
theorem dX5_solves_470 : decode cX5_solves 470 = .ok (.if_icmp .ne 6, 3) := by decide +kernel
theorem dX5_solves_473 : decode cX5_solves 473 = .ok (.goto 87, 3) := by decide +kernel
theorem dX5_solves_476 : decode cX5_solves 476 = .ok (.iconst 0, 1) := by decide +kernel
theorem dX5_solves_477 : decode cX5_solves 477 = .ok (.istore_n 3, 1) := by decide +kernel
theorem dX5_solves_478 : decode cX5_solves 478 = .ok (.iload_n 3, 1) := by decide +kernel
theorem dX5_solves_479 : decode cX5_solves 479 = .ok (.iload_n 1, 1) := by decide +kernel
theorem dX5_solves_480 : decode cX5_solves 480 = .ok (.if_icmp .ge 68, 3) := by decide +kernel
theorem dX5_solves_483 : decode cX5_solves 483 = .ok (.iconst 0, 1) := by decide +kernel
theorem dX5_solves_484 : decode cX5_solves 484 = .ok (.istore 4, 2) := by decide +kernel
theorem dX5_solves_486 : decode cX5_solves 486 = .ok (.iload 4, 2) := by decide +kernel
theorem dX5_solves_488 : decode cX5_solves 488 = .ok (.iload_n 1, 1) := by decide +kernel
theorem dX5_solves_489 : decode cX5_solves 489 = .ok (.if_icmp .ge 53, 3) := by decide +kernel
theorem dX5_solves_492 : decode cX5_solves 492 = .ok (.aload_n 0, 1) := by decide +kernel
theorem dX5_solves_493 : decode cX5_solves 493 = .ok (.getfield 35, 3) := by decide +kernel
theorem dX5_solves_496 : decode cX5_solves 496 = .ok (.bipush 6, 2) := by decide +kernel
theorem dX5_solves_498 : decode cX5_solves 498 = .ok (.iload_n 3, 1) := by decide +kernel
theorem dX5_solves_499 : decode cX5_solves 499 = .ok (.imul, 1) := by decide +kernel
theorem dX5_solves_500 : decode cX5_solves 500 = .ok (.iload 4, 2) := by decide +kernel
theorem dX5_solves_502 : decode cX5_solves 502 = .ok (.iadd, 1) := by decide +kernel
theorem dX5_solves_503 : decode cX5_solves 503 = .ok (.iload 4, 2) := by decide +kernel
theorem dX5_solves_505 : decode cX5_solves 505 = .ok (.aload_n 0, 1) := by decide +kernel
theorem dX5_solves_506 : decode cX5_solves 506 = .ok (.getfield 22, 3) := by decide +kernel
theorem dX5_solves_509 : decode cX5_solves 509 = .ok (.iload_n 2, 1) := by decide +kernel
theorem dX5_solves_510 : decode cX5_solves 510 = .ok (.iaload, 1) := by decide +kernel
theorem dX5_solves_511 : decode cX5_solves 511 = .ok (.if_icmp .ne 12, 3) := by decide +kernel
theorem dX5_solves_514 : decode cX5_solves 514 = .ok (.aload_n 0, 1) := by decide +kernel
theorem dX5_solves_515 : decode cX5_solves 515 = .ok (.getfield 29, 3) := by decide +kernel
theorem dX5_solves_518 : decode cX5_solves 518 = .ok (.iload_n 3, 1) := by decide +kernel
theorem dX5_solves_519 : decode cX5_solves 519 = .ok (.laload, 1) := by decide +kernel
theorem dX5_solves_520 : decode cX5_solves 520 = .ok (.goto 15, 3) := by decide +kernel
theorem dX5_solves_523 : decode cX5_solves 523 = .ok (.aload_n 0, 1) := by decide +kernel
theorem dX5_solves_524 : decode cX5_solves 524 = .ok (.getfield 25, 3) := by decide +kernel
theorem dX5_solves_527 : decode cX5_solves 527 = .ok (.bipush 6, 2) := by decide +kernel
theorem dX5_solves_529 : decode cX5_solves 529 = .ok (.iload_n 3, 1) := by decide +kernel
theorem dX5_solves_530 : decode cX5_solves 530 = .ok (.imul, 1) := by decide +kernel
theorem dX5_solves_531 : decode cX5_solves 531 = .ok (.iload 4, 2) := by decide +kernel
theorem dX5_solves_533 : decode cX5_solves 533 = .ok (.iadd, 1) := by decide +kernel
theorem dX5_solves_534 : decode cX5_solves 534 = .ok (.laload, 1) := by decide +kernel
theorem dX5_solves_535 : decode cX5_solves 535 = .ok (.lastore, 1) := by decide +kernel
theorem dX5_solves_536 : decode cX5_solves 536 = .ok (.iinc 4 1, 3) := by decide +kernel
theorem dX5_solves_539 : decode cX5_solves 539 = .ok (.goto (-53), 3) := by decide +kernel
theorem dX5_solves_542 : decode cX5_solves 542 = .ok (.iinc 3 1, 3) := by decide +kernel
theorem dX5_solves_545 : decode cX5_solves 545 = .ok (.goto (-67), 3) := by decide +kernel
theorem dX5_solves_548 : decode cX5_solves 548 = .ok (.aload_n 0, 1) := by decide +kernel
theorem dX5_solves_549 : decode cX5_solves 549 = .ok (.getfield 32, 3) := by decide +kernel
theorem dX5_solves_552 : decode cX5_solves 552 = .ok (.iload_n 2, 1) := by decide +kernel
theorem dX5_solves_553 : decode cX5_solves 553 = .ok (.aload_n 0, 1) := by decide +kernel
theorem dX5_solves_554 : decode cX5_solves 554 = .ok (.iload_n 1, 1) := by decide +kernel
theorem dX5_solves_555 : decode cX5_solves 555 = .ok (.iconst 0, 1) := by decide +kernel
theorem dX5_solves_556 : decode cX5_solves 556 = .ok (.invokevirtual 94, 3) := by decide +kernel
theorem dX5_solves_559 : decode cX5_solves 559 = .ok (.lastore, 1) := by decide +kernel
theorem dX5_solves_560 : decode cX5_solves 560 = .ok (.iinc 2 1, 3) := by decide +kernel
theorem dX5_solves_563 : decode cX5_solves 563 = .ok (.goto (-115), 3) := by decide +kernel
theorem dX5_solves_566 : decode cX5_solves 566 = .ok (.return_, 1) := by decide +kernel
/-! ===== FlowMetersModel.solves()V ===== -/
def fX5_solves_L6 (N : Nat) (n : Nat) (y1 : Int32) (d_t_heapOf : Nat → Int32) (d_t_partOf : Nat → Int32) : Option (Nat → Int32) := match n with
  | 0 => none
  | n + 1 =>
    (if 6 ≤ y1 then
        some d_t_partOf
      else
        (ya_rd d_t_heapOf 6 y1).bind fun v4 =>
        (ya_wr d_t_partOf 6 y1 v4).bind fun v6 =>
        ya_lt (y1 + 1) fun v8 =>
        fX5_solves_L6 N n v8 d_t_heapOf v6)
def fX5_solves_L76 (N : Nat) (n : Nat) (y1 : Int32) (y2 : Int32) (y3 : Int32) (y4 : Int32) (y5 : Int32) (d_t_partOf : Nat → Int32) : Option (Nat → Int32) := match n with
  | 0 => none
  | n + 1 =>
    (if 6 ≤ y5 then
        some d_t_partOf
      else
        (ya_rd d_t_partOf 6 y5).bind fun v25 =>
        (if y3 ≤ y4 then
          (if v25 = y4 then
            (if y4 ≤ y3 then
              (ya_wr d_t_partOf 6 y5 y4).bind fun v32 =>
              ya_lt (y5 + 1) fun v34 =>
              fX5_solves_L76 N n y1 y2 y3 y4 v34 v32
            else
              (ya_wr d_t_partOf 6 y5 y3).bind fun v36 =>
              ya_lt (y5 + 1) fun v38 =>
              fX5_solves_L76 N n y1 y2 y3 y4 v38 v36)
          else
            ya_lt (y5 + 1) fun v29 =>
            fX5_solves_L76 N n y1 y2 y3 y4 v29 d_t_partOf)
        else
          (if v25 = y3 then
            (if y4 ≤ y3 then
              (ya_wr d_t_partOf 6 y5 y4).bind fun v44 =>
              ya_lt (y5 + 1) fun v46 =>
              fX5_solves_L76 N n y1 y2 y3 y4 v46 v44
            else
              (ya_wr d_t_partOf 6 y5 y3).bind fun v48 =>
              ya_lt (y5 + 1) fun v50 =>
              fX5_solves_L76 N n y1 y2 y3 y4 v50 v48)
          else
            ya_lt (y5 + 1) fun v41 =>
            fX5_solves_L76 N n y1 y2 y3 y4 v41 d_t_partOf)))
def fX5_solves_L40 (N : Nat) (n : Nat) (y1 : Int32) (y2 : Int32) (d_t_now : Nat → Int32) (d_t_partOf : Nat → Int32) : Option (Nat → Int32) := match n with
  | 0 => none
  | n + 1 =>
    (fX5_flows d_t_now).bind fun v13 =>
      (if v13 ≤ y2 then
        some d_t_partOf
      else
        (fX5_get d_t_now y2 0).bind fun v16 =>
        (ya_rd d_t_partOf 6 v16).bind fun v18 =>
        (fX5_get d_t_now y2 1).bind fun v20 =>
        (ya_rd d_t_partOf 6 v20).bind fun v22 =>
        (fX5_solves_L76 N N y1 y2 v18 v22 0 d_t_partOf).bind fun v52 =>
        ya_lt (y2 + 1) fun v54 =>
        fX5_solves_L40 N n y1 v54 d_t_now v52)
def fX5_solves_L32 (N : Nat) (n : Nat) (y1 : Int32) (d_t_now : Nat → Int32) (d_t_partOf : Nat → Int32) : Option (Nat → Int32) := match n with
  | 0 => none
  | n + 1 =>
    (if 6 ≤ y1 then
        some d_t_partOf
      else
        (fX5_solves_L40 N N y1 0 d_t_now d_t_partOf).bind fun v56 =>
        ya_lt (y1 + 1) fun v58 =>
        fX5_solves_L32 N n v58 d_t_now v56)
def fX5_solves_L146 (N : Nat) (n : Nat) (y1 : Int32) (y2 : Int32) (d_t_now : Nat → Int32) (d_t_heapOf : Nat → Int32) (d_t_partOf : Nat → Int32) (d_t_place : Nat → Int32) : Option (Int32 × (Nat → Int32)) := match n with
  | 0 => none
  | n + 1 =>
    (fX5_knots d_t_now).bind fun v62 =>
      (if v62 ≤ y2 then
        some (y1, d_t_place)
      else
        (ya_wr d_t_place 6 y2 (-1)).bind fun v65 =>
        (ya_rd d_t_heapOf 6 y2).bind fun v67 =>
        (if v67 = y2 then
          (ya_rd d_t_partOf 6 y2).bind fun v72 =>
          (if v72 = y2 then
            ya_lt (y2 + 1) fun v81 =>
            fX5_solves_L146 N n y1 v81 d_t_now d_t_heapOf d_t_partOf v65
          else
            (ya_wr v65 6 y2 y1).bind fun v75 =>
            ya_lt (y1 + 1) fun v77 =>
            ya_lt (y2 + 1) fun v79 =>
            fX5_solves_L146 N n v77 v79 d_t_now d_t_heapOf d_t_partOf v75)
        else
          ya_lt (y2 + 1) fun v70 =>
          fX5_solves_L146 N n y1 v70 d_t_now d_t_heapOf d_t_partOf v65))
def fX5_solves_L202 (N : Nat) (n : Nat) (y1 : Int32) (y2 : Int32) (d_t_matrix : Nat → Int64) : Option (Nat → Int64) := match n with
  | 0 => none
  | n + 1 =>
    (if 36 ≤ y2 then
        some d_t_matrix
      else
        (ya_wr d_t_matrix 36 y2 0).bind fun v87 =>
        ya_lt (y2 + 1) fun v89 =>
        fX5_solves_L202 N n y1 v89 v87)
def fX5_solves_L223 (N : Nat) (n : Nat) (y1 : Int32) (y2 : Int32) (d_t_right : Nat → Int64) : Option (Nat → Int64) := match n with
  | 0 => none
  | n + 1 =>
    (if 6 ≤ y2 then
        some d_t_right
      else
        (ya_wr d_t_right 6 y2 0).bind fun v94 =>
        ya_lt (y2 + 1) fun v96 =>
        fX5_solves_L223 N n y1 v96 v94)
def fX5_solves_L244 (N : Nat) (n : Nat) (y1 : Int32) (y2 : Int32) (d_t_now : Nat → Int32) (d_t_heapOf : Nat → Int32) (d_t_place : Nat → Int32) (d_t_matrix : Nat → Int64) (d_t_right : Nat → Int64) : Option ((Nat → Int64) × (Nat → Int64)) := match n with
  | 0 => none
  | n + 1 =>
    (fX5_flows d_t_now).bind fun v100 =>
      (if v100 ≤ y2 then
        some (d_t_matrix, d_t_right)
      else
        (fX5_get d_t_now y2 0).bind fun v103 =>
        (ya_rd d_t_heapOf 6 v103).bind fun v105 =>
        (fX5_get d_t_now y2 1).bind fun v107 =>
        (ya_rd d_t_heapOf 6 v107).bind fun v109 =>
        (fX5_isRead d_t_now y2).bind fun v111 =>
        (if v111 = 0 then
          ya_lt (y2 + 1) fun v114 =>
          fX5_solves_L244 N n y1 v114 d_t_now d_t_heapOf d_t_place d_t_matrix d_t_right
        else
          (if v105 = v109 then
            ya_lt (y2 + 1) fun v174 =>
            fX5_solves_L244 N n y1 v174 d_t_now d_t_heapOf d_t_place d_t_matrix d_t_right
          else
            (ya_rd d_t_place 6 v105).bind fun v117 =>
            (ya_rd d_t_place 6 v109).bind fun v119 =>
            (fX5_get d_t_now y2 4).bind fun v121 =>
            (fX5_puts d_t_matrix v117 v119 v121).bind fun v123 =>
            (ya_rd d_t_place 6 v109).bind fun v125 =>
            (ya_rd d_t_place 6 v105).bind fun v127 =>
            (fX5_get d_t_now y2 4).bind fun v129 =>
            (fX5_puts v123 v125 v127 v129).bind fun v131 =>
            (ya_rd d_t_place 6 v109).bind fun v133 =>
            (if v133 = (-1) then
              (ya_rd d_t_place 6 v105).bind fun v136 =>
              (if v136 = (-1) then
                ya_lt (y2 + 1) fun v139 =>
                fX5_solves_L244 N n y1 v139 d_t_now d_t_heapOf d_t_place v131 d_t_right
              else
                (ya_rd d_t_place 6 v105).bind fun v141 =>
                (ya_rd d_t_right 6 v141).bind fun v143 =>
                (fX5_get d_t_now y2 3).bind fun v145 =>
                (ya_wr d_t_right 6 v141 (v143 + (Int32.toInt64 v145))).bind fun v147 =>
                ya_lt (y2 + 1) fun v149 =>
                fX5_solves_L244 N n y1 v149 d_t_now d_t_heapOf d_t_place v131 v147)
            else
              (ya_rd d_t_place 6 v109).bind fun v151 =>
              (ya_rd d_t_right 6 v151).bind fun v153 =>
              (fX5_get d_t_now y2 3).bind fun v155 =>
              (ya_wr d_t_right 6 v151 (v153 - (Int32.toInt64 v155))).bind fun v157 =>
              (ya_rd d_t_place 6 v105).bind fun v159 =>
              (if v159 = (-1) then
                ya_lt (y2 + 1) fun v162 =>
                fX5_solves_L244 N n y1 v162 d_t_now d_t_heapOf d_t_place v131 v157
              else
                (ya_rd d_t_place 6 v105).bind fun v164 =>
                (ya_rd v157 6 v164).bind fun v166 =>
                (fX5_get d_t_now y2 3).bind fun v168 =>
                (ya_wr v157 6 v164 (v166 + (Int32.toInt64 v168))).bind fun v170 =>
                ya_lt (y2 + 1) fun v172 =>
                fX5_solves_L244 N n y1 v172 d_t_now d_t_heapOf d_t_place v131 v170)))))
def fX5_solves_L412 (N : Nat) (n : Nat) (y1 : Int32) (y2 : Int32) (d_t_matrix : Nat → Int64) (d_t_work : Nat → Int64) : Option (Nat → Int64) := match n with
  | 0 => none
  | n + 1 =>
    (if 36 ≤ y2 then
        some d_t_work
      else
        (ya_rd d_t_matrix 36 y2).bind fun v180 =>
        (ya_wr d_t_work 216 y2 v180).bind fun v182 =>
        ya_lt (y2 + 1) fun v184 =>
        fX5_solves_L412 N n y1 v184 d_t_matrix v182)
def fX5_solves_L486 (N : Nat) (n : Nat) (y1 : Int32) (y2 : Int32) (y3 : Int32) (y4 : Int32) (d_t_place : Nat → Int32) (d_t_matrix : Nat → Int64) (d_t_right : Nat → Int64) (d_t_work : Nat → Int64) : Option (Nat → Int64) := match n with
  | 0 => none
  | n + 1 =>
    (if y1 ≤ y4 then
        some d_t_work
      else
        (ya_rd d_t_place 6 y2).bind fun v201 =>
        (if y4 = v201 then
          (ya_rd d_t_right 6 y3).bind fun v210 =>
          (ya_wr d_t_work 216 ((6 * y3) + y4) v210).bind fun v212 =>
          ya_lt (y4 + 1) fun v214 =>
          fX5_solves_L486 N n y1 y2 y3 v214 d_t_place d_t_matrix d_t_right v212
        else
          (ya_rd d_t_matrix 36 ((6 * y3) + y4)).bind fun v204 =>
          (ya_wr d_t_work 216 ((6 * y3) + y4) v204).bind fun v206 =>
          ya_lt (y4 + 1) fun v208 =>
          fX5_solves_L486 N n y1 y2 y3 v208 d_t_place d_t_matrix d_t_right v206))
def fX5_solves_L478 (N : Nat) (n : Nat) (y1 : Int32) (y2 : Int32) (y3 : Int32) (d_t_place : Nat → Int32) (d_t_matrix : Nat → Int64) (d_t_right : Nat → Int64) (d_t_work : Nat → Int64) : Option (Nat → Int64) := match n with
  | 0 => none
  | n + 1 =>
    (if y1 ≤ y3 then
        some d_t_work
      else
        (fX5_solves_L486 N N y1 y2 y3 0 d_t_place d_t_matrix d_t_right d_t_work).bind fun v216 =>
        ya_lt (y3 + 1) fun v218 =>
        fX5_solves_L478 N n y1 y2 v218 d_t_place d_t_matrix d_t_right v216)
def fX5_solves_L448 (N : Nat) (n : Nat) (y1 : Int32) (y2 : Int32) (d_t_now : Nat → Int32) (d_t_place : Nat → Int32) (d_t_matrix : Nat → Int64) (d_t_right : Nat → Int64) (d_t_force : Nat → Int64) (d_t_work : Nat → Int64) : Option ((Nat → Int64) × (Nat → Int64)) := match n with
  | 0 => none
  | n + 1 =>
    (fX5_knots d_t_now).bind fun v191 =>
      (if v191 ≤ y2 then
        some (d_t_force, d_t_work)
      else
        (ya_wr d_t_force 6 y2 0).bind fun v194 =>
        (ya_rd d_t_place 6 y2).bind fun v196 =>
        (if v196 = (-1) then
          ya_lt (y2 + 1) fun v229 =>
          fX5_solves_L448 N n y1 v229 d_t_now d_t_place d_t_matrix d_t_right v194 d_t_work
        else
          (fX5_solves_L478 N N y1 y2 0 d_t_place d_t_matrix d_t_right d_t_work).bind fun v220 =>
          (fX5_determinant N 7 v220 y1 0).bind fun (v222, v223) =>
          (ya_wr v194 6 y2 v222).bind fun v225 =>
          ya_lt (y2 + 1) fun v227 =>
          fX5_solves_L448 N n y1 v227 d_t_now d_t_place d_t_matrix d_t_right v225 v223))
def fX5_solves (N : Nat) (c_t_below : Int64) (c_t_now : Nat → Int32) (c_t_heapOf : Nat → Int32) (c_t_partOf : Nat → Int32) (c_t_place : Nat → Int32) (c_t_matrix : Nat → Int64) (c_t_right : Nat → Int64) (c_t_force : Nat → Int64) (c_t_work : Nat → Int64)  : Option (Int64 × (Nat → Int32) × (Nat → Int32) × (Nat → Int32) × (Nat → Int64) × (Nat → Int64) × (Nat → Int64) × (Nat → Int64)) :=
  (fX5_heaps N c_t_now c_t_heapOf).bind fun v1 =>
  (fX5_solves_L6 N N 0 v1 c_t_partOf).bind fun v10 =>
  (fX5_solves_L32 N N 0 c_t_now v10).bind fun v60 =>
  (fX5_solves_L146 N N 0 0 c_t_now v1 v60 c_t_place).bind fun (v83, v84) =>
  (fX5_solves_L202 N N v83 0 c_t_matrix).bind fun v91 =>
  (fX5_solves_L223 N N v83 0 c_t_right).bind fun v98 =>
  (fX5_solves_L244 N N v83 0 c_t_now v1 v84 v91 v98).bind fun (v176, v177) =>
  (fX5_solves_L412 N N v83 0 v176 c_t_work).bind fun v186 =>
  (fX5_determinant N 7 v186 v83 0).bind fun (v188, v189) =>
  (fX5_solves_L448 N N v83 0 c_t_now v84 v176 v177 c_t_force v189).bind fun (v231, v232) =>
  some (v188, v1, v60, v84, v176, v177, v231, v232)
theorem fX5_solves_19 : yF wsX5_solves RX5 19 5 4 RX5 TX5 19 := ⟨rfl, by decide, by decide +kernel, by decide +kernel⟩
theorem fX5_solves_16 : yF wsX5_solves RX5 16 5 3 RX5 TX5 19 := ⟨rfl, by decide, by decide +kernel, by decide +kernel⟩
theorem fX5_solves_22 : yF wsX5_solves RX5 22 5 5 RX5 TX5 19 := ⟨rfl, by decide, by decide +kernel, by decide +kernel⟩
theorem fX5_solves_25 : yF wsX5_solves RX5 25 5 6 RX5 TX5 19 := ⟨rfl, by decide, by decide +kernel, by decide +kernel⟩
theorem fX5_solves_29 : yF wsX5_solves RX5 29 5 7 RX5 TX5 19 := ⟨rfl, by decide, by decide +kernel, by decide +kernel⟩
theorem fX5_solves_35 : yF wsX5_solves RX5 35 5 9 RX5 TX5 19 := ⟨rfl, by decide, by decide +kernel, by decide +kernel⟩
theorem fX5_solves_104 : yF wsX5_solves RX5 104 5 10 RX5 TX5 19 := ⟨rfl, by decide, by decide +kernel, by decide +kernel⟩
theorem fX5_solves_32 : yF wsX5_solves RX5 32 5 8 RX5 TX5 19 := ⟨rfl, by decide, by decide +kernel, by decide +kernel⟩
abbrev rmX5_solves : Room := { frames := 8, cells := 0, slots := 0, locals := 311 }
theorem eX5_solves : yY yX5_solves wsX5_solves cX5_solves 6 none rmX5_solves 0 := ⟨⟨_, rfl⟩, rfl, rfl, by decide, by decide, by decide +kernel⟩
set_option maxHeartbeats 4000000 in
set_option maxRecDepth 100000 in
theorem mX5_solves {l : Launch} {D : va_G} {sz : Nat} {cI cJ cZ cW cR : ClassId} {N : Nat} {h_t : Nat} {A_t : Nat → Nat} {c_t_many : Int32} {c_t_below : Int64} {c_t_above1 : Int64} {c_t_below1 : Int64} {c_t_now : Nat → Int32} {c_t_heapOf : Nat → Int32} {c_t_partOf : Nat → Int32} {c_t_place : Nat → Int32} {c_t_matrix : Nat → Int64} {c_t_right : Nat → Int64} {c_t_force : Nat → Int64} {c_t_work : Nat → Int64} {zc_t_below : Int64} {zc_t_heapOf : Nat → Int32} {zc_t_partOf : Nat → Int32} {zc_t_place : Nat → Int32} {zc_t_matrix : Nat → Int64} {zc_t_right : Nat → Int64} {zc_t_force : Nat → Int64} {zc_t_work : Nat → Int64} (hf : fX5_solves N c_t_below c_t_now c_t_heapOf c_t_partOf c_t_place c_t_matrix c_t_right c_t_force c_t_work = some (zc_t_below, zc_t_heapOf, zc_t_partOf, zc_t_place, zc_t_matrix, zc_t_right, zc_t_force, zc_t_work)) : Met l yX5_solves wsX5_solves rmX5_solves (yP D (yT cI cJ cZ cW cR) [(h_t, oR A_t c_t_many c_t_below c_t_above1 c_t_below1), (A_t 0, eI cI 242 c_t_now), (A_t 2, eI cI 6 c_t_heapOf), (A_t 3, eI cI 6 c_t_partOf), (A_t 4, eI cI 6 c_t_place), (A_t 5, eJ cJ 36 c_t_matrix), (A_t 6, eJ cJ 6 c_t_right), (A_t 7, eJ cJ 6 c_t_force), (A_t 8, eJ cJ 216 c_t_work)] sz [.ref h_t]) (yQv D (yT cI cJ cZ cW cR) [(h_t, oR A_t c_t_many zc_t_below c_t_above1 c_t_below1), (A_t 0, eI cI 242 c_t_now), (A_t 2, eI cI 6 zc_t_heapOf), (A_t 3, eI cI 6 zc_t_partOf), (A_t 4, eI cI 6 zc_t_place), (A_t 5, eJ cJ 36 zc_t_matrix), (A_t 6, eJ cJ 6 zc_t_right), (A_t 7, eJ cJ 6 zc_t_force), (A_t 8, eJ cJ 216 zc_t_work)] (va_A [(h_t, oR A_t c_t_many c_t_below c_t_above1 c_t_below1), (A_t 0, eI cI 242 c_t_now), (A_t 2, eI cI 6 c_t_heapOf), (A_t 3, eI cI 6 c_t_partOf), (A_t 4, eI cI 6 c_t_place), (A_t 5, eJ cJ 36 c_t_matrix), (A_t 6, eJ cJ 6 c_t_right), (A_t 7, eJ cJ 6 c_t_force), (A_t 8, eJ cJ 216 c_t_work)] sz)) 0 0 (va_A [(h_t, oR A_t c_t_many c_t_below c_t_above1 c_t_below1), (A_t 0, eI cI 242 c_t_now), (A_t 2, eI cI 6 c_t_heapOf), (A_t 3, eI cI 6 c_t_partOf), (A_t 4, eI cI 6 c_t_place), (A_t 5, eJ cJ 36 c_t_matrix), (A_t 6, eJ cJ 6 c_t_right), (A_t 7, eJ cJ 6 c_t_force), (A_t 8, eJ cJ 216 c_t_work)] sz) := by
  refine yM (cc := cX5_solves) (maxL := 6) (ret := none) RX5 (by decide) rfl rfl (Nat.le_of_ble_eq_true rfl) ?_
  intro p e s m below meth c Γ hr
  have loop6 : ∀ (n : Nat) (y1 : Int32) (d_t_many : Int32) (d_t_below : Int64) (d_t_above1 : Int64) (d_t_below1 : Int64) (d_t_now : Nat → Int32) (d_t_heapOf : Nat → Int32) (d_t_partOf : Nat → Int32) (d_t_place : Nat → Int32) (d_t_matrix : Nat → Int64) (d_t_right : Nat → Int64) (d_t_force : Nat → Int64) (d_t_work : Nat → Int64) (w0 : Nat → Int32), fX5_solves_L6 N n y1 d_t_heapOf d_t_partOf = some w0 → yG p l e (headSpec wsX5_solves rmX5_solves).room s m (List.toArray [.ref h_t]) below meth c D (va_A [(h_t, oR A_t c_t_many c_t_below c_t_above1 c_t_below1), (A_t 0, eI cI 242 c_t_now), (A_t 2, eI cI 6 c_t_heapOf), (A_t 3, eI cI 6 c_t_partOf), (A_t 4, eI cI 6 c_t_place), (A_t 5, eJ cJ 36 c_t_matrix), (A_t 6, eJ cJ 6 c_t_right), (A_t 7, eJ cJ 6 c_t_force), (A_t 8, eJ cJ 216 c_t_work)] sz) 6 0 0 (MQ below (yQv D (yT cI cJ cZ cW cR) [(h_t, oR A_t c_t_many zc_t_below c_t_above1 c_t_below1), (A_t 0, eI cI 242 c_t_now), (A_t 2, eI cI 6 zc_t_heapOf), (A_t 3, eI cI 6 zc_t_partOf), (A_t 4, eI cI 6 zc_t_place), (A_t 5, eJ cJ 36 zc_t_matrix), (A_t 6, eJ cJ 6 zc_t_right), (A_t 7, eJ cJ 6 zc_t_force), (A_t 8, eJ cJ 216 zc_t_work)] (va_A [(h_t, oR A_t c_t_many c_t_below c_t_above1 c_t_below1), (A_t 0, eI cI 242 c_t_now), (A_t 2, eI cI 6 c_t_heapOf), (A_t 3, eI cI 6 c_t_partOf), (A_t 4, eI cI 6 c_t_place), (A_t 5, eJ cJ 36 c_t_matrix), (A_t 6, eJ cJ 6 c_t_right), (A_t 7, eJ cJ 6 c_t_force), (A_t 8, eJ cJ 216 c_t_work)] sz)) (List.toArray [.ref h_t]) s 0 0 (va_A [(h_t, oR A_t c_t_many c_t_below c_t_above1 c_t_below1), (A_t 0, eI cI 242 c_t_now), (A_t 2, eI cI 6 c_t_heapOf), (A_t 3, eI cI 6 c_t_partOf), (A_t 4, eI cI 6 c_t_place), (A_t 5, eJ cJ 36 c_t_matrix), (A_t 6, eJ cJ 6 c_t_right), (A_t 7, eJ cJ 6 c_t_force), (A_t 8, eJ cJ 216 c_t_work)] sz)) 30 [(0, .ref h_t)] [] [(h_t, oR A_t d_t_many d_t_below d_t_above1 d_t_below1), (A_t 0, eI cI 242 d_t_now), (A_t 2, eI cI 6 d_t_heapOf), (A_t 3, eI cI 6 w0), (A_t 4, eI cI 6 d_t_place), (A_t 5, eJ cJ 36 d_t_matrix), (A_t 6, eJ cJ 6 d_t_right), (A_t 7, eJ cJ 6 d_t_force), (A_t 8, eJ cJ 216 d_t_work)] → yG p l e (headSpec wsX5_solves rmX5_solves).room s m (List.toArray [.ref h_t]) below meth c D (va_A [(h_t, oR A_t c_t_many c_t_below c_t_above1 c_t_below1), (A_t 0, eI cI 242 c_t_now), (A_t 2, eI cI 6 c_t_heapOf), (A_t 3, eI cI 6 c_t_partOf), (A_t 4, eI cI 6 c_t_place), (A_t 5, eJ cJ 36 c_t_matrix), (A_t 6, eJ cJ 6 c_t_right), (A_t 7, eJ cJ 6 c_t_force), (A_t 8, eJ cJ 216 c_t_work)] sz) 6 0 0 (MQ below (yQv D (yT cI cJ cZ cW cR) [(h_t, oR A_t c_t_many zc_t_below c_t_above1 c_t_below1), (A_t 0, eI cI 242 c_t_now), (A_t 2, eI cI 6 zc_t_heapOf), (A_t 3, eI cI 6 zc_t_partOf), (A_t 4, eI cI 6 zc_t_place), (A_t 5, eJ cJ 36 zc_t_matrix), (A_t 6, eJ cJ 6 zc_t_right), (A_t 7, eJ cJ 6 zc_t_force), (A_t 8, eJ cJ 216 zc_t_work)] (va_A [(h_t, oR A_t c_t_many c_t_below c_t_above1 c_t_below1), (A_t 0, eI cI 242 c_t_now), (A_t 2, eI cI 6 c_t_heapOf), (A_t 3, eI cI 6 c_t_partOf), (A_t 4, eI cI 6 c_t_place), (A_t 5, eJ cJ 36 c_t_matrix), (A_t 6, eJ cJ 6 c_t_right), (A_t 7, eJ cJ 6 c_t_force), (A_t 8, eJ cJ 216 c_t_work)] sz)) (List.toArray [.ref h_t]) s 0 0 (va_A [(h_t, oR A_t c_t_many c_t_below c_t_above1 c_t_below1), (A_t 0, eI cI 242 c_t_now), (A_t 2, eI cI 6 c_t_heapOf), (A_t 3, eI cI 6 c_t_partOf), (A_t 4, eI cI 6 c_t_place), (A_t 5, eJ cJ 36 c_t_matrix), (A_t 6, eJ cJ 6 c_t_right), (A_t 7, eJ cJ 6 c_t_force), (A_t 8, eJ cJ 216 c_t_work)] sz)) 6 [(0, .ref h_t), (1, .int y1)] [] [(h_t, oR A_t d_t_many d_t_below d_t_above1 d_t_below1), (A_t 0, eI cI 242 d_t_now), (A_t 2, eI cI 6 d_t_heapOf), (A_t 3, eI cI 6 d_t_partOf), (A_t 4, eI cI 6 d_t_place), (A_t 5, eJ cJ 36 d_t_matrix), (A_t 6, eJ cJ 6 d_t_right), (A_t 7, eJ cJ 6 d_t_force), (A_t 8, eJ cJ 216 d_t_work)] := by
    intro n
    induction n with
    | zero =>
      intro y1 d_t_many d_t_below d_t_above1 d_t_below1 d_t_now d_t_heapOf d_t_partOf d_t_place d_t_matrix d_t_right d_t_force d_t_work w0 hf
      cases hf
    | succ n ih =>
      intro y1 d_t_many d_t_below d_t_above1 d_t_below1 d_t_now d_t_heapOf d_t_partOf d_t_place d_t_matrix d_t_right d_t_force d_t_work w0 hf hk
      unfold fX5_solves_L6 at hf
      refine g_iload_n Γ 1 dX5_solves_6 rfl ?_
      refine g_bipush (v := 6) Γ dX5_solves_7 (by decide) ?_
      refine g_icmp_ge Γ 30 dX5_solves_9 (by decide) (fun c3 => ?_) (fun c3 => ?_)
      · have hf := ya_if1 c3 hf
        cases hf
        refine g_lv [0] rfl ?_
        exact hk
      · have hf := ya_if2 c3 hf
        refine g_aload_n Γ 0 dX5_solves_12 rfl ?_
        refine g_get Γ fX5_solves_19 0 rfl rfl dX5_solves_13 ?_
        refine g_iload_n Γ 1 dX5_solves_16 rfl ?_
        refine g_aload_n Γ 0 dX5_solves_17 rfl ?_
        refine g_get Γ fX5_solves_16 0 rfl rfl dX5_solves_18 ?_
        refine g_iload_n Γ 1 dX5_solves_21 rfl ?_
        obtain ⟨v4, e5, hf⟩ := ya_ob hf
        refine g_iald Γ e5 2 0 rfl rfl dX5_solves_22 ?_
        obtain ⟨v6, e7, hf⟩ := ya_ob hf
        refine g_iast (ws' := [(h_t, oR A_t d_t_many d_t_below d_t_above1 d_t_below1), (A_t 0, eI cI 242 d_t_now), (A_t 2, eI cI 6 d_t_heapOf), (A_t 3, eI cI 6 v6), (A_t 4, eI cI 6 d_t_place), (A_t 5, eJ cJ 36 d_t_matrix), (A_t 6, eJ cJ 6 d_t_right), (A_t 7, eJ cJ 6 d_t_force), (A_t 8, eJ cJ 216 d_t_work)]) Γ e7 3 0 rfl rfl dX5_solves_23 rfl ?_
        obtain ⟨v8, e9, hf⟩ := ya_lt_inv hf
        refine g_iinc (lv' := [(1, .int v8), (0, .ref h_t)]) Γ 1 dX5_solves_24 rfl (by rw [e9]; rfl) (by decide) rfl ?_
        refine g_goto Γ 6 dX5_solves_27 (by decide) ?_
        refine g_lv [1, 0] rfl ?_
        exact ih _ _ _ _ _ _ _ _ _ _ _ _ _ _ hf hk
  have loop76 : ∀ (n : Nat) (y1 : Int32) (y2 : Int32) (y3 : Int32) (y4 : Int32) (y5 : Int32) (d_t_many : Int32) (d_t_below : Int64) (d_t_above1 : Int64) (d_t_below1 : Int64) (d_t_now : Nat → Int32) (d_t_heapOf : Nat → Int32) (d_t_partOf : Nat → Int32) (d_t_place : Nat → Int32) (d_t_matrix : Nat → Int64) (d_t_right : Nat → Int64) (d_t_force : Nat → Int64) (d_t_work : Nat → Int64) (w0 : Nat → Int32), fX5_solves_L76 N n y1 y2 y3 y4 y5 d_t_partOf = some w0 → yG p l e (headSpec wsX5_solves rmX5_solves).room s m (List.toArray [.ref h_t]) below meth c D (va_A [(h_t, oR A_t c_t_many c_t_below c_t_above1 c_t_below1), (A_t 0, eI cI 242 c_t_now), (A_t 2, eI cI 6 c_t_heapOf), (A_t 3, eI cI 6 c_t_partOf), (A_t 4, eI cI 6 c_t_place), (A_t 5, eJ cJ 36 c_t_matrix), (A_t 6, eJ cJ 6 c_t_right), (A_t 7, eJ cJ 6 c_t_force), (A_t 8, eJ cJ 216 c_t_work)] sz) 6 0 0 (MQ below (yQv D (yT cI cJ cZ cW cR) [(h_t, oR A_t c_t_many zc_t_below c_t_above1 c_t_below1), (A_t 0, eI cI 242 c_t_now), (A_t 2, eI cI 6 zc_t_heapOf), (A_t 3, eI cI 6 zc_t_partOf), (A_t 4, eI cI 6 zc_t_place), (A_t 5, eJ cJ 36 zc_t_matrix), (A_t 6, eJ cJ 6 zc_t_right), (A_t 7, eJ cJ 6 zc_t_force), (A_t 8, eJ cJ 216 zc_t_work)] (va_A [(h_t, oR A_t c_t_many c_t_below c_t_above1 c_t_below1), (A_t 0, eI cI 242 c_t_now), (A_t 2, eI cI 6 c_t_heapOf), (A_t 3, eI cI 6 c_t_partOf), (A_t 4, eI cI 6 c_t_place), (A_t 5, eJ cJ 36 c_t_matrix), (A_t 6, eJ cJ 6 c_t_right), (A_t 7, eJ cJ 6 c_t_force), (A_t 8, eJ cJ 216 c_t_work)] sz)) (List.toArray [.ref h_t]) s 0 0 (va_A [(h_t, oR A_t c_t_many c_t_below c_t_above1 c_t_below1), (A_t 0, eI cI 242 c_t_now), (A_t 2, eI cI 6 c_t_heapOf), (A_t 3, eI cI 6 c_t_partOf), (A_t 4, eI cI 6 c_t_place), (A_t 5, eJ cJ 36 c_t_matrix), (A_t 6, eJ cJ 6 c_t_right), (A_t 7, eJ cJ 6 c_t_force), (A_t 8, eJ cJ 216 c_t_work)] sz)) 130 [(0, .ref h_t), (1, .int y1), (2, .int y2)] [] [(h_t, oR A_t d_t_many d_t_below d_t_above1 d_t_below1), (A_t 0, eI cI 242 d_t_now), (A_t 2, eI cI 6 d_t_heapOf), (A_t 3, eI cI 6 w0), (A_t 4, eI cI 6 d_t_place), (A_t 5, eJ cJ 36 d_t_matrix), (A_t 6, eJ cJ 6 d_t_right), (A_t 7, eJ cJ 6 d_t_force), (A_t 8, eJ cJ 216 d_t_work)] → yG p l e (headSpec wsX5_solves rmX5_solves).room s m (List.toArray [.ref h_t]) below meth c D (va_A [(h_t, oR A_t c_t_many c_t_below c_t_above1 c_t_below1), (A_t 0, eI cI 242 c_t_now), (A_t 2, eI cI 6 c_t_heapOf), (A_t 3, eI cI 6 c_t_partOf), (A_t 4, eI cI 6 c_t_place), (A_t 5, eJ cJ 36 c_t_matrix), (A_t 6, eJ cJ 6 c_t_right), (A_t 7, eJ cJ 6 c_t_force), (A_t 8, eJ cJ 216 c_t_work)] sz) 6 0 0 (MQ below (yQv D (yT cI cJ cZ cW cR) [(h_t, oR A_t c_t_many zc_t_below c_t_above1 c_t_below1), (A_t 0, eI cI 242 c_t_now), (A_t 2, eI cI 6 zc_t_heapOf), (A_t 3, eI cI 6 zc_t_partOf), (A_t 4, eI cI 6 zc_t_place), (A_t 5, eJ cJ 36 zc_t_matrix), (A_t 6, eJ cJ 6 zc_t_right), (A_t 7, eJ cJ 6 zc_t_force), (A_t 8, eJ cJ 216 zc_t_work)] (va_A [(h_t, oR A_t c_t_many c_t_below c_t_above1 c_t_below1), (A_t 0, eI cI 242 c_t_now), (A_t 2, eI cI 6 c_t_heapOf), (A_t 3, eI cI 6 c_t_partOf), (A_t 4, eI cI 6 c_t_place), (A_t 5, eJ cJ 36 c_t_matrix), (A_t 6, eJ cJ 6 c_t_right), (A_t 7, eJ cJ 6 c_t_force), (A_t 8, eJ cJ 216 c_t_work)] sz)) (List.toArray [.ref h_t]) s 0 0 (va_A [(h_t, oR A_t c_t_many c_t_below c_t_above1 c_t_below1), (A_t 0, eI cI 242 c_t_now), (A_t 2, eI cI 6 c_t_heapOf), (A_t 3, eI cI 6 c_t_partOf), (A_t 4, eI cI 6 c_t_place), (A_t 5, eJ cJ 36 c_t_matrix), (A_t 6, eJ cJ 6 c_t_right), (A_t 7, eJ cJ 6 c_t_force), (A_t 8, eJ cJ 216 c_t_work)] sz)) 76 [(0, .ref h_t), (1, .int y1), (2, .int y2), (3, .int y3), (4, .int y4), (5, .int y5)] [] [(h_t, oR A_t d_t_many d_t_below d_t_above1 d_t_below1), (A_t 0, eI cI 242 d_t_now), (A_t 2, eI cI 6 d_t_heapOf), (A_t 3, eI cI 6 d_t_partOf), (A_t 4, eI cI 6 d_t_place), (A_t 5, eJ cJ 36 d_t_matrix), (A_t 6, eJ cJ 6 d_t_right), (A_t 7, eJ cJ 6 d_t_force), (A_t 8, eJ cJ 216 d_t_work)] := by
    intro n
    induction n with
    | zero =>
      intro y1 y2 y3 y4 y5 d_t_many d_t_below d_t_above1 d_t_below1 d_t_now d_t_heapOf d_t_partOf d_t_place d_t_matrix d_t_right d_t_force d_t_work w0 hf
      cases hf
    | succ n ih =>
      intro y1 y2 y3 y4 y5 d_t_many d_t_below d_t_above1 d_t_below1 d_t_now d_t_heapOf d_t_partOf d_t_place d_t_matrix d_t_right d_t_force d_t_work w0 hf hk
      unfold fX5_solves_L76 at hf
      refine g_iload Γ 5 dX5_solves_76 rfl ?_
      refine g_bipush (v := 6) Γ dX5_solves_78 (by decide) ?_
      refine g_icmp_ge Γ 130 dX5_solves_80 (by decide) (fun c24 => ?_) (fun c24 => ?_)
      · have hf := ya_if1 c24 hf
        cases hf
        refine g_lv [0, 1, 2] rfl ?_
        exact hk
      · have hf := ya_if2 c24 hf
        refine g_aload_n Γ 0 dX5_solves_83 rfl ?_
        refine g_get Γ fX5_solves_19 0 rfl rfl dX5_solves_84 ?_
        refine g_iload Γ 5 dX5_solves_87 rfl ?_
        obtain ⟨v25, e26, hf⟩ := ya_ob hf
        refine g_iald Γ e26 3 0 rfl rfl dX5_solves_89 ?_
        refine g_iload_n Γ 3 dX5_solves_90 rfl ?_
        refine g_iload Γ 4 dX5_solves_91 rfl ?_
        refine g_icmp_le Γ 100 dX5_solves_93 (by decide) (fun c27 => ?_) (fun c27 => ?_)
        · have hf := ya_if1 c27 hf
          refine g_iload Γ 4 dX5_solves_100 rfl ?_
          refine g_icmp_ne Γ 124 dX5_solves_102 (by decide) (fun c28 => ?_) (fun c28 => ?_)
          · have hf := ya_if2 c28 hf
            obtain ⟨v29, e30, hf⟩ := ya_lt_inv hf
            refine g_iinc (lv' := [(5, .int v29), (0, .ref h_t), (1, .int y1), (2, .int y2), (3, .int y3), (4, .int y4)]) Γ 5 dX5_solves_124 rfl (by rw [e30]; rfl) (by decide) rfl ?_
            refine g_goto Γ 76 dX5_solves_127 (by decide) ?_
            refine g_lv [1, 2, 3, 4, 5, 0] rfl ?_
            exact ih _ _ _ _ _ _ _ _ _ _ _ _ _ _ _ _ _ _ hf hk
          · have hf := ya_if1 c28 hf
            refine g_aload_n Γ 0 dX5_solves_105 rfl ?_
            refine g_get Γ fX5_solves_19 0 rfl rfl dX5_solves_106 ?_
            refine g_iload Γ 5 dX5_solves_109 rfl ?_
            refine g_iload_n Γ 3 dX5_solves_111 rfl ?_
            refine g_iload Γ 4 dX5_solves_112 rfl ?_
            refine g_icmp_ge Γ 121 dX5_solves_114 (by decide) (fun c31 => ?_) (fun c31 => ?_)
            · have hf := ya_if1 c31 hf
              refine g_iload Γ 4 dX5_solves_121 rfl ?_
              obtain ⟨v32, e33, hf⟩ := ya_ob hf
              refine g_iast (ws' := [(h_t, oR A_t d_t_many d_t_below d_t_above1 d_t_below1), (A_t 0, eI cI 242 d_t_now), (A_t 2, eI cI 6 d_t_heapOf), (A_t 3, eI cI 6 v32), (A_t 4, eI cI 6 d_t_place), (A_t 5, eJ cJ 36 d_t_matrix), (A_t 6, eJ cJ 6 d_t_right), (A_t 7, eJ cJ 6 d_t_force), (A_t 8, eJ cJ 216 d_t_work)]) Γ e33 3 0 rfl rfl dX5_solves_123 rfl ?_
              obtain ⟨v34, e35, hf⟩ := ya_lt_inv hf
              refine g_iinc (lv' := [(5, .int v34), (0, .ref h_t), (1, .int y1), (2, .int y2), (3, .int y3), (4, .int y4)]) Γ 5 dX5_solves_124 rfl (by rw [e35]; rfl) (by decide) rfl ?_
              refine g_goto Γ 76 dX5_solves_127 (by decide) ?_
              refine g_lv [1, 2, 3, 4, 5, 0] rfl ?_
              exact ih _ _ _ _ _ _ _ _ _ _ _ _ _ _ _ _ _ _ hf hk
            · have hf := ya_if2 c31 hf
              refine g_iload_n Γ 3 dX5_solves_117 rfl ?_
              refine g_goto Γ 123 dX5_solves_118 (by decide) ?_
              obtain ⟨v36, e37, hf⟩ := ya_ob hf
              refine g_iast (ws' := [(h_t, oR A_t d_t_many d_t_below d_t_above1 d_t_below1), (A_t 0, eI cI 242 d_t_now), (A_t 2, eI cI 6 d_t_heapOf), (A_t 3, eI cI 6 v36), (A_t 4, eI cI 6 d_t_place), (A_t 5, eJ cJ 36 d_t_matrix), (A_t 6, eJ cJ 6 d_t_right), (A_t 7, eJ cJ 6 d_t_force), (A_t 8, eJ cJ 216 d_t_work)]) Γ e37 3 0 rfl rfl dX5_solves_123 rfl ?_
              obtain ⟨v38, e39, hf⟩ := ya_lt_inv hf
              refine g_iinc (lv' := [(5, .int v38), (0, .ref h_t), (1, .int y1), (2, .int y2), (3, .int y3), (4, .int y4)]) Γ 5 dX5_solves_124 rfl (by rw [e39]; rfl) (by decide) rfl ?_
              refine g_goto Γ 76 dX5_solves_127 (by decide) ?_
              refine g_lv [1, 2, 3, 4, 5, 0] rfl ?_
              exact ih _ _ _ _ _ _ _ _ _ _ _ _ _ _ _ _ _ _ hf hk
        · have hf := ya_if2 c27 hf
          refine g_iload_n Γ 3 dX5_solves_96 rfl ?_
          refine g_goto Γ 102 dX5_solves_97 (by decide) ?_
          refine g_icmp_ne Γ 124 dX5_solves_102 (by decide) (fun c40 => ?_) (fun c40 => ?_)
          · have hf := ya_if2 c40 hf
            obtain ⟨v41, e42, hf⟩ := ya_lt_inv hf
            refine g_iinc (lv' := [(5, .int v41), (0, .ref h_t), (1, .int y1), (2, .int y2), (3, .int y3), (4, .int y4)]) Γ 5 dX5_solves_124 rfl (by rw [e42]; rfl) (by decide) rfl ?_
            refine g_goto Γ 76 dX5_solves_127 (by decide) ?_
            refine g_lv [1, 2, 3, 4, 5, 0] rfl ?_
            exact ih _ _ _ _ _ _ _ _ _ _ _ _ _ _ _ _ _ _ hf hk
          · have hf := ya_if1 c40 hf
            refine g_aload_n Γ 0 dX5_solves_105 rfl ?_
            refine g_get Γ fX5_solves_19 0 rfl rfl dX5_solves_106 ?_
            refine g_iload Γ 5 dX5_solves_109 rfl ?_
            refine g_iload_n Γ 3 dX5_solves_111 rfl ?_
            refine g_iload Γ 4 dX5_solves_112 rfl ?_
            refine g_icmp_ge Γ 121 dX5_solves_114 (by decide) (fun c43 => ?_) (fun c43 => ?_)
            · have hf := ya_if1 c43 hf
              refine g_iload Γ 4 dX5_solves_121 rfl ?_
              obtain ⟨v44, e45, hf⟩ := ya_ob hf
              refine g_iast (ws' := [(h_t, oR A_t d_t_many d_t_below d_t_above1 d_t_below1), (A_t 0, eI cI 242 d_t_now), (A_t 2, eI cI 6 d_t_heapOf), (A_t 3, eI cI 6 v44), (A_t 4, eI cI 6 d_t_place), (A_t 5, eJ cJ 36 d_t_matrix), (A_t 6, eJ cJ 6 d_t_right), (A_t 7, eJ cJ 6 d_t_force), (A_t 8, eJ cJ 216 d_t_work)]) Γ e45 3 0 rfl rfl dX5_solves_123 rfl ?_
              obtain ⟨v46, e47, hf⟩ := ya_lt_inv hf
              refine g_iinc (lv' := [(5, .int v46), (0, .ref h_t), (1, .int y1), (2, .int y2), (3, .int y3), (4, .int y4)]) Γ 5 dX5_solves_124 rfl (by rw [e47]; rfl) (by decide) rfl ?_
              refine g_goto Γ 76 dX5_solves_127 (by decide) ?_
              refine g_lv [1, 2, 3, 4, 5, 0] rfl ?_
              exact ih _ _ _ _ _ _ _ _ _ _ _ _ _ _ _ _ _ _ hf hk
            · have hf := ya_if2 c43 hf
              refine g_iload_n Γ 3 dX5_solves_117 rfl ?_
              refine g_goto Γ 123 dX5_solves_118 (by decide) ?_
              obtain ⟨v48, e49, hf⟩ := ya_ob hf
              refine g_iast (ws' := [(h_t, oR A_t d_t_many d_t_below d_t_above1 d_t_below1), (A_t 0, eI cI 242 d_t_now), (A_t 2, eI cI 6 d_t_heapOf), (A_t 3, eI cI 6 v48), (A_t 4, eI cI 6 d_t_place), (A_t 5, eJ cJ 36 d_t_matrix), (A_t 6, eJ cJ 6 d_t_right), (A_t 7, eJ cJ 6 d_t_force), (A_t 8, eJ cJ 216 d_t_work)]) Γ e49 3 0 rfl rfl dX5_solves_123 rfl ?_
              obtain ⟨v50, e51, hf⟩ := ya_lt_inv hf
              refine g_iinc (lv' := [(5, .int v50), (0, .ref h_t), (1, .int y1), (2, .int y2), (3, .int y3), (4, .int y4)]) Γ 5 dX5_solves_124 rfl (by rw [e51]; rfl) (by decide) rfl ?_
              refine g_goto Γ 76 dX5_solves_127 (by decide) ?_
              refine g_lv [1, 2, 3, 4, 5, 0] rfl ?_
              exact ih _ _ _ _ _ _ _ _ _ _ _ _ _ _ _ _ _ _ hf hk
  have loop40 : ∀ (n : Nat) (y1 : Int32) (y2 : Int32) (d_t_many : Int32) (d_t_below : Int64) (d_t_above1 : Int64) (d_t_below1 : Int64) (d_t_now : Nat → Int32) (d_t_heapOf : Nat → Int32) (d_t_partOf : Nat → Int32) (d_t_place : Nat → Int32) (d_t_matrix : Nat → Int64) (d_t_right : Nat → Int64) (d_t_force : Nat → Int64) (d_t_work : Nat → Int64) (w0 : Nat → Int32), fX5_solves_L40 N n y1 y2 d_t_now d_t_partOf = some w0 → yG p l e (headSpec wsX5_solves rmX5_solves).room s m (List.toArray [.ref h_t]) below meth c D (va_A [(h_t, oR A_t c_t_many c_t_below c_t_above1 c_t_below1), (A_t 0, eI cI 242 c_t_now), (A_t 2, eI cI 6 c_t_heapOf), (A_t 3, eI cI 6 c_t_partOf), (A_t 4, eI cI 6 c_t_place), (A_t 5, eJ cJ 36 c_t_matrix), (A_t 6, eJ cJ 6 c_t_right), (A_t 7, eJ cJ 6 c_t_force), (A_t 8, eJ cJ 216 c_t_work)] sz) 6 0 0 (MQ below (yQv D (yT cI cJ cZ cW cR) [(h_t, oR A_t c_t_many zc_t_below c_t_above1 c_t_below1), (A_t 0, eI cI 242 c_t_now), (A_t 2, eI cI 6 zc_t_heapOf), (A_t 3, eI cI 6 zc_t_partOf), (A_t 4, eI cI 6 zc_t_place), (A_t 5, eJ cJ 36 zc_t_matrix), (A_t 6, eJ cJ 6 zc_t_right), (A_t 7, eJ cJ 6 zc_t_force), (A_t 8, eJ cJ 216 zc_t_work)] (va_A [(h_t, oR A_t c_t_many c_t_below c_t_above1 c_t_below1), (A_t 0, eI cI 242 c_t_now), (A_t 2, eI cI 6 c_t_heapOf), (A_t 3, eI cI 6 c_t_partOf), (A_t 4, eI cI 6 c_t_place), (A_t 5, eJ cJ 36 c_t_matrix), (A_t 6, eJ cJ 6 c_t_right), (A_t 7, eJ cJ 6 c_t_force), (A_t 8, eJ cJ 216 c_t_work)] sz)) (List.toArray [.ref h_t]) s 0 0 (va_A [(h_t, oR A_t c_t_many c_t_below c_t_above1 c_t_below1), (A_t 0, eI cI 242 c_t_now), (A_t 2, eI cI 6 c_t_heapOf), (A_t 3, eI cI 6 c_t_partOf), (A_t 4, eI cI 6 c_t_place), (A_t 5, eJ cJ 36 c_t_matrix), (A_t 6, eJ cJ 6 c_t_right), (A_t 7, eJ cJ 6 c_t_force), (A_t 8, eJ cJ 216 c_t_work)] sz)) 136 [(0, .ref h_t), (1, .int y1)] [] [(h_t, oR A_t d_t_many d_t_below d_t_above1 d_t_below1), (A_t 0, eI cI 242 d_t_now), (A_t 2, eI cI 6 d_t_heapOf), (A_t 3, eI cI 6 w0), (A_t 4, eI cI 6 d_t_place), (A_t 5, eJ cJ 36 d_t_matrix), (A_t 6, eJ cJ 6 d_t_right), (A_t 7, eJ cJ 6 d_t_force), (A_t 8, eJ cJ 216 d_t_work)] → yG p l e (headSpec wsX5_solves rmX5_solves).room s m (List.toArray [.ref h_t]) below meth c D (va_A [(h_t, oR A_t c_t_many c_t_below c_t_above1 c_t_below1), (A_t 0, eI cI 242 c_t_now), (A_t 2, eI cI 6 c_t_heapOf), (A_t 3, eI cI 6 c_t_partOf), (A_t 4, eI cI 6 c_t_place), (A_t 5, eJ cJ 36 c_t_matrix), (A_t 6, eJ cJ 6 c_t_right), (A_t 7, eJ cJ 6 c_t_force), (A_t 8, eJ cJ 216 c_t_work)] sz) 6 0 0 (MQ below (yQv D (yT cI cJ cZ cW cR) [(h_t, oR A_t c_t_many zc_t_below c_t_above1 c_t_below1), (A_t 0, eI cI 242 c_t_now), (A_t 2, eI cI 6 zc_t_heapOf), (A_t 3, eI cI 6 zc_t_partOf), (A_t 4, eI cI 6 zc_t_place), (A_t 5, eJ cJ 36 zc_t_matrix), (A_t 6, eJ cJ 6 zc_t_right), (A_t 7, eJ cJ 6 zc_t_force), (A_t 8, eJ cJ 216 zc_t_work)] (va_A [(h_t, oR A_t c_t_many c_t_below c_t_above1 c_t_below1), (A_t 0, eI cI 242 c_t_now), (A_t 2, eI cI 6 c_t_heapOf), (A_t 3, eI cI 6 c_t_partOf), (A_t 4, eI cI 6 c_t_place), (A_t 5, eJ cJ 36 c_t_matrix), (A_t 6, eJ cJ 6 c_t_right), (A_t 7, eJ cJ 6 c_t_force), (A_t 8, eJ cJ 216 c_t_work)] sz)) (List.toArray [.ref h_t]) s 0 0 (va_A [(h_t, oR A_t c_t_many c_t_below c_t_above1 c_t_below1), (A_t 0, eI cI 242 c_t_now), (A_t 2, eI cI 6 c_t_heapOf), (A_t 3, eI cI 6 c_t_partOf), (A_t 4, eI cI 6 c_t_place), (A_t 5, eJ cJ 36 c_t_matrix), (A_t 6, eJ cJ 6 c_t_right), (A_t 7, eJ cJ 6 c_t_force), (A_t 8, eJ cJ 216 c_t_work)] sz)) 40 [(0, .ref h_t), (1, .int y1), (2, .int y2)] [] [(h_t, oR A_t d_t_many d_t_below d_t_above1 d_t_below1), (A_t 0, eI cI 242 d_t_now), (A_t 2, eI cI 6 d_t_heapOf), (A_t 3, eI cI 6 d_t_partOf), (A_t 4, eI cI 6 d_t_place), (A_t 5, eJ cJ 36 d_t_matrix), (A_t 6, eJ cJ 6 d_t_right), (A_t 7, eJ cJ 6 d_t_force), (A_t 8, eJ cJ 216 d_t_work)] := by
    intro n
    induction n with
    | zero =>
      intro y1 y2 d_t_many d_t_below d_t_above1 d_t_below1 d_t_now d_t_heapOf d_t_partOf d_t_place d_t_matrix d_t_right d_t_force d_t_work w0 hf
      cases hf
    | succ n ih =>
      intro y1 y2 d_t_many d_t_below d_t_above1 d_t_below1 d_t_now d_t_heapOf d_t_partOf d_t_place d_t_matrix d_t_right d_t_force d_t_work w0 hf hk
      unfold fX5_solves_L40 at hf
      refine g_iload_n Γ 2 dX5_solves_40 rfl ?_
      refine g_aload_n Γ 0 dX5_solves_41 rfl ?_
      obtain ⟨v13, e14, hf⟩ := ya_ob hf
      refine g_vi (q := (RX5, TX5, 19)) (wr := [(A_t 2, eI cI 6 d_t_heapOf), (A_t 3, eI cI 6 d_t_partOf), (A_t 4, eI cI 6 d_t_place), (A_t 5, eJ cJ 36 d_t_matrix), (A_t 6, eJ cJ 6 d_t_right), (A_t 7, eJ cJ 6 d_t_force), (A_t 8, eJ cJ 216 d_t_work)]) (ws' := [(A_t 2, eI cI 6 d_t_heapOf), (A_t 3, eI cI 6 d_t_partOf), (A_t 4, eI cI 6 d_t_place), (A_t 5, eJ cJ 36 d_t_matrix), (A_t 6, eJ cJ 6 d_t_right), (A_t 7, eJ cJ 6 d_t_force), (A_t 8, eJ cJ 216 d_t_work), (h_t, oR A_t d_t_many d_t_below d_t_above1 d_t_below1), (A_t 0, eI cI 242 d_t_now)]) Γ (fun sz => mX5_flows (l := l) (D := D) (sz := sz) (cI := cI) (cJ := cJ) (cZ := cZ) (cW := cW) (cR := cR) (h_t := h_t) (A_t := A_t) (hf := e14)) eX5_flows gX5_solves_X5_flows rfl rfl 0 rfl rfl rfl (Nat.le_of_ble_eq_true rfl) ⟨Nat.le_of_ble_eq_true rfl, Nat.le_of_ble_eq_true rfl⟩ dX5_solves_42 [0, 1] [2, 3, 4, 5, 6, 7, 8] rfl rfl rfl rfl (by decide) rfl ?_
      refine g_icmp_ge Γ 136 dX5_solves_45 (by decide) (fun c15 => ?_) (fun c15 => ?_)
      · have hf := ya_if1 c15 hf
        cases hf
        refine g_lv [0, 1] rfl ?_
        refine g_ws (ws' := [(h_t, oR A_t d_t_many d_t_below d_t_above1 d_t_below1), (A_t 0, eI cI 242 d_t_now), (A_t 2, eI cI 6 d_t_heapOf), (A_t 3, eI cI 6 d_t_partOf), (A_t 4, eI cI 6 d_t_place), (A_t 5, eJ cJ 36 d_t_matrix), (A_t 6, eJ cJ 6 d_t_right), (A_t 7, eJ cJ 6 d_t_force), (A_t 8, eJ cJ 216 d_t_work)]) [7, 8, 0, 1, 2, 3, 4, 5, 6] rfl rfl ?_
        exact hk
      · have hf := ya_if2 c15 hf
        refine g_aload_n Γ 0 dX5_solves_48 rfl ?_
        refine g_get Γ fX5_solves_19 7 rfl rfl dX5_solves_49 ?_
        refine g_aload_n Γ 0 dX5_solves_52 rfl ?_
        refine g_iload_n Γ 2 dX5_solves_53 rfl ?_
        refine g_iconst (v := 0) Γ dX5_solves_54 (by decide) ?_
        obtain ⟨v16, e17, hf⟩ := ya_ob hf
        refine g_vi (q := (RX5, TX5, 19)) (wr := [(A_t 2, eI cI 6 d_t_heapOf), (A_t 3, eI cI 6 d_t_partOf), (A_t 4, eI cI 6 d_t_place), (A_t 5, eJ cJ 36 d_t_matrix), (A_t 6, eJ cJ 6 d_t_right), (A_t 7, eJ cJ 6 d_t_force), (A_t 8, eJ cJ 216 d_t_work)]) (ws' := [(A_t 2, eI cI 6 d_t_heapOf), (A_t 3, eI cI 6 d_t_partOf), (A_t 4, eI cI 6 d_t_place), (A_t 5, eJ cJ 36 d_t_matrix), (A_t 6, eJ cJ 6 d_t_right), (A_t 7, eJ cJ 6 d_t_force), (A_t 8, eJ cJ 216 d_t_work), (h_t, oR A_t d_t_many d_t_below d_t_above1 d_t_below1), (A_t 0, eI cI 242 d_t_now)]) Γ (fun sz => mX5_get (l := l) (D := D) (sz := sz) (cI := cI) (cJ := cJ) (cZ := cZ) (cW := cW) (cR := cR) (h_t := h_t) (A_t := A_t) (hf := e17)) eX5_get gX5_solves_X5_get rfl rfl 0 rfl rfl rfl (Nat.le_of_ble_eq_true rfl) ⟨Nat.le_of_ble_eq_true rfl, Nat.le_of_ble_eq_true rfl⟩ dX5_solves_55 [7, 8] [0, 1, 2, 3, 4, 5, 6] rfl rfl rfl rfl (by decide) rfl ?_
        obtain ⟨v18, e19, hf⟩ := ya_ob hf
        refine g_iald Γ e19 1 0 rfl rfl dX5_solves_58 ?_
        refine g_istore_n (lv' := [(3, .int v18), (0, .ref h_t), (1, .int y1), (2, .int y2)]) Γ dX5_solves_59 (by decide) rfl ?_
        refine g_aload_n Γ 1 dX5_solves_60 rfl ?_
        refine g_get Γ fX5_solves_19 7 rfl rfl dX5_solves_61 ?_
        refine g_aload_n Γ 1 dX5_solves_64 rfl ?_
        refine g_iload_n Γ 3 dX5_solves_65 rfl ?_
        refine g_iconst (v := 1) Γ dX5_solves_66 (by decide) ?_
        obtain ⟨v20, e21, hf⟩ := ya_ob hf
        refine g_vi (q := (RX5, TX5, 19)) (wr := [(A_t 2, eI cI 6 d_t_heapOf), (A_t 3, eI cI 6 d_t_partOf), (A_t 4, eI cI 6 d_t_place), (A_t 5, eJ cJ 36 d_t_matrix), (A_t 6, eJ cJ 6 d_t_right), (A_t 7, eJ cJ 6 d_t_force), (A_t 8, eJ cJ 216 d_t_work)]) (ws' := [(A_t 2, eI cI 6 d_t_heapOf), (A_t 3, eI cI 6 d_t_partOf), (A_t 4, eI cI 6 d_t_place), (A_t 5, eJ cJ 36 d_t_matrix), (A_t 6, eJ cJ 6 d_t_right), (A_t 7, eJ cJ 6 d_t_force), (A_t 8, eJ cJ 216 d_t_work), (h_t, oR A_t d_t_many d_t_below d_t_above1 d_t_below1), (A_t 0, eI cI 242 d_t_now)]) Γ (fun sz => mX5_get (l := l) (D := D) (sz := sz) (cI := cI) (cJ := cJ) (cZ := cZ) (cW := cW) (cR := cR) (h_t := h_t) (A_t := A_t) (hf := e21)) eX5_get gX5_solves_X5_get rfl rfl 0 rfl rfl rfl (Nat.le_of_ble_eq_true rfl) ⟨Nat.le_of_ble_eq_true rfl, Nat.le_of_ble_eq_true rfl⟩ dX5_solves_67 [7, 8] [0, 1, 2, 3, 4, 5, 6] rfl rfl rfl rfl (by decide) rfl ?_
        obtain ⟨v22, e23, hf⟩ := ya_ob hf
        refine g_iald Γ e23 1 0 rfl rfl dX5_solves_70 ?_
        refine g_istore (lv' := [(4, .int v22), (3, .int v18), (0, .ref h_t), (1, .int y1), (2, .int y2)]) Γ dX5_solves_71 (by decide) rfl ?_
        refine g_iconst (v := 0) Γ dX5_solves_73 (by decide) ?_
        refine g_istore (lv' := [(5, .int 0), (4, .int v22), (3, .int v18), (0, .ref h_t), (1, .int y1), (2, .int y2)]) Γ dX5_solves_74 (by decide) rfl ?_
        obtain ⟨v52, e53, hf⟩ := ya_ob hf
        refine g_lv [3, 4, 5, 2, 1, 0] rfl ?_
        refine g_ws (ws' := [(h_t, oR A_t d_t_many d_t_below d_t_above1 d_t_below1), (A_t 0, eI cI 242 d_t_now), (A_t 2, eI cI 6 d_t_heapOf), (A_t 3, eI cI 6 d_t_partOf), (A_t 4, eI cI 6 d_t_place), (A_t 5, eJ cJ 36 d_t_matrix), (A_t 6, eJ cJ 6 d_t_right), (A_t 7, eJ cJ 6 d_t_force), (A_t 8, eJ cJ 216 d_t_work)]) [7, 8, 0, 1, 2, 3, 4, 5, 6] rfl rfl ?_
        refine loop76 N _ _ _ _ _ _ _ _ _ _ _ _ _ _ _ _ _ _ e53  ?_
        obtain ⟨v54, e55, hf⟩ := ya_lt_inv hf
        refine g_iinc (lv' := [(2, .int v54), (0, .ref h_t), (1, .int y1)]) Γ 2 dX5_solves_130 rfl (by rw [e55]; rfl) (by decide) rfl ?_
        refine g_goto Γ 40 dX5_solves_133 (by decide) ?_
        refine g_lv [1, 2, 0] rfl ?_
        exact ih _ _ _ _ _ _ _ _ _ _ _ _ _ _ _ hf hk
  have loop32 : ∀ (n : Nat) (y1 : Int32) (d_t_many : Int32) (d_t_below : Int64) (d_t_above1 : Int64) (d_t_below1 : Int64) (d_t_now : Nat → Int32) (d_t_heapOf : Nat → Int32) (d_t_partOf : Nat → Int32) (d_t_place : Nat → Int32) (d_t_matrix : Nat → Int64) (d_t_right : Nat → Int64) (d_t_force : Nat → Int64) (d_t_work : Nat → Int64) (w0 : Nat → Int32), fX5_solves_L32 N n y1 d_t_now d_t_partOf = some w0 → yG p l e (headSpec wsX5_solves rmX5_solves).room s m (List.toArray [.ref h_t]) below meth c D (va_A [(h_t, oR A_t c_t_many c_t_below c_t_above1 c_t_below1), (A_t 0, eI cI 242 c_t_now), (A_t 2, eI cI 6 c_t_heapOf), (A_t 3, eI cI 6 c_t_partOf), (A_t 4, eI cI 6 c_t_place), (A_t 5, eJ cJ 36 c_t_matrix), (A_t 6, eJ cJ 6 c_t_right), (A_t 7, eJ cJ 6 c_t_force), (A_t 8, eJ cJ 216 c_t_work)] sz) 6 0 0 (MQ below (yQv D (yT cI cJ cZ cW cR) [(h_t, oR A_t c_t_many zc_t_below c_t_above1 c_t_below1), (A_t 0, eI cI 242 c_t_now), (A_t 2, eI cI 6 zc_t_heapOf), (A_t 3, eI cI 6 zc_t_partOf), (A_t 4, eI cI 6 zc_t_place), (A_t 5, eJ cJ 36 zc_t_matrix), (A_t 6, eJ cJ 6 zc_t_right), (A_t 7, eJ cJ 6 zc_t_force), (A_t 8, eJ cJ 216 zc_t_work)] (va_A [(h_t, oR A_t c_t_many c_t_below c_t_above1 c_t_below1), (A_t 0, eI cI 242 c_t_now), (A_t 2, eI cI 6 c_t_heapOf), (A_t 3, eI cI 6 c_t_partOf), (A_t 4, eI cI 6 c_t_place), (A_t 5, eJ cJ 36 c_t_matrix), (A_t 6, eJ cJ 6 c_t_right), (A_t 7, eJ cJ 6 c_t_force), (A_t 8, eJ cJ 216 c_t_work)] sz)) (List.toArray [.ref h_t]) s 0 0 (va_A [(h_t, oR A_t c_t_many c_t_below c_t_above1 c_t_below1), (A_t 0, eI cI 242 c_t_now), (A_t 2, eI cI 6 c_t_heapOf), (A_t 3, eI cI 6 c_t_partOf), (A_t 4, eI cI 6 c_t_place), (A_t 5, eJ cJ 36 c_t_matrix), (A_t 6, eJ cJ 6 c_t_right), (A_t 7, eJ cJ 6 c_t_force), (A_t 8, eJ cJ 216 c_t_work)] sz)) 142 [(0, .ref h_t)] [] [(h_t, oR A_t d_t_many d_t_below d_t_above1 d_t_below1), (A_t 0, eI cI 242 d_t_now), (A_t 2, eI cI 6 d_t_heapOf), (A_t 3, eI cI 6 w0), (A_t 4, eI cI 6 d_t_place), (A_t 5, eJ cJ 36 d_t_matrix), (A_t 6, eJ cJ 6 d_t_right), (A_t 7, eJ cJ 6 d_t_force), (A_t 8, eJ cJ 216 d_t_work)] → yG p l e (headSpec wsX5_solves rmX5_solves).room s m (List.toArray [.ref h_t]) below meth c D (va_A [(h_t, oR A_t c_t_many c_t_below c_t_above1 c_t_below1), (A_t 0, eI cI 242 c_t_now), (A_t 2, eI cI 6 c_t_heapOf), (A_t 3, eI cI 6 c_t_partOf), (A_t 4, eI cI 6 c_t_place), (A_t 5, eJ cJ 36 c_t_matrix), (A_t 6, eJ cJ 6 c_t_right), (A_t 7, eJ cJ 6 c_t_force), (A_t 8, eJ cJ 216 c_t_work)] sz) 6 0 0 (MQ below (yQv D (yT cI cJ cZ cW cR) [(h_t, oR A_t c_t_many zc_t_below c_t_above1 c_t_below1), (A_t 0, eI cI 242 c_t_now), (A_t 2, eI cI 6 zc_t_heapOf), (A_t 3, eI cI 6 zc_t_partOf), (A_t 4, eI cI 6 zc_t_place), (A_t 5, eJ cJ 36 zc_t_matrix), (A_t 6, eJ cJ 6 zc_t_right), (A_t 7, eJ cJ 6 zc_t_force), (A_t 8, eJ cJ 216 zc_t_work)] (va_A [(h_t, oR A_t c_t_many c_t_below c_t_above1 c_t_below1), (A_t 0, eI cI 242 c_t_now), (A_t 2, eI cI 6 c_t_heapOf), (A_t 3, eI cI 6 c_t_partOf), (A_t 4, eI cI 6 c_t_place), (A_t 5, eJ cJ 36 c_t_matrix), (A_t 6, eJ cJ 6 c_t_right), (A_t 7, eJ cJ 6 c_t_force), (A_t 8, eJ cJ 216 c_t_work)] sz)) (List.toArray [.ref h_t]) s 0 0 (va_A [(h_t, oR A_t c_t_many c_t_below c_t_above1 c_t_below1), (A_t 0, eI cI 242 c_t_now), (A_t 2, eI cI 6 c_t_heapOf), (A_t 3, eI cI 6 c_t_partOf), (A_t 4, eI cI 6 c_t_place), (A_t 5, eJ cJ 36 c_t_matrix), (A_t 6, eJ cJ 6 c_t_right), (A_t 7, eJ cJ 6 c_t_force), (A_t 8, eJ cJ 216 c_t_work)] sz)) 32 [(0, .ref h_t), (1, .int y1)] [] [(h_t, oR A_t d_t_many d_t_below d_t_above1 d_t_below1), (A_t 0, eI cI 242 d_t_now), (A_t 2, eI cI 6 d_t_heapOf), (A_t 3, eI cI 6 d_t_partOf), (A_t 4, eI cI 6 d_t_place), (A_t 5, eJ cJ 36 d_t_matrix), (A_t 6, eJ cJ 6 d_t_right), (A_t 7, eJ cJ 6 d_t_force), (A_t 8, eJ cJ 216 d_t_work)] := by
    intro n
    induction n with
    | zero =>
      intro y1 d_t_many d_t_below d_t_above1 d_t_below1 d_t_now d_t_heapOf d_t_partOf d_t_place d_t_matrix d_t_right d_t_force d_t_work w0 hf
      cases hf
    | succ n ih =>
      intro y1 d_t_many d_t_below d_t_above1 d_t_below1 d_t_now d_t_heapOf d_t_partOf d_t_place d_t_matrix d_t_right d_t_force d_t_work w0 hf hk
      unfold fX5_solves_L32 at hf
      refine g_iload_n Γ 1 dX5_solves_32 rfl ?_
      refine g_bipush (v := 6) Γ dX5_solves_33 (by decide) ?_
      refine g_icmp_ge Γ 142 dX5_solves_35 (by decide) (fun c12 => ?_) (fun c12 => ?_)
      · have hf := ya_if1 c12 hf
        cases hf
        refine g_lv [0] rfl ?_
        exact hk
      · have hf := ya_if2 c12 hf
        refine g_iconst (v := 0) Γ dX5_solves_38 (by decide) ?_
        refine g_istore_n (lv' := [(2, .int 0), (0, .ref h_t), (1, .int y1)]) Γ dX5_solves_39 (by decide) rfl ?_
        obtain ⟨v56, e57, hf⟩ := ya_ob hf
        refine g_lv [1, 2, 0] rfl ?_
        refine loop40 N _ _ _ _ _ _ _ _ _ _ _ _ _ _ _ e57  ?_
        obtain ⟨v58, e59, hf⟩ := ya_lt_inv hf
        refine g_iinc (lv' := [(1, .int v58), (0, .ref h_t)]) Γ 1 dX5_solves_136 rfl (by rw [e59]; rfl) (by decide) rfl ?_
        refine g_goto Γ 32 dX5_solves_139 (by decide) ?_
        refine g_lv [1, 0] rfl ?_
        exact ih _ _ _ _ _ _ _ _ _ _ _ _ _ _ hf hk
  have loop146 : ∀ (n : Nat) (y1 : Int32) (y2 : Int32) (d_t_many : Int32) (d_t_below : Int64) (d_t_above1 : Int64) (d_t_below1 : Int64) (d_t_now : Nat → Int32) (d_t_heapOf : Nat → Int32) (d_t_partOf : Nat → Int32) (d_t_place : Nat → Int32) (d_t_matrix : Nat → Int64) (d_t_right : Nat → Int64) (d_t_force : Nat → Int64) (d_t_work : Nat → Int64) (w0 : Int32) (w1 : Nat → Int32), fX5_solves_L146 N n y1 y2 d_t_now d_t_heapOf d_t_partOf d_t_place = some (w0, w1) → yG p l e (headSpec wsX5_solves rmX5_solves).room s m (List.toArray [.ref h_t]) below meth c D (va_A [(h_t, oR A_t c_t_many c_t_below c_t_above1 c_t_below1), (A_t 0, eI cI 242 c_t_now), (A_t 2, eI cI 6 c_t_heapOf), (A_t 3, eI cI 6 c_t_partOf), (A_t 4, eI cI 6 c_t_place), (A_t 5, eJ cJ 36 c_t_matrix), (A_t 6, eJ cJ 6 c_t_right), (A_t 7, eJ cJ 6 c_t_force), (A_t 8, eJ cJ 216 c_t_work)] sz) 6 0 0 (MQ below (yQv D (yT cI cJ cZ cW cR) [(h_t, oR A_t c_t_many zc_t_below c_t_above1 c_t_below1), (A_t 0, eI cI 242 c_t_now), (A_t 2, eI cI 6 zc_t_heapOf), (A_t 3, eI cI 6 zc_t_partOf), (A_t 4, eI cI 6 zc_t_place), (A_t 5, eJ cJ 36 zc_t_matrix), (A_t 6, eJ cJ 6 zc_t_right), (A_t 7, eJ cJ 6 zc_t_force), (A_t 8, eJ cJ 216 zc_t_work)] (va_A [(h_t, oR A_t c_t_many c_t_below c_t_above1 c_t_below1), (A_t 0, eI cI 242 c_t_now), (A_t 2, eI cI 6 c_t_heapOf), (A_t 3, eI cI 6 c_t_partOf), (A_t 4, eI cI 6 c_t_place), (A_t 5, eJ cJ 36 c_t_matrix), (A_t 6, eJ cJ 6 c_t_right), (A_t 7, eJ cJ 6 c_t_force), (A_t 8, eJ cJ 216 c_t_work)] sz)) (List.toArray [.ref h_t]) s 0 0 (va_A [(h_t, oR A_t c_t_many c_t_below c_t_above1 c_t_below1), (A_t 0, eI cI 242 c_t_now), (A_t 2, eI cI 6 c_t_heapOf), (A_t 3, eI cI 6 c_t_partOf), (A_t 4, eI cI 6 c_t_place), (A_t 5, eJ cJ 36 c_t_matrix), (A_t 6, eJ cJ 6 c_t_right), (A_t 7, eJ cJ 6 c_t_force), (A_t 8, eJ cJ 216 c_t_work)] sz)) 200 [(0, .ref h_t), (1, .int w0)] [] [(h_t, oR A_t d_t_many d_t_below d_t_above1 d_t_below1), (A_t 0, eI cI 242 d_t_now), (A_t 2, eI cI 6 d_t_heapOf), (A_t 3, eI cI 6 d_t_partOf), (A_t 4, eI cI 6 w1), (A_t 5, eJ cJ 36 d_t_matrix), (A_t 6, eJ cJ 6 d_t_right), (A_t 7, eJ cJ 6 d_t_force), (A_t 8, eJ cJ 216 d_t_work)] → yG p l e (headSpec wsX5_solves rmX5_solves).room s m (List.toArray [.ref h_t]) below meth c D (va_A [(h_t, oR A_t c_t_many c_t_below c_t_above1 c_t_below1), (A_t 0, eI cI 242 c_t_now), (A_t 2, eI cI 6 c_t_heapOf), (A_t 3, eI cI 6 c_t_partOf), (A_t 4, eI cI 6 c_t_place), (A_t 5, eJ cJ 36 c_t_matrix), (A_t 6, eJ cJ 6 c_t_right), (A_t 7, eJ cJ 6 c_t_force), (A_t 8, eJ cJ 216 c_t_work)] sz) 6 0 0 (MQ below (yQv D (yT cI cJ cZ cW cR) [(h_t, oR A_t c_t_many zc_t_below c_t_above1 c_t_below1), (A_t 0, eI cI 242 c_t_now), (A_t 2, eI cI 6 zc_t_heapOf), (A_t 3, eI cI 6 zc_t_partOf), (A_t 4, eI cI 6 zc_t_place), (A_t 5, eJ cJ 36 zc_t_matrix), (A_t 6, eJ cJ 6 zc_t_right), (A_t 7, eJ cJ 6 zc_t_force), (A_t 8, eJ cJ 216 zc_t_work)] (va_A [(h_t, oR A_t c_t_many c_t_below c_t_above1 c_t_below1), (A_t 0, eI cI 242 c_t_now), (A_t 2, eI cI 6 c_t_heapOf), (A_t 3, eI cI 6 c_t_partOf), (A_t 4, eI cI 6 c_t_place), (A_t 5, eJ cJ 36 c_t_matrix), (A_t 6, eJ cJ 6 c_t_right), (A_t 7, eJ cJ 6 c_t_force), (A_t 8, eJ cJ 216 c_t_work)] sz)) (List.toArray [.ref h_t]) s 0 0 (va_A [(h_t, oR A_t c_t_many c_t_below c_t_above1 c_t_below1), (A_t 0, eI cI 242 c_t_now), (A_t 2, eI cI 6 c_t_heapOf), (A_t 3, eI cI 6 c_t_partOf), (A_t 4, eI cI 6 c_t_place), (A_t 5, eJ cJ 36 c_t_matrix), (A_t 6, eJ cJ 6 c_t_right), (A_t 7, eJ cJ 6 c_t_force), (A_t 8, eJ cJ 216 c_t_work)] sz)) 146 [(0, .ref h_t), (1, .int y1), (2, .int y2)] [] [(h_t, oR A_t d_t_many d_t_below d_t_above1 d_t_below1), (A_t 0, eI cI 242 d_t_now), (A_t 2, eI cI 6 d_t_heapOf), (A_t 3, eI cI 6 d_t_partOf), (A_t 4, eI cI 6 d_t_place), (A_t 5, eJ cJ 36 d_t_matrix), (A_t 6, eJ cJ 6 d_t_right), (A_t 7, eJ cJ 6 d_t_force), (A_t 8, eJ cJ 216 d_t_work)] := by
    intro n
    induction n with
    | zero =>
      intro y1 y2 d_t_many d_t_below d_t_above1 d_t_below1 d_t_now d_t_heapOf d_t_partOf d_t_place d_t_matrix d_t_right d_t_force d_t_work w0 w1 hf
      cases hf
    | succ n ih =>
      intro y1 y2 d_t_many d_t_below d_t_above1 d_t_below1 d_t_now d_t_heapOf d_t_partOf d_t_place d_t_matrix d_t_right d_t_force d_t_work w0 w1 hf hk
      unfold fX5_solves_L146 at hf
      refine g_iload_n Γ 2 dX5_solves_146 rfl ?_
      refine g_aload_n Γ 0 dX5_solves_147 rfl ?_
      obtain ⟨v62, e63, hf⟩ := ya_ob hf
      refine g_vi (q := (RX5, TX5, 19)) (wr := [(A_t 2, eI cI 6 d_t_heapOf), (A_t 3, eI cI 6 d_t_partOf), (A_t 4, eI cI 6 d_t_place), (A_t 5, eJ cJ 36 d_t_matrix), (A_t 6, eJ cJ 6 d_t_right), (A_t 7, eJ cJ 6 d_t_force), (A_t 8, eJ cJ 216 d_t_work)]) (ws' := [(A_t 2, eI cI 6 d_t_heapOf), (A_t 3, eI cI 6 d_t_partOf), (A_t 4, eI cI 6 d_t_place), (A_t 5, eJ cJ 36 d_t_matrix), (A_t 6, eJ cJ 6 d_t_right), (A_t 7, eJ cJ 6 d_t_force), (A_t 8, eJ cJ 216 d_t_work), (h_t, oR A_t d_t_many d_t_below d_t_above1 d_t_below1), (A_t 0, eI cI 242 d_t_now)]) Γ (fun sz => mX5_knots (l := l) (D := D) (sz := sz) (cI := cI) (cJ := cJ) (cZ := cZ) (cW := cW) (cR := cR) (h_t := h_t) (A_t := A_t) (hf := e63)) eX5_knots gX5_solves_X5_knots rfl rfl 0 rfl rfl rfl (Nat.le_of_ble_eq_true rfl) ⟨Nat.le_of_ble_eq_true rfl, Nat.le_of_ble_eq_true rfl⟩ dX5_solves_148 [0, 1] [2, 3, 4, 5, 6, 7, 8] rfl rfl rfl rfl (by decide) rfl ?_
      refine g_icmp_ge Γ 200 dX5_solves_151 (by decide) (fun c64 => ?_) (fun c64 => ?_)
      · have hf := ya_if1 c64 hf
        cases hf
        refine g_lv [0, 1] rfl ?_
        refine g_ws (ws' := [(h_t, oR A_t d_t_many d_t_below d_t_above1 d_t_below1), (A_t 0, eI cI 242 d_t_now), (A_t 2, eI cI 6 d_t_heapOf), (A_t 3, eI cI 6 d_t_partOf), (A_t 4, eI cI 6 d_t_place), (A_t 5, eJ cJ 36 d_t_matrix), (A_t 6, eJ cJ 6 d_t_right), (A_t 7, eJ cJ 6 d_t_force), (A_t 8, eJ cJ 216 d_t_work)]) [7, 8, 0, 1, 2, 3, 4, 5, 6] rfl rfl ?_
        exact hk
      · have hf := ya_if2 c64 hf
        refine g_aload_n Γ 0 dX5_solves_154 rfl ?_
        refine g_get Γ fX5_solves_22 7 rfl rfl dX5_solves_155 ?_
        refine g_iload_n Γ 2 dX5_solves_158 rfl ?_
        refine g_iconst (v := (-1)) Γ dX5_solves_159 (by decide) ?_
        obtain ⟨v65, e66, hf⟩ := ya_ob hf
        refine g_iast (ws' := [(A_t 2, eI cI 6 d_t_heapOf), (A_t 3, eI cI 6 d_t_partOf), (A_t 4, eI cI 6 v65), (A_t 5, eJ cJ 36 d_t_matrix), (A_t 6, eJ cJ 6 d_t_right), (A_t 7, eJ cJ 6 d_t_force), (A_t 8, eJ cJ 216 d_t_work), (h_t, oR A_t d_t_many d_t_below d_t_above1 d_t_below1), (A_t 0, eI cI 242 d_t_now)]) Γ e66 2 0 rfl rfl dX5_solves_160 rfl ?_
        refine g_aload_n Γ 0 dX5_solves_161 rfl ?_
        refine g_get Γ fX5_solves_16 7 rfl rfl dX5_solves_162 ?_
        refine g_iload_n Γ 2 dX5_solves_165 rfl ?_
        obtain ⟨v67, e68, hf⟩ := ya_ob hf
        refine g_iald Γ e68 0 0 rfl rfl dX5_solves_166 ?_
        refine g_iload_n Γ 2 dX5_solves_167 rfl ?_
        refine g_icmp_ne Γ 194 dX5_solves_168 (by decide) (fun c69 => ?_) (fun c69 => ?_)
        · have hf := ya_if2 c69 hf
          obtain ⟨v70, e71, hf⟩ := ya_lt_inv hf
          refine g_iinc (lv' := [(2, .int v70), (0, .ref h_t), (1, .int y1)]) Γ 2 dX5_solves_194 rfl (by rw [e71]; rfl) (by decide) rfl ?_
          refine g_goto Γ 146 dX5_solves_197 (by decide) ?_
          refine g_lv [1, 2, 0] rfl ?_
          refine g_ws (ws' := [(h_t, oR A_t d_t_many d_t_below d_t_above1 d_t_below1), (A_t 0, eI cI 242 d_t_now), (A_t 2, eI cI 6 d_t_heapOf), (A_t 3, eI cI 6 d_t_partOf), (A_t 4, eI cI 6 v65), (A_t 5, eJ cJ 36 d_t_matrix), (A_t 6, eJ cJ 6 d_t_right), (A_t 7, eJ cJ 6 d_t_force), (A_t 8, eJ cJ 216 d_t_work)]) [7, 8, 0, 1, 2, 3, 4, 5, 6] rfl rfl ?_
          exact ih _ _ _ _ _ _ _ _ _ _ _ _ _ _ _ _ hf hk
        · have hf := ya_if1 c69 hf
          refine g_aload_n Γ 0 dX5_solves_171 rfl ?_
          refine g_get Γ fX5_solves_19 7 rfl rfl dX5_solves_172 ?_
          refine g_iload_n Γ 2 dX5_solves_175 rfl ?_
          obtain ⟨v72, e73, hf⟩ := ya_ob hf
          refine g_iald Γ e73 1 0 rfl rfl dX5_solves_176 ?_
          refine g_iload_n Γ 2 dX5_solves_177 rfl ?_
          refine g_icmp_ne Γ 184 dX5_solves_178 (by decide) (fun c74 => ?_) (fun c74 => ?_)
          · have hf := ya_if2 c74 hf
            refine g_aload_n Γ 0 dX5_solves_184 rfl ?_
            refine g_get Γ fX5_solves_22 7 rfl rfl dX5_solves_185 ?_
            refine g_iload_n Γ 2 dX5_solves_188 rfl ?_
            refine g_iload_n Γ 1 dX5_solves_189 rfl ?_
            obtain ⟨v75, e76, hf⟩ := ya_ob hf
            refine g_iast (ws' := [(A_t 2, eI cI 6 d_t_heapOf), (A_t 3, eI cI 6 d_t_partOf), (A_t 4, eI cI 6 v75), (A_t 5, eJ cJ 36 d_t_matrix), (A_t 6, eJ cJ 6 d_t_right), (A_t 7, eJ cJ 6 d_t_force), (A_t 8, eJ cJ 216 d_t_work), (h_t, oR A_t d_t_many d_t_below d_t_above1 d_t_below1), (A_t 0, eI cI 242 d_t_now)]) Γ e76 2 0 rfl rfl dX5_solves_190 rfl ?_
            obtain ⟨v77, e78, hf⟩ := ya_lt_inv hf
            refine g_iinc (lv' := [(1, .int v77), (0, .ref h_t), (2, .int y2)]) Γ 1 dX5_solves_191 rfl (by rw [e78]; rfl) (by decide) rfl ?_
            obtain ⟨v79, e80, hf⟩ := ya_lt_inv hf
            refine g_iinc (lv' := [(2, .int v79), (1, .int v77), (0, .ref h_t)]) Γ 2 dX5_solves_194 rfl (by rw [e80]; rfl) (by decide) rfl ?_
            refine g_goto Γ 146 dX5_solves_197 (by decide) ?_
            refine g_lv [2, 1, 0] rfl ?_
            refine g_ws (ws' := [(h_t, oR A_t d_t_many d_t_below d_t_above1 d_t_below1), (A_t 0, eI cI 242 d_t_now), (A_t 2, eI cI 6 d_t_heapOf), (A_t 3, eI cI 6 d_t_partOf), (A_t 4, eI cI 6 v75), (A_t 5, eJ cJ 36 d_t_matrix), (A_t 6, eJ cJ 6 d_t_right), (A_t 7, eJ cJ 6 d_t_force), (A_t 8, eJ cJ 216 d_t_work)]) [7, 8, 0, 1, 2, 3, 4, 5, 6] rfl rfl ?_
            exact ih _ _ _ _ _ _ _ _ _ _ _ _ _ _ _ _ hf hk
          · have hf := ya_if1 c74 hf
            refine g_goto Γ 194 dX5_solves_181 (by decide) ?_
            obtain ⟨v81, e82, hf⟩ := ya_lt_inv hf
            refine g_iinc (lv' := [(2, .int v81), (0, .ref h_t), (1, .int y1)]) Γ 2 dX5_solves_194 rfl (by rw [e82]; rfl) (by decide) rfl ?_
            refine g_goto Γ 146 dX5_solves_197 (by decide) ?_
            refine g_lv [1, 2, 0] rfl ?_
            refine g_ws (ws' := [(h_t, oR A_t d_t_many d_t_below d_t_above1 d_t_below1), (A_t 0, eI cI 242 d_t_now), (A_t 2, eI cI 6 d_t_heapOf), (A_t 3, eI cI 6 d_t_partOf), (A_t 4, eI cI 6 v65), (A_t 5, eJ cJ 36 d_t_matrix), (A_t 6, eJ cJ 6 d_t_right), (A_t 7, eJ cJ 6 d_t_force), (A_t 8, eJ cJ 216 d_t_work)]) [7, 8, 0, 1, 2, 3, 4, 5, 6] rfl rfl ?_
            exact ih _ _ _ _ _ _ _ _ _ _ _ _ _ _ _ _ hf hk
  have loop202 : ∀ (n : Nat) (y1 : Int32) (y2 : Int32) (d_t_many : Int32) (d_t_below : Int64) (d_t_above1 : Int64) (d_t_below1 : Int64) (d_t_now : Nat → Int32) (d_t_heapOf : Nat → Int32) (d_t_partOf : Nat → Int32) (d_t_place : Nat → Int32) (d_t_matrix : Nat → Int64) (d_t_right : Nat → Int64) (d_t_force : Nat → Int64) (d_t_work : Nat → Int64) (w0 : Nat → Int64), fX5_solves_L202 N n y1 y2 d_t_matrix = some w0 → yG p l e (headSpec wsX5_solves rmX5_solves).room s m (List.toArray [.ref h_t]) below meth c D (va_A [(h_t, oR A_t c_t_many c_t_below c_t_above1 c_t_below1), (A_t 0, eI cI 242 c_t_now), (A_t 2, eI cI 6 c_t_heapOf), (A_t 3, eI cI 6 c_t_partOf), (A_t 4, eI cI 6 c_t_place), (A_t 5, eJ cJ 36 c_t_matrix), (A_t 6, eJ cJ 6 c_t_right), (A_t 7, eJ cJ 6 c_t_force), (A_t 8, eJ cJ 216 c_t_work)] sz) 6 0 0 (MQ below (yQv D (yT cI cJ cZ cW cR) [(h_t, oR A_t c_t_many zc_t_below c_t_above1 c_t_below1), (A_t 0, eI cI 242 c_t_now), (A_t 2, eI cI 6 zc_t_heapOf), (A_t 3, eI cI 6 zc_t_partOf), (A_t 4, eI cI 6 zc_t_place), (A_t 5, eJ cJ 36 zc_t_matrix), (A_t 6, eJ cJ 6 zc_t_right), (A_t 7, eJ cJ 6 zc_t_force), (A_t 8, eJ cJ 216 zc_t_work)] (va_A [(h_t, oR A_t c_t_many c_t_below c_t_above1 c_t_below1), (A_t 0, eI cI 242 c_t_now), (A_t 2, eI cI 6 c_t_heapOf), (A_t 3, eI cI 6 c_t_partOf), (A_t 4, eI cI 6 c_t_place), (A_t 5, eJ cJ 36 c_t_matrix), (A_t 6, eJ cJ 6 c_t_right), (A_t 7, eJ cJ 6 c_t_force), (A_t 8, eJ cJ 216 c_t_work)] sz)) (List.toArray [.ref h_t]) s 0 0 (va_A [(h_t, oR A_t c_t_many c_t_below c_t_above1 c_t_below1), (A_t 0, eI cI 242 c_t_now), (A_t 2, eI cI 6 c_t_heapOf), (A_t 3, eI cI 6 c_t_partOf), (A_t 4, eI cI 6 c_t_place), (A_t 5, eJ cJ 36 c_t_matrix), (A_t 6, eJ cJ 6 c_t_right), (A_t 7, eJ cJ 6 c_t_force), (A_t 8, eJ cJ 216 c_t_work)] sz)) 221 [(0, .ref h_t), (1, .int y1)] [] [(h_t, oR A_t d_t_many d_t_below d_t_above1 d_t_below1), (A_t 0, eI cI 242 d_t_now), (A_t 2, eI cI 6 d_t_heapOf), (A_t 3, eI cI 6 d_t_partOf), (A_t 4, eI cI 6 d_t_place), (A_t 5, eJ cJ 36 w0), (A_t 6, eJ cJ 6 d_t_right), (A_t 7, eJ cJ 6 d_t_force), (A_t 8, eJ cJ 216 d_t_work)] → yG p l e (headSpec wsX5_solves rmX5_solves).room s m (List.toArray [.ref h_t]) below meth c D (va_A [(h_t, oR A_t c_t_many c_t_below c_t_above1 c_t_below1), (A_t 0, eI cI 242 c_t_now), (A_t 2, eI cI 6 c_t_heapOf), (A_t 3, eI cI 6 c_t_partOf), (A_t 4, eI cI 6 c_t_place), (A_t 5, eJ cJ 36 c_t_matrix), (A_t 6, eJ cJ 6 c_t_right), (A_t 7, eJ cJ 6 c_t_force), (A_t 8, eJ cJ 216 c_t_work)] sz) 6 0 0 (MQ below (yQv D (yT cI cJ cZ cW cR) [(h_t, oR A_t c_t_many zc_t_below c_t_above1 c_t_below1), (A_t 0, eI cI 242 c_t_now), (A_t 2, eI cI 6 zc_t_heapOf), (A_t 3, eI cI 6 zc_t_partOf), (A_t 4, eI cI 6 zc_t_place), (A_t 5, eJ cJ 36 zc_t_matrix), (A_t 6, eJ cJ 6 zc_t_right), (A_t 7, eJ cJ 6 zc_t_force), (A_t 8, eJ cJ 216 zc_t_work)] (va_A [(h_t, oR A_t c_t_many c_t_below c_t_above1 c_t_below1), (A_t 0, eI cI 242 c_t_now), (A_t 2, eI cI 6 c_t_heapOf), (A_t 3, eI cI 6 c_t_partOf), (A_t 4, eI cI 6 c_t_place), (A_t 5, eJ cJ 36 c_t_matrix), (A_t 6, eJ cJ 6 c_t_right), (A_t 7, eJ cJ 6 c_t_force), (A_t 8, eJ cJ 216 c_t_work)] sz)) (List.toArray [.ref h_t]) s 0 0 (va_A [(h_t, oR A_t c_t_many c_t_below c_t_above1 c_t_below1), (A_t 0, eI cI 242 c_t_now), (A_t 2, eI cI 6 c_t_heapOf), (A_t 3, eI cI 6 c_t_partOf), (A_t 4, eI cI 6 c_t_place), (A_t 5, eJ cJ 36 c_t_matrix), (A_t 6, eJ cJ 6 c_t_right), (A_t 7, eJ cJ 6 c_t_force), (A_t 8, eJ cJ 216 c_t_work)] sz)) 202 [(0, .ref h_t), (1, .int y1), (2, .int y2)] [] [(h_t, oR A_t d_t_many d_t_below d_t_above1 d_t_below1), (A_t 0, eI cI 242 d_t_now), (A_t 2, eI cI 6 d_t_heapOf), (A_t 3, eI cI 6 d_t_partOf), (A_t 4, eI cI 6 d_t_place), (A_t 5, eJ cJ 36 d_t_matrix), (A_t 6, eJ cJ 6 d_t_right), (A_t 7, eJ cJ 6 d_t_force), (A_t 8, eJ cJ 216 d_t_work)] := by
    intro n
    induction n with
    | zero =>
      intro y1 y2 d_t_many d_t_below d_t_above1 d_t_below1 d_t_now d_t_heapOf d_t_partOf d_t_place d_t_matrix d_t_right d_t_force d_t_work w0 hf
      cases hf
    | succ n ih =>
      intro y1 y2 d_t_many d_t_below d_t_above1 d_t_below1 d_t_now d_t_heapOf d_t_partOf d_t_place d_t_matrix d_t_right d_t_force d_t_work w0 hf hk
      unfold fX5_solves_L202 at hf
      refine g_iload_n Γ 2 dX5_solves_202 rfl ?_
      refine g_bipush (v := 36) Γ dX5_solves_203 (by decide) ?_
      refine g_icmp_ge Γ 221 dX5_solves_205 (by decide) (fun c86 => ?_) (fun c86 => ?_)
      · have hf := ya_if1 c86 hf
        cases hf
        refine g_lv [0, 1] rfl ?_
        exact hk
      · have hf := ya_if2 c86 hf
        refine g_aload_n Γ 0 dX5_solves_208 rfl ?_
        refine g_get Γ fX5_solves_25 0 rfl rfl dX5_solves_209 ?_
        refine g_iload_n Γ 2 dX5_solves_212 rfl ?_
        refine g_lconst (v := 0) Γ dX5_solves_213 (by decide) ?_
        obtain ⟨v87, e88, hf⟩ := ya_ob hf
        refine g_last (ws' := [(h_t, oR A_t d_t_many d_t_below d_t_above1 d_t_below1), (A_t 0, eI cI 242 d_t_now), (A_t 2, eI cI 6 d_t_heapOf), (A_t 3, eI cI 6 d_t_partOf), (A_t 4, eI cI 6 d_t_place), (A_t 5, eJ cJ 36 v87), (A_t 6, eJ cJ 6 d_t_right), (A_t 7, eJ cJ 6 d_t_force), (A_t 8, eJ cJ 216 d_t_work)]) Γ e88 5 1 rfl rfl dX5_solves_214 rfl ?_
        obtain ⟨v89, e90, hf⟩ := ya_lt_inv hf
        refine g_iinc (lv' := [(2, .int v89), (0, .ref h_t), (1, .int y1)]) Γ 2 dX5_solves_215 rfl (by rw [e90]; rfl) (by decide) rfl ?_
        refine g_goto Γ 202 dX5_solves_218 (by decide) ?_
        refine g_lv [1, 2, 0] rfl ?_
        exact ih _ _ _ _ _ _ _ _ _ _ _ _ _ _ _ hf hk
  have loop223 : ∀ (n : Nat) (y1 : Int32) (y2 : Int32) (d_t_many : Int32) (d_t_below : Int64) (d_t_above1 : Int64) (d_t_below1 : Int64) (d_t_now : Nat → Int32) (d_t_heapOf : Nat → Int32) (d_t_partOf : Nat → Int32) (d_t_place : Nat → Int32) (d_t_matrix : Nat → Int64) (d_t_right : Nat → Int64) (d_t_force : Nat → Int64) (d_t_work : Nat → Int64) (w0 : Nat → Int64), fX5_solves_L223 N n y1 y2 d_t_right = some w0 → yG p l e (headSpec wsX5_solves rmX5_solves).room s m (List.toArray [.ref h_t]) below meth c D (va_A [(h_t, oR A_t c_t_many c_t_below c_t_above1 c_t_below1), (A_t 0, eI cI 242 c_t_now), (A_t 2, eI cI 6 c_t_heapOf), (A_t 3, eI cI 6 c_t_partOf), (A_t 4, eI cI 6 c_t_place), (A_t 5, eJ cJ 36 c_t_matrix), (A_t 6, eJ cJ 6 c_t_right), (A_t 7, eJ cJ 6 c_t_force), (A_t 8, eJ cJ 216 c_t_work)] sz) 6 0 0 (MQ below (yQv D (yT cI cJ cZ cW cR) [(h_t, oR A_t c_t_many zc_t_below c_t_above1 c_t_below1), (A_t 0, eI cI 242 c_t_now), (A_t 2, eI cI 6 zc_t_heapOf), (A_t 3, eI cI 6 zc_t_partOf), (A_t 4, eI cI 6 zc_t_place), (A_t 5, eJ cJ 36 zc_t_matrix), (A_t 6, eJ cJ 6 zc_t_right), (A_t 7, eJ cJ 6 zc_t_force), (A_t 8, eJ cJ 216 zc_t_work)] (va_A [(h_t, oR A_t c_t_many c_t_below c_t_above1 c_t_below1), (A_t 0, eI cI 242 c_t_now), (A_t 2, eI cI 6 c_t_heapOf), (A_t 3, eI cI 6 c_t_partOf), (A_t 4, eI cI 6 c_t_place), (A_t 5, eJ cJ 36 c_t_matrix), (A_t 6, eJ cJ 6 c_t_right), (A_t 7, eJ cJ 6 c_t_force), (A_t 8, eJ cJ 216 c_t_work)] sz)) (List.toArray [.ref h_t]) s 0 0 (va_A [(h_t, oR A_t c_t_many c_t_below c_t_above1 c_t_below1), (A_t 0, eI cI 242 c_t_now), (A_t 2, eI cI 6 c_t_heapOf), (A_t 3, eI cI 6 c_t_partOf), (A_t 4, eI cI 6 c_t_place), (A_t 5, eJ cJ 36 c_t_matrix), (A_t 6, eJ cJ 6 c_t_right), (A_t 7, eJ cJ 6 c_t_force), (A_t 8, eJ cJ 216 c_t_work)] sz)) 242 [(0, .ref h_t), (1, .int y1)] [] [(h_t, oR A_t d_t_many d_t_below d_t_above1 d_t_below1), (A_t 0, eI cI 242 d_t_now), (A_t 2, eI cI 6 d_t_heapOf), (A_t 3, eI cI 6 d_t_partOf), (A_t 4, eI cI 6 d_t_place), (A_t 5, eJ cJ 36 d_t_matrix), (A_t 6, eJ cJ 6 w0), (A_t 7, eJ cJ 6 d_t_force), (A_t 8, eJ cJ 216 d_t_work)] → yG p l e (headSpec wsX5_solves rmX5_solves).room s m (List.toArray [.ref h_t]) below meth c D (va_A [(h_t, oR A_t c_t_many c_t_below c_t_above1 c_t_below1), (A_t 0, eI cI 242 c_t_now), (A_t 2, eI cI 6 c_t_heapOf), (A_t 3, eI cI 6 c_t_partOf), (A_t 4, eI cI 6 c_t_place), (A_t 5, eJ cJ 36 c_t_matrix), (A_t 6, eJ cJ 6 c_t_right), (A_t 7, eJ cJ 6 c_t_force), (A_t 8, eJ cJ 216 c_t_work)] sz) 6 0 0 (MQ below (yQv D (yT cI cJ cZ cW cR) [(h_t, oR A_t c_t_many zc_t_below c_t_above1 c_t_below1), (A_t 0, eI cI 242 c_t_now), (A_t 2, eI cI 6 zc_t_heapOf), (A_t 3, eI cI 6 zc_t_partOf), (A_t 4, eI cI 6 zc_t_place), (A_t 5, eJ cJ 36 zc_t_matrix), (A_t 6, eJ cJ 6 zc_t_right), (A_t 7, eJ cJ 6 zc_t_force), (A_t 8, eJ cJ 216 zc_t_work)] (va_A [(h_t, oR A_t c_t_many c_t_below c_t_above1 c_t_below1), (A_t 0, eI cI 242 c_t_now), (A_t 2, eI cI 6 c_t_heapOf), (A_t 3, eI cI 6 c_t_partOf), (A_t 4, eI cI 6 c_t_place), (A_t 5, eJ cJ 36 c_t_matrix), (A_t 6, eJ cJ 6 c_t_right), (A_t 7, eJ cJ 6 c_t_force), (A_t 8, eJ cJ 216 c_t_work)] sz)) (List.toArray [.ref h_t]) s 0 0 (va_A [(h_t, oR A_t c_t_many c_t_below c_t_above1 c_t_below1), (A_t 0, eI cI 242 c_t_now), (A_t 2, eI cI 6 c_t_heapOf), (A_t 3, eI cI 6 c_t_partOf), (A_t 4, eI cI 6 c_t_place), (A_t 5, eJ cJ 36 c_t_matrix), (A_t 6, eJ cJ 6 c_t_right), (A_t 7, eJ cJ 6 c_t_force), (A_t 8, eJ cJ 216 c_t_work)] sz)) 223 [(0, .ref h_t), (1, .int y1), (2, .int y2)] [] [(h_t, oR A_t d_t_many d_t_below d_t_above1 d_t_below1), (A_t 0, eI cI 242 d_t_now), (A_t 2, eI cI 6 d_t_heapOf), (A_t 3, eI cI 6 d_t_partOf), (A_t 4, eI cI 6 d_t_place), (A_t 5, eJ cJ 36 d_t_matrix), (A_t 6, eJ cJ 6 d_t_right), (A_t 7, eJ cJ 6 d_t_force), (A_t 8, eJ cJ 216 d_t_work)] := by
    intro n
    induction n with
    | zero =>
      intro y1 y2 d_t_many d_t_below d_t_above1 d_t_below1 d_t_now d_t_heapOf d_t_partOf d_t_place d_t_matrix d_t_right d_t_force d_t_work w0 hf
      cases hf
    | succ n ih =>
      intro y1 y2 d_t_many d_t_below d_t_above1 d_t_below1 d_t_now d_t_heapOf d_t_partOf d_t_place d_t_matrix d_t_right d_t_force d_t_work w0 hf hk
      unfold fX5_solves_L223 at hf
      refine g_iload_n Γ 2 dX5_solves_223 rfl ?_
      refine g_bipush (v := 6) Γ dX5_solves_224 (by decide) ?_
      refine g_icmp_ge Γ 242 dX5_solves_226 (by decide) (fun c93 => ?_) (fun c93 => ?_)
      · have hf := ya_if1 c93 hf
        cases hf
        refine g_lv [0, 1] rfl ?_
        exact hk
      · have hf := ya_if2 c93 hf
        refine g_aload_n Γ 0 dX5_solves_229 rfl ?_
        refine g_get Γ fX5_solves_29 0 rfl rfl dX5_solves_230 ?_
        refine g_iload_n Γ 2 dX5_solves_233 rfl ?_
        refine g_lconst (v := 0) Γ dX5_solves_234 (by decide) ?_
        obtain ⟨v94, e95, hf⟩ := ya_ob hf
        refine g_last (ws' := [(h_t, oR A_t d_t_many d_t_below d_t_above1 d_t_below1), (A_t 0, eI cI 242 d_t_now), (A_t 2, eI cI 6 d_t_heapOf), (A_t 3, eI cI 6 d_t_partOf), (A_t 4, eI cI 6 d_t_place), (A_t 5, eJ cJ 36 d_t_matrix), (A_t 6, eJ cJ 6 v94), (A_t 7, eJ cJ 6 d_t_force), (A_t 8, eJ cJ 216 d_t_work)]) Γ e95 6 1 rfl rfl dX5_solves_235 rfl ?_
        obtain ⟨v96, e97, hf⟩ := ya_lt_inv hf
        refine g_iinc (lv' := [(2, .int v96), (0, .ref h_t), (1, .int y1)]) Γ 2 dX5_solves_236 rfl (by rw [e97]; rfl) (by decide) rfl ?_
        refine g_goto Γ 223 dX5_solves_239 (by decide) ?_
        refine g_lv [1, 2, 0] rfl ?_
        exact ih _ _ _ _ _ _ _ _ _ _ _ _ _ _ _ hf hk
  have loop244 : ∀ (n : Nat) (y1 : Int32) (y2 : Int32) (d_t_many : Int32) (d_t_below : Int64) (d_t_above1 : Int64) (d_t_below1 : Int64) (d_t_now : Nat → Int32) (d_t_heapOf : Nat → Int32) (d_t_partOf : Nat → Int32) (d_t_place : Nat → Int32) (d_t_matrix : Nat → Int64) (d_t_right : Nat → Int64) (d_t_force : Nat → Int64) (d_t_work : Nat → Int64) (w0 : Nat → Int64) (w1 : Nat → Int64), fX5_solves_L244 N n y1 y2 d_t_now d_t_heapOf d_t_place d_t_matrix d_t_right = some (w0, w1) → yG p l e (headSpec wsX5_solves rmX5_solves).room s m (List.toArray [.ref h_t]) below meth c D (va_A [(h_t, oR A_t c_t_many c_t_below c_t_above1 c_t_below1), (A_t 0, eI cI 242 c_t_now), (A_t 2, eI cI 6 c_t_heapOf), (A_t 3, eI cI 6 c_t_partOf), (A_t 4, eI cI 6 c_t_place), (A_t 5, eJ cJ 36 c_t_matrix), (A_t 6, eJ cJ 6 c_t_right), (A_t 7, eJ cJ 6 c_t_force), (A_t 8, eJ cJ 216 c_t_work)] sz) 6 0 0 (MQ below (yQv D (yT cI cJ cZ cW cR) [(h_t, oR A_t c_t_many zc_t_below c_t_above1 c_t_below1), (A_t 0, eI cI 242 c_t_now), (A_t 2, eI cI 6 zc_t_heapOf), (A_t 3, eI cI 6 zc_t_partOf), (A_t 4, eI cI 6 zc_t_place), (A_t 5, eJ cJ 36 zc_t_matrix), (A_t 6, eJ cJ 6 zc_t_right), (A_t 7, eJ cJ 6 zc_t_force), (A_t 8, eJ cJ 216 zc_t_work)] (va_A [(h_t, oR A_t c_t_many c_t_below c_t_above1 c_t_below1), (A_t 0, eI cI 242 c_t_now), (A_t 2, eI cI 6 c_t_heapOf), (A_t 3, eI cI 6 c_t_partOf), (A_t 4, eI cI 6 c_t_place), (A_t 5, eJ cJ 36 c_t_matrix), (A_t 6, eJ cJ 6 c_t_right), (A_t 7, eJ cJ 6 c_t_force), (A_t 8, eJ cJ 216 c_t_work)] sz)) (List.toArray [.ref h_t]) s 0 0 (va_A [(h_t, oR A_t c_t_many c_t_below c_t_above1 c_t_below1), (A_t 0, eI cI 242 c_t_now), (A_t 2, eI cI 6 c_t_heapOf), (A_t 3, eI cI 6 c_t_partOf), (A_t 4, eI cI 6 c_t_place), (A_t 5, eJ cJ 36 c_t_matrix), (A_t 6, eJ cJ 6 c_t_right), (A_t 7, eJ cJ 6 c_t_force), (A_t 8, eJ cJ 216 c_t_work)] sz)) 410 [(0, .ref h_t), (1, .int y1)] [] [(h_t, oR A_t d_t_many d_t_below d_t_above1 d_t_below1), (A_t 0, eI cI 242 d_t_now), (A_t 2, eI cI 6 d_t_heapOf), (A_t 3, eI cI 6 d_t_partOf), (A_t 4, eI cI 6 d_t_place), (A_t 5, eJ cJ 36 w0), (A_t 6, eJ cJ 6 w1), (A_t 7, eJ cJ 6 d_t_force), (A_t 8, eJ cJ 216 d_t_work)] → yG p l e (headSpec wsX5_solves rmX5_solves).room s m (List.toArray [.ref h_t]) below meth c D (va_A [(h_t, oR A_t c_t_many c_t_below c_t_above1 c_t_below1), (A_t 0, eI cI 242 c_t_now), (A_t 2, eI cI 6 c_t_heapOf), (A_t 3, eI cI 6 c_t_partOf), (A_t 4, eI cI 6 c_t_place), (A_t 5, eJ cJ 36 c_t_matrix), (A_t 6, eJ cJ 6 c_t_right), (A_t 7, eJ cJ 6 c_t_force), (A_t 8, eJ cJ 216 c_t_work)] sz) 6 0 0 (MQ below (yQv D (yT cI cJ cZ cW cR) [(h_t, oR A_t c_t_many zc_t_below c_t_above1 c_t_below1), (A_t 0, eI cI 242 c_t_now), (A_t 2, eI cI 6 zc_t_heapOf), (A_t 3, eI cI 6 zc_t_partOf), (A_t 4, eI cI 6 zc_t_place), (A_t 5, eJ cJ 36 zc_t_matrix), (A_t 6, eJ cJ 6 zc_t_right), (A_t 7, eJ cJ 6 zc_t_force), (A_t 8, eJ cJ 216 zc_t_work)] (va_A [(h_t, oR A_t c_t_many c_t_below c_t_above1 c_t_below1), (A_t 0, eI cI 242 c_t_now), (A_t 2, eI cI 6 c_t_heapOf), (A_t 3, eI cI 6 c_t_partOf), (A_t 4, eI cI 6 c_t_place), (A_t 5, eJ cJ 36 c_t_matrix), (A_t 6, eJ cJ 6 c_t_right), (A_t 7, eJ cJ 6 c_t_force), (A_t 8, eJ cJ 216 c_t_work)] sz)) (List.toArray [.ref h_t]) s 0 0 (va_A [(h_t, oR A_t c_t_many c_t_below c_t_above1 c_t_below1), (A_t 0, eI cI 242 c_t_now), (A_t 2, eI cI 6 c_t_heapOf), (A_t 3, eI cI 6 c_t_partOf), (A_t 4, eI cI 6 c_t_place), (A_t 5, eJ cJ 36 c_t_matrix), (A_t 6, eJ cJ 6 c_t_right), (A_t 7, eJ cJ 6 c_t_force), (A_t 8, eJ cJ 216 c_t_work)] sz)) 244 [(0, .ref h_t), (1, .int y1), (2, .int y2)] [] [(h_t, oR A_t d_t_many d_t_below d_t_above1 d_t_below1), (A_t 0, eI cI 242 d_t_now), (A_t 2, eI cI 6 d_t_heapOf), (A_t 3, eI cI 6 d_t_partOf), (A_t 4, eI cI 6 d_t_place), (A_t 5, eJ cJ 36 d_t_matrix), (A_t 6, eJ cJ 6 d_t_right), (A_t 7, eJ cJ 6 d_t_force), (A_t 8, eJ cJ 216 d_t_work)] := by
    intro n
    induction n with
    | zero =>
      intro y1 y2 d_t_many d_t_below d_t_above1 d_t_below1 d_t_now d_t_heapOf d_t_partOf d_t_place d_t_matrix d_t_right d_t_force d_t_work w0 w1 hf
      cases hf
    | succ n ih =>
      intro y1 y2 d_t_many d_t_below d_t_above1 d_t_below1 d_t_now d_t_heapOf d_t_partOf d_t_place d_t_matrix d_t_right d_t_force d_t_work w0 w1 hf hk
      unfold fX5_solves_L244 at hf
      refine g_iload_n Γ 2 dX5_solves_244 rfl ?_
      refine g_aload_n Γ 0 dX5_solves_245 rfl ?_
      obtain ⟨v100, e101, hf⟩ := ya_ob hf
      refine g_vi (q := (RX5, TX5, 19)) (wr := [(A_t 2, eI cI 6 d_t_heapOf), (A_t 3, eI cI 6 d_t_partOf), (A_t 4, eI cI 6 d_t_place), (A_t 5, eJ cJ 36 d_t_matrix), (A_t 6, eJ cJ 6 d_t_right), (A_t 7, eJ cJ 6 d_t_force), (A_t 8, eJ cJ 216 d_t_work)]) (ws' := [(A_t 2, eI cI 6 d_t_heapOf), (A_t 3, eI cI 6 d_t_partOf), (A_t 4, eI cI 6 d_t_place), (A_t 5, eJ cJ 36 d_t_matrix), (A_t 6, eJ cJ 6 d_t_right), (A_t 7, eJ cJ 6 d_t_force), (A_t 8, eJ cJ 216 d_t_work), (h_t, oR A_t d_t_many d_t_below d_t_above1 d_t_below1), (A_t 0, eI cI 242 d_t_now)]) Γ (fun sz => mX5_flows (l := l) (D := D) (sz := sz) (cI := cI) (cJ := cJ) (cZ := cZ) (cW := cW) (cR := cR) (h_t := h_t) (A_t := A_t) (hf := e101)) eX5_flows gX5_solves_X5_flows rfl rfl 0 rfl rfl rfl (Nat.le_of_ble_eq_true rfl) ⟨Nat.le_of_ble_eq_true rfl, Nat.le_of_ble_eq_true rfl⟩ dX5_solves_246 [0, 1] [2, 3, 4, 5, 6, 7, 8] rfl rfl rfl rfl (by decide) rfl ?_
      refine g_icmp_ge Γ 410 dX5_solves_249 (by decide) (fun c102 => ?_) (fun c102 => ?_)
      · have hf := ya_if1 c102 hf
        cases hf
        refine g_lv [0, 1] rfl ?_
        refine g_ws (ws' := [(h_t, oR A_t d_t_many d_t_below d_t_above1 d_t_below1), (A_t 0, eI cI 242 d_t_now), (A_t 2, eI cI 6 d_t_heapOf), (A_t 3, eI cI 6 d_t_partOf), (A_t 4, eI cI 6 d_t_place), (A_t 5, eJ cJ 36 d_t_matrix), (A_t 6, eJ cJ 6 d_t_right), (A_t 7, eJ cJ 6 d_t_force), (A_t 8, eJ cJ 216 d_t_work)]) [7, 8, 0, 1, 2, 3, 4, 5, 6] rfl rfl ?_
        exact hk
      · have hf := ya_if2 c102 hf
        refine g_aload_n Γ 0 dX5_solves_252 rfl ?_
        refine g_get Γ fX5_solves_16 7 rfl rfl dX5_solves_253 ?_
        refine g_aload_n Γ 0 dX5_solves_256 rfl ?_
        refine g_iload_n Γ 2 dX5_solves_257 rfl ?_
        refine g_iconst (v := 0) Γ dX5_solves_258 (by decide) ?_
        obtain ⟨v103, e104, hf⟩ := ya_ob hf
        refine g_vi (q := (RX5, TX5, 19)) (wr := [(A_t 2, eI cI 6 d_t_heapOf), (A_t 3, eI cI 6 d_t_partOf), (A_t 4, eI cI 6 d_t_place), (A_t 5, eJ cJ 36 d_t_matrix), (A_t 6, eJ cJ 6 d_t_right), (A_t 7, eJ cJ 6 d_t_force), (A_t 8, eJ cJ 216 d_t_work)]) (ws' := [(A_t 2, eI cI 6 d_t_heapOf), (A_t 3, eI cI 6 d_t_partOf), (A_t 4, eI cI 6 d_t_place), (A_t 5, eJ cJ 36 d_t_matrix), (A_t 6, eJ cJ 6 d_t_right), (A_t 7, eJ cJ 6 d_t_force), (A_t 8, eJ cJ 216 d_t_work), (h_t, oR A_t d_t_many d_t_below d_t_above1 d_t_below1), (A_t 0, eI cI 242 d_t_now)]) Γ (fun sz => mX5_get (l := l) (D := D) (sz := sz) (cI := cI) (cJ := cJ) (cZ := cZ) (cW := cW) (cR := cR) (h_t := h_t) (A_t := A_t) (hf := e104)) eX5_get gX5_solves_X5_get rfl rfl 0 rfl rfl rfl (Nat.le_of_ble_eq_true rfl) ⟨Nat.le_of_ble_eq_true rfl, Nat.le_of_ble_eq_true rfl⟩ dX5_solves_259 [7, 8] [0, 1, 2, 3, 4, 5, 6] rfl rfl rfl rfl (by decide) rfl ?_
        obtain ⟨v105, e106, hf⟩ := ya_ob hf
        refine g_iald Γ e106 0 0 rfl rfl dX5_solves_262 ?_
        refine g_istore_n (lv' := [(3, .int v105), (0, .ref h_t), (1, .int y1), (2, .int y2)]) Γ dX5_solves_263 (by decide) rfl ?_
        refine g_aload_n Γ 1 dX5_solves_264 rfl ?_
        refine g_get Γ fX5_solves_16 7 rfl rfl dX5_solves_265 ?_
        refine g_aload_n Γ 1 dX5_solves_268 rfl ?_
        refine g_iload_n Γ 3 dX5_solves_269 rfl ?_
        refine g_iconst (v := 1) Γ dX5_solves_270 (by decide) ?_
        obtain ⟨v107, e108, hf⟩ := ya_ob hf
        refine g_vi (q := (RX5, TX5, 19)) (wr := [(A_t 2, eI cI 6 d_t_heapOf), (A_t 3, eI cI 6 d_t_partOf), (A_t 4, eI cI 6 d_t_place), (A_t 5, eJ cJ 36 d_t_matrix), (A_t 6, eJ cJ 6 d_t_right), (A_t 7, eJ cJ 6 d_t_force), (A_t 8, eJ cJ 216 d_t_work)]) (ws' := [(A_t 2, eI cI 6 d_t_heapOf), (A_t 3, eI cI 6 d_t_partOf), (A_t 4, eI cI 6 d_t_place), (A_t 5, eJ cJ 36 d_t_matrix), (A_t 6, eJ cJ 6 d_t_right), (A_t 7, eJ cJ 6 d_t_force), (A_t 8, eJ cJ 216 d_t_work), (h_t, oR A_t d_t_many d_t_below d_t_above1 d_t_below1), (A_t 0, eI cI 242 d_t_now)]) Γ (fun sz => mX5_get (l := l) (D := D) (sz := sz) (cI := cI) (cJ := cJ) (cZ := cZ) (cW := cW) (cR := cR) (h_t := h_t) (A_t := A_t) (hf := e108)) eX5_get gX5_solves_X5_get rfl rfl 0 rfl rfl rfl (Nat.le_of_ble_eq_true rfl) ⟨Nat.le_of_ble_eq_true rfl, Nat.le_of_ble_eq_true rfl⟩ dX5_solves_271 [7, 8] [0, 1, 2, 3, 4, 5, 6] rfl rfl rfl rfl (by decide) rfl ?_
        obtain ⟨v109, e110, hf⟩ := ya_ob hf
        refine g_iald Γ e110 0 0 rfl rfl dX5_solves_274 ?_
        refine g_istore (lv' := [(4, .int v109), (3, .int v105), (0, .ref h_t), (1, .int y1), (2, .int y2)]) Γ dX5_solves_275 (by decide) rfl ?_
        refine g_aload_n Γ 2 dX5_solves_277 rfl ?_
        refine g_iload_n Γ 4 dX5_solves_278 rfl ?_
        obtain ⟨v111, e112, hf⟩ := ya_ob hf
        refine g_vi (q := (RX5, TX5, 19)) (wr := [(A_t 2, eI cI 6 d_t_heapOf), (A_t 3, eI cI 6 d_t_partOf), (A_t 4, eI cI 6 d_t_place), (A_t 5, eJ cJ 36 d_t_matrix), (A_t 6, eJ cJ 6 d_t_right), (A_t 7, eJ cJ 6 d_t_force), (A_t 8, eJ cJ 216 d_t_work)]) (ws' := [(A_t 2, eI cI 6 d_t_heapOf), (A_t 3, eI cI 6 d_t_partOf), (A_t 4, eI cI 6 d_t_place), (A_t 5, eJ cJ 36 d_t_matrix), (A_t 6, eJ cJ 6 d_t_right), (A_t 7, eJ cJ 6 d_t_force), (A_t 8, eJ cJ 216 d_t_work), (h_t, oR A_t d_t_many d_t_below d_t_above1 d_t_below1), (A_t 0, eI cI 242 d_t_now)]) Γ (fun sz => mX5_isRead (l := l) (D := D) (sz := sz) (cI := cI) (cJ := cJ) (cZ := cZ) (cW := cW) (cR := cR) (h_t := h_t) (A_t := A_t) (hf := e112)) eX5_isRead gX5_solves_X5_isRead rfl rfl 0 rfl rfl rfl (Nat.le_of_ble_eq_true rfl) ⟨Nat.le_of_ble_eq_true rfl, Nat.le_of_ble_eq_true rfl⟩ dX5_solves_279 [7, 8] [0, 1, 2, 3, 4, 5, 6] rfl rfl rfl rfl (by decide) rfl ?_
        refine g_if_eq Γ 404 dX5_solves_282 (by decide) (fun c113 => ?_) (fun c113 => ?_)
        · have hf := ya_if1 c113 hf
          obtain ⟨v114, e115, hf⟩ := ya_lt_inv hf
          refine g_iinc (lv' := [(2, .int v114), (4, .int v109), (3, .int v105), (0, .ref h_t), (1, .int y1)]) Γ 4 dX5_solves_404 rfl (by rw [e115]; rfl) (by decide) rfl ?_
          refine g_goto Γ 244 dX5_solves_407 (by decide) ?_
          refine g_lv [3, 4, 0] rfl ?_
          refine g_ws (ws' := [(h_t, oR A_t d_t_many d_t_below d_t_above1 d_t_below1), (A_t 0, eI cI 242 d_t_now), (A_t 2, eI cI 6 d_t_heapOf), (A_t 3, eI cI 6 d_t_partOf), (A_t 4, eI cI 6 d_t_place), (A_t 5, eJ cJ 36 d_t_matrix), (A_t 6, eJ cJ 6 d_t_right), (A_t 7, eJ cJ 6 d_t_force), (A_t 8, eJ cJ 216 d_t_work)]) [7, 8, 0, 1, 2, 3, 4, 5, 6] rfl rfl ?_
          exact ih _ _ _ _ _ _ _ _ _ _ _ _ _ _ _ _ hf hk
        · have hf := ya_if2 c113 hf
          refine g_iload_n Γ 1 dX5_solves_285 rfl ?_
          refine g_iload Γ 0 dX5_solves_286 rfl ?_
          refine g_icmp_ne Γ 294 dX5_solves_288 (by decide) (fun c116 => ?_) (fun c116 => ?_)
          · have hf := ya_if2 c116 hf
            refine g_aload_n Γ 2 dX5_solves_294 rfl ?_
            refine g_aload_n Γ 2 dX5_solves_295 rfl ?_
            refine g_get Γ fX5_solves_22 7 rfl rfl dX5_solves_296 ?_
            refine g_iload_n Γ 1 dX5_solves_299 rfl ?_
            obtain ⟨v117, e118, hf⟩ := ya_ob hf
            refine g_iald Γ e118 2 0 rfl rfl dX5_solves_300 ?_
            refine g_aload_n Γ 2 dX5_solves_301 rfl ?_
            refine g_get Γ fX5_solves_22 7 rfl rfl dX5_solves_302 ?_
            refine g_iload Γ 0 dX5_solves_305 rfl ?_
            obtain ⟨v119, e120, hf⟩ := ya_ob hf
            refine g_iald Γ e120 2 0 rfl rfl dX5_solves_307 ?_
            refine g_aload_n Γ 2 dX5_solves_308 rfl ?_
            refine g_iload_n Γ 4 dX5_solves_309 rfl ?_
            refine g_iconst (v := 4) Γ dX5_solves_310 (by decide) ?_
            obtain ⟨v121, e122, hf⟩ := ya_ob hf
            refine g_vi (q := (RX5, TX5, 19)) (wr := [(A_t 2, eI cI 6 d_t_heapOf), (A_t 3, eI cI 6 d_t_partOf), (A_t 4, eI cI 6 d_t_place), (A_t 5, eJ cJ 36 d_t_matrix), (A_t 6, eJ cJ 6 d_t_right), (A_t 7, eJ cJ 6 d_t_force), (A_t 8, eJ cJ 216 d_t_work)]) (ws' := [(A_t 2, eI cI 6 d_t_heapOf), (A_t 3, eI cI 6 d_t_partOf), (A_t 4, eI cI 6 d_t_place), (A_t 5, eJ cJ 36 d_t_matrix), (A_t 6, eJ cJ 6 d_t_right), (A_t 7, eJ cJ 6 d_t_force), (A_t 8, eJ cJ 216 d_t_work), (h_t, oR A_t d_t_many d_t_below d_t_above1 d_t_below1), (A_t 0, eI cI 242 d_t_now)]) Γ (fun sz => mX5_get (l := l) (D := D) (sz := sz) (cI := cI) (cJ := cJ) (cZ := cZ) (cW := cW) (cR := cR) (h_t := h_t) (A_t := A_t) (hf := e122)) eX5_get gX5_solves_X5_get rfl rfl 0 rfl rfl rfl (Nat.le_of_ble_eq_true rfl) ⟨Nat.le_of_ble_eq_true rfl, Nat.le_of_ble_eq_true rfl⟩ dX5_solves_311 [7, 8] [0, 1, 2, 3, 4, 5, 6] rfl rfl rfl rfl (by decide) rfl ?_
            obtain ⟨v123, e124, hf⟩ := ya_ob hf
            refine g_vv (q := (RX5, TX5, 19)) (wr := [(A_t 2, eI cI 6 d_t_heapOf), (A_t 3, eI cI 6 d_t_partOf), (A_t 4, eI cI 6 d_t_place), (A_t 6, eJ cJ 6 d_t_right), (A_t 7, eJ cJ 6 d_t_force), (A_t 8, eJ cJ 216 d_t_work), (A_t 0, eI cI 242 d_t_now)]) (ws' := [(A_t 2, eI cI 6 d_t_heapOf), (A_t 3, eI cI 6 d_t_partOf), (A_t 4, eI cI 6 d_t_place), (A_t 6, eJ cJ 6 d_t_right), (A_t 7, eJ cJ 6 d_t_force), (A_t 8, eJ cJ 216 d_t_work), (A_t 0, eI cI 242 d_t_now), (h_t, oR A_t d_t_many d_t_below d_t_above1 d_t_below1), (A_t 5, eJ cJ 36 v123)]) Γ (fun sz => mX5_puts (l := l) (D := D) (sz := sz) (cI := cI) (cJ := cJ) (cZ := cZ) (cW := cW) (cR := cR) (h_t := h_t) (A_t := A_t) (hf := e124)) eX5_puts gX5_solves_X5_puts rfl rfl 0 rfl rfl rfl (Nat.le_of_ble_eq_true rfl) ⟨Nat.le_of_ble_eq_true rfl, Nat.le_of_ble_eq_true rfl⟩ dX5_solves_314 [7, 3] [0, 1, 2, 4, 5, 6, 8] rfl rfl rfl rfl (by decide) rfl ?_
            refine g_aload_n Γ 2 dX5_solves_317 rfl ?_
            refine g_aload_n Γ 2 dX5_solves_318 rfl ?_
            refine g_get Γ fX5_solves_22 7 rfl rfl dX5_solves_319 ?_
            refine g_iload Γ 0 dX5_solves_322 rfl ?_
            obtain ⟨v125, e126, hf⟩ := ya_ob hf
            refine g_iald Γ e126 2 0 rfl rfl dX5_solves_324 ?_
            refine g_aload_n Γ 2 dX5_solves_325 rfl ?_
            refine g_get Γ fX5_solves_22 7 rfl rfl dX5_solves_326 ?_
            refine g_iload_n Γ 1 dX5_solves_329 rfl ?_
            obtain ⟨v127, e128, hf⟩ := ya_ob hf
            refine g_iald Γ e128 2 0 rfl rfl dX5_solves_330 ?_
            refine g_aload_n Γ 2 dX5_solves_331 rfl ?_
            refine g_iload_n Γ 4 dX5_solves_332 rfl ?_
            refine g_iconst (v := 4) Γ dX5_solves_333 (by decide) ?_
            obtain ⟨v129, e130, hf⟩ := ya_ob hf
            refine g_vi (q := (RX5, TX5, 19)) (wr := [(A_t 2, eI cI 6 d_t_heapOf), (A_t 3, eI cI 6 d_t_partOf), (A_t 4, eI cI 6 d_t_place), (A_t 6, eJ cJ 6 d_t_right), (A_t 7, eJ cJ 6 d_t_force), (A_t 8, eJ cJ 216 d_t_work), (A_t 5, eJ cJ 36 v123)]) (ws' := [(A_t 2, eI cI 6 d_t_heapOf), (A_t 3, eI cI 6 d_t_partOf), (A_t 4, eI cI 6 d_t_place), (A_t 6, eJ cJ 6 d_t_right), (A_t 7, eJ cJ 6 d_t_force), (A_t 8, eJ cJ 216 d_t_work), (A_t 5, eJ cJ 36 v123), (h_t, oR A_t d_t_many d_t_below d_t_above1 d_t_below1), (A_t 0, eI cI 242 d_t_now)]) Γ (fun sz => mX5_get (l := l) (D := D) (sz := sz) (cI := cI) (cJ := cJ) (cZ := cZ) (cW := cW) (cR := cR) (h_t := h_t) (A_t := A_t) (hf := e130)) eX5_get gX5_solves_X5_get rfl rfl 0 rfl rfl rfl (Nat.le_of_ble_eq_true rfl) ⟨Nat.le_of_ble_eq_true rfl, Nat.le_of_ble_eq_true rfl⟩ dX5_solves_334 [7, 6] [0, 1, 2, 3, 4, 5, 8] rfl rfl rfl rfl (by decide) rfl ?_
            obtain ⟨v131, e132, hf⟩ := ya_ob hf
            refine g_vv (q := (RX5, TX5, 19)) (wr := [(A_t 2, eI cI 6 d_t_heapOf), (A_t 3, eI cI 6 d_t_partOf), (A_t 4, eI cI 6 d_t_place), (A_t 6, eJ cJ 6 d_t_right), (A_t 7, eJ cJ 6 d_t_force), (A_t 8, eJ cJ 216 d_t_work), (A_t 0, eI cI 242 d_t_now)]) (ws' := [(A_t 2, eI cI 6 d_t_heapOf), (A_t 3, eI cI 6 d_t_partOf), (A_t 4, eI cI 6 d_t_place), (A_t 6, eJ cJ 6 d_t_right), (A_t 7, eJ cJ 6 d_t_force), (A_t 8, eJ cJ 216 d_t_work), (A_t 0, eI cI 242 d_t_now), (h_t, oR A_t d_t_many d_t_below d_t_above1 d_t_below1), (A_t 5, eJ cJ 36 v131)]) Γ (fun sz => mX5_puts (l := l) (D := D) (sz := sz) (cI := cI) (cJ := cJ) (cZ := cZ) (cW := cW) (cR := cR) (h_t := h_t) (A_t := A_t) (hf := e132)) eX5_puts gX5_solves_X5_puts rfl rfl 0 rfl rfl rfl (Nat.le_of_ble_eq_true rfl) ⟨Nat.le_of_ble_eq_true rfl, Nat.le_of_ble_eq_true rfl⟩ dX5_solves_337 [7, 6] [0, 1, 2, 3, 4, 5, 8] rfl rfl rfl rfl (by decide) rfl ?_
            refine g_aload_n Γ 2 dX5_solves_340 rfl ?_
            refine g_get Γ fX5_solves_22 7 rfl rfl dX5_solves_341 ?_
            refine g_iload Γ 0 dX5_solves_344 rfl ?_
            obtain ⟨v133, e134, hf⟩ := ya_ob hf
            refine g_iald Γ e134 2 0 rfl rfl dX5_solves_346 ?_
            refine g_iconst (v := (-1)) Γ dX5_solves_347 (by decide) ?_
            refine g_icmp_eq Γ 373 dX5_solves_348 (by decide) (fun c135 => ?_) (fun c135 => ?_)
            · have hf := ya_if1 c135 hf
              refine g_aload_n Γ 2 dX5_solves_373 rfl ?_
              refine g_get Γ fX5_solves_22 7 rfl rfl dX5_solves_374 ?_
              refine g_iload_n Γ 1 dX5_solves_377 rfl ?_
              obtain ⟨v136, e137, hf⟩ := ya_ob hf
              refine g_iald Γ e137 2 0 rfl rfl dX5_solves_378 ?_
              refine g_iconst (v := (-1)) Γ dX5_solves_379 (by decide) ?_
              refine g_icmp_eq Γ 404 dX5_solves_380 (by decide) (fun c138 => ?_) (fun c138 => ?_)
              · have hf := ya_if1 c138 hf
                obtain ⟨v139, e140, hf⟩ := ya_lt_inv hf
                refine g_iinc (lv' := [(2, .int v139), (4, .int v109), (3, .int v105), (0, .ref h_t), (1, .int y1)]) Γ 4 dX5_solves_404 rfl (by rw [e140]; rfl) (by decide) rfl ?_
                refine g_goto Γ 244 dX5_solves_407 (by decide) ?_
                refine g_lv [3, 4, 0] rfl ?_
                refine g_ws (ws' := [(h_t, oR A_t d_t_many d_t_below d_t_above1 d_t_below1), (A_t 0, eI cI 242 d_t_now), (A_t 2, eI cI 6 d_t_heapOf), (A_t 3, eI cI 6 d_t_partOf), (A_t 4, eI cI 6 d_t_place), (A_t 5, eJ cJ 36 v131), (A_t 6, eJ cJ 6 d_t_right), (A_t 7, eJ cJ 6 d_t_force), (A_t 8, eJ cJ 216 d_t_work)]) [7, 6, 0, 1, 2, 8, 3, 4, 5] rfl rfl ?_
                exact ih _ _ _ _ _ _ _ _ _ _ _ _ _ _ _ _ hf hk
              · have hf := ya_if2 c138 hf
                refine g_aload_n Γ 2 dX5_solves_383 rfl ?_
                refine g_get Γ fX5_solves_29 7 rfl rfl dX5_solves_384 ?_
                refine g_aload_n Γ 2 dX5_solves_387 rfl ?_
                refine g_get Γ fX5_solves_22 7 rfl rfl dX5_solves_388 ?_
                refine g_iload_n Γ 1 dX5_solves_391 rfl ?_
                obtain ⟨v141, e142, hf⟩ := ya_ob hf
                refine g_iald Γ e142 2 0 rfl rfl dX5_solves_392 ?_
                refine g_dup2 Γ dX5_solves_393 rfl rfl ?_
                obtain ⟨v143, e144, hf⟩ := ya_ob hf
                refine g_lald Γ e144 3 1 rfl rfl dX5_solves_394 ?_
                refine g_aload_n Γ 2 dX5_solves_395 rfl ?_
                refine g_iload_n Γ 4 dX5_solves_396 rfl ?_
                refine g_iconst (v := 3) Γ dX5_solves_397 (by decide) ?_
                obtain ⟨v145, e146, hf⟩ := ya_ob hf
                refine g_vi (q := (RX5, TX5, 19)) (wr := [(A_t 2, eI cI 6 d_t_heapOf), (A_t 3, eI cI 6 d_t_partOf), (A_t 4, eI cI 6 d_t_place), (A_t 6, eJ cJ 6 d_t_right), (A_t 7, eJ cJ 6 d_t_force), (A_t 8, eJ cJ 216 d_t_work), (A_t 5, eJ cJ 36 v131)]) (ws' := [(A_t 2, eI cI 6 d_t_heapOf), (A_t 3, eI cI 6 d_t_partOf), (A_t 4, eI cI 6 d_t_place), (A_t 6, eJ cJ 6 d_t_right), (A_t 7, eJ cJ 6 d_t_force), (A_t 8, eJ cJ 216 d_t_work), (A_t 5, eJ cJ 36 v131), (h_t, oR A_t d_t_many d_t_below d_t_above1 d_t_below1), (A_t 0, eI cI 242 d_t_now)]) Γ (fun sz => mX5_get (l := l) (D := D) (sz := sz) (cI := cI) (cJ := cJ) (cZ := cZ) (cW := cW) (cR := cR) (h_t := h_t) (A_t := A_t) (hf := e146)) eX5_get gX5_solves_X5_get rfl rfl 0 rfl rfl rfl (Nat.le_of_ble_eq_true rfl) ⟨Nat.le_of_ble_eq_true rfl, Nat.le_of_ble_eq_true rfl⟩ dX5_solves_398 [7, 6] [0, 1, 2, 3, 4, 5, 8] rfl rfl rfl rfl (by decide) rfl ?_
                refine g_i2l Γ dX5_solves_401 ?_
                refine g_ladd Γ dX5_solves_402 ?_
                obtain ⟨v147, e148, hf⟩ := ya_ob hf
                refine g_last (ws' := [(A_t 2, eI cI 6 d_t_heapOf), (A_t 3, eI cI 6 d_t_partOf), (A_t 4, eI cI 6 d_t_place), (A_t 6, eJ cJ 6 v147), (A_t 7, eJ cJ 6 d_t_force), (A_t 8, eJ cJ 216 d_t_work), (A_t 5, eJ cJ 36 v131), (h_t, oR A_t d_t_many d_t_below d_t_above1 d_t_below1), (A_t 0, eI cI 242 d_t_now)]) Γ e148 3 1 rfl rfl dX5_solves_403 rfl ?_
                obtain ⟨v149, e150, hf⟩ := ya_lt_inv hf
                refine g_iinc (lv' := [(2, .int v149), (4, .int v109), (3, .int v105), (0, .ref h_t), (1, .int y1)]) Γ 4 dX5_solves_404 rfl (by rw [e150]; rfl) (by decide) rfl ?_
                refine g_goto Γ 244 dX5_solves_407 (by decide) ?_
                refine g_lv [3, 4, 0] rfl ?_
                refine g_ws (ws' := [(h_t, oR A_t d_t_many d_t_below d_t_above1 d_t_below1), (A_t 0, eI cI 242 d_t_now), (A_t 2, eI cI 6 d_t_heapOf), (A_t 3, eI cI 6 d_t_partOf), (A_t 4, eI cI 6 d_t_place), (A_t 5, eJ cJ 36 v131), (A_t 6, eJ cJ 6 v147), (A_t 7, eJ cJ 6 d_t_force), (A_t 8, eJ cJ 216 d_t_work)]) [7, 8, 0, 1, 2, 6, 3, 4, 5] rfl rfl ?_
                exact ih _ _ _ _ _ _ _ _ _ _ _ _ _ _ _ _ hf hk
            · have hf := ya_if2 c135 hf
              refine g_aload_n Γ 2 dX5_solves_351 rfl ?_
              refine g_get Γ fX5_solves_29 7 rfl rfl dX5_solves_352 ?_
              refine g_aload_n Γ 2 dX5_solves_355 rfl ?_
              refine g_get Γ fX5_solves_22 7 rfl rfl dX5_solves_356 ?_
              refine g_iload Γ 0 dX5_solves_359 rfl ?_
              obtain ⟨v151, e152, hf⟩ := ya_ob hf
              refine g_iald Γ e152 2 0 rfl rfl dX5_solves_361 ?_
              refine g_dup2 Γ dX5_solves_362 rfl rfl ?_
              obtain ⟨v153, e154, hf⟩ := ya_ob hf
              refine g_lald Γ e154 3 1 rfl rfl dX5_solves_363 ?_
              refine g_aload_n Γ 2 dX5_solves_364 rfl ?_
              refine g_iload_n Γ 4 dX5_solves_365 rfl ?_
              refine g_iconst (v := 3) Γ dX5_solves_366 (by decide) ?_
              obtain ⟨v155, e156, hf⟩ := ya_ob hf
              refine g_vi (q := (RX5, TX5, 19)) (wr := [(A_t 2, eI cI 6 d_t_heapOf), (A_t 3, eI cI 6 d_t_partOf), (A_t 4, eI cI 6 d_t_place), (A_t 6, eJ cJ 6 d_t_right), (A_t 7, eJ cJ 6 d_t_force), (A_t 8, eJ cJ 216 d_t_work), (A_t 5, eJ cJ 36 v131)]) (ws' := [(A_t 2, eI cI 6 d_t_heapOf), (A_t 3, eI cI 6 d_t_partOf), (A_t 4, eI cI 6 d_t_place), (A_t 6, eJ cJ 6 d_t_right), (A_t 7, eJ cJ 6 d_t_force), (A_t 8, eJ cJ 216 d_t_work), (A_t 5, eJ cJ 36 v131), (h_t, oR A_t d_t_many d_t_below d_t_above1 d_t_below1), (A_t 0, eI cI 242 d_t_now)]) Γ (fun sz => mX5_get (l := l) (D := D) (sz := sz) (cI := cI) (cJ := cJ) (cZ := cZ) (cW := cW) (cR := cR) (h_t := h_t) (A_t := A_t) (hf := e156)) eX5_get gX5_solves_X5_get rfl rfl 0 rfl rfl rfl (Nat.le_of_ble_eq_true rfl) ⟨Nat.le_of_ble_eq_true rfl, Nat.le_of_ble_eq_true rfl⟩ dX5_solves_367 [7, 6] [0, 1, 2, 3, 4, 5, 8] rfl rfl rfl rfl (by decide) rfl ?_
              refine g_i2l Γ dX5_solves_370 ?_
              refine g_lsub Γ dX5_solves_371 ?_
              obtain ⟨v157, e158, hf⟩ := ya_ob hf
              refine g_last (ws' := [(A_t 2, eI cI 6 d_t_heapOf), (A_t 3, eI cI 6 d_t_partOf), (A_t 4, eI cI 6 d_t_place), (A_t 6, eJ cJ 6 v157), (A_t 7, eJ cJ 6 d_t_force), (A_t 8, eJ cJ 216 d_t_work), (A_t 5, eJ cJ 36 v131), (h_t, oR A_t d_t_many d_t_below d_t_above1 d_t_below1), (A_t 0, eI cI 242 d_t_now)]) Γ e158 3 1 rfl rfl dX5_solves_372 rfl ?_
              refine g_aload_n Γ 2 dX5_solves_373 rfl ?_
              refine g_get Γ fX5_solves_22 7 rfl rfl dX5_solves_374 ?_
              refine g_iload_n Γ 1 dX5_solves_377 rfl ?_
              obtain ⟨v159, e160, hf⟩ := ya_ob hf
              refine g_iald Γ e160 2 0 rfl rfl dX5_solves_378 ?_
              refine g_iconst (v := (-1)) Γ dX5_solves_379 (by decide) ?_
              refine g_icmp_eq Γ 404 dX5_solves_380 (by decide) (fun c161 => ?_) (fun c161 => ?_)
              · have hf := ya_if1 c161 hf
                obtain ⟨v162, e163, hf⟩ := ya_lt_inv hf
                refine g_iinc (lv' := [(2, .int v162), (4, .int v109), (3, .int v105), (0, .ref h_t), (1, .int y1)]) Γ 4 dX5_solves_404 rfl (by rw [e163]; rfl) (by decide) rfl ?_
                refine g_goto Γ 244 dX5_solves_407 (by decide) ?_
                refine g_lv [3, 4, 0] rfl ?_
                refine g_ws (ws' := [(h_t, oR A_t d_t_many d_t_below d_t_above1 d_t_below1), (A_t 0, eI cI 242 d_t_now), (A_t 2, eI cI 6 d_t_heapOf), (A_t 3, eI cI 6 d_t_partOf), (A_t 4, eI cI 6 d_t_place), (A_t 5, eJ cJ 36 v131), (A_t 6, eJ cJ 6 v157), (A_t 7, eJ cJ 6 d_t_force), (A_t 8, eJ cJ 216 d_t_work)]) [7, 8, 0, 1, 2, 6, 3, 4, 5] rfl rfl ?_
                exact ih _ _ _ _ _ _ _ _ _ _ _ _ _ _ _ _ hf hk
              · have hf := ya_if2 c161 hf
                refine g_aload_n Γ 2 dX5_solves_383 rfl ?_
                refine g_get Γ fX5_solves_29 7 rfl rfl dX5_solves_384 ?_
                refine g_aload_n Γ 2 dX5_solves_387 rfl ?_
                refine g_get Γ fX5_solves_22 7 rfl rfl dX5_solves_388 ?_
                refine g_iload_n Γ 1 dX5_solves_391 rfl ?_
                obtain ⟨v164, e165, hf⟩ := ya_ob hf
                refine g_iald Γ e165 2 0 rfl rfl dX5_solves_392 ?_
                refine g_dup2 Γ dX5_solves_393 rfl rfl ?_
                obtain ⟨v166, e167, hf⟩ := ya_ob hf
                refine g_lald Γ e167 3 1 rfl rfl dX5_solves_394 ?_
                refine g_aload_n Γ 2 dX5_solves_395 rfl ?_
                refine g_iload_n Γ 4 dX5_solves_396 rfl ?_
                refine g_iconst (v := 3) Γ dX5_solves_397 (by decide) ?_
                obtain ⟨v168, e169, hf⟩ := ya_ob hf
                refine g_vi (q := (RX5, TX5, 19)) (wr := [(A_t 2, eI cI 6 d_t_heapOf), (A_t 3, eI cI 6 d_t_partOf), (A_t 4, eI cI 6 d_t_place), (A_t 6, eJ cJ 6 v157), (A_t 7, eJ cJ 6 d_t_force), (A_t 8, eJ cJ 216 d_t_work), (A_t 5, eJ cJ 36 v131)]) (ws' := [(A_t 2, eI cI 6 d_t_heapOf), (A_t 3, eI cI 6 d_t_partOf), (A_t 4, eI cI 6 d_t_place), (A_t 6, eJ cJ 6 v157), (A_t 7, eJ cJ 6 d_t_force), (A_t 8, eJ cJ 216 d_t_work), (A_t 5, eJ cJ 36 v131), (h_t, oR A_t d_t_many d_t_below d_t_above1 d_t_below1), (A_t 0, eI cI 242 d_t_now)]) Γ (fun sz => mX5_get (l := l) (D := D) (sz := sz) (cI := cI) (cJ := cJ) (cZ := cZ) (cW := cW) (cR := cR) (h_t := h_t) (A_t := A_t) (hf := e169)) eX5_get gX5_solves_X5_get rfl rfl 0 rfl rfl rfl (Nat.le_of_ble_eq_true rfl) ⟨Nat.le_of_ble_eq_true rfl, Nat.le_of_ble_eq_true rfl⟩ dX5_solves_398 [7, 8] [0, 1, 2, 3, 4, 5, 6] rfl rfl rfl rfl (by decide) rfl ?_
                refine g_i2l Γ dX5_solves_401 ?_
                refine g_ladd Γ dX5_solves_402 ?_
                obtain ⟨v170, e171, hf⟩ := ya_ob hf
                refine g_last (ws' := [(A_t 2, eI cI 6 d_t_heapOf), (A_t 3, eI cI 6 d_t_partOf), (A_t 4, eI cI 6 d_t_place), (A_t 6, eJ cJ 6 v170), (A_t 7, eJ cJ 6 d_t_force), (A_t 8, eJ cJ 216 d_t_work), (A_t 5, eJ cJ 36 v131), (h_t, oR A_t d_t_many d_t_below d_t_above1 d_t_below1), (A_t 0, eI cI 242 d_t_now)]) Γ e171 3 1 rfl rfl dX5_solves_403 rfl ?_
                obtain ⟨v172, e173, hf⟩ := ya_lt_inv hf
                refine g_iinc (lv' := [(2, .int v172), (4, .int v109), (3, .int v105), (0, .ref h_t), (1, .int y1)]) Γ 4 dX5_solves_404 rfl (by rw [e173]; rfl) (by decide) rfl ?_
                refine g_goto Γ 244 dX5_solves_407 (by decide) ?_
                refine g_lv [3, 4, 0] rfl ?_
                refine g_ws (ws' := [(h_t, oR A_t d_t_many d_t_below d_t_above1 d_t_below1), (A_t 0, eI cI 242 d_t_now), (A_t 2, eI cI 6 d_t_heapOf), (A_t 3, eI cI 6 d_t_partOf), (A_t 4, eI cI 6 d_t_place), (A_t 5, eJ cJ 36 v131), (A_t 6, eJ cJ 6 v170), (A_t 7, eJ cJ 6 d_t_force), (A_t 8, eJ cJ 216 d_t_work)]) [7, 8, 0, 1, 2, 6, 3, 4, 5] rfl rfl ?_
                exact ih _ _ _ _ _ _ _ _ _ _ _ _ _ _ _ _ hf hk
          · have hf := ya_if1 c116 hf
            refine g_goto Γ 404 dX5_solves_291 (by decide) ?_
            obtain ⟨v174, e175, hf⟩ := ya_lt_inv hf
            refine g_iinc (lv' := [(2, .int v174), (4, .int v109), (3, .int v105), (0, .ref h_t), (1, .int y1)]) Γ 4 dX5_solves_404 rfl (by rw [e175]; rfl) (by decide) rfl ?_
            refine g_goto Γ 244 dX5_solves_407 (by decide) ?_
            refine g_lv [3, 4, 0] rfl ?_
            refine g_ws (ws' := [(h_t, oR A_t d_t_many d_t_below d_t_above1 d_t_below1), (A_t 0, eI cI 242 d_t_now), (A_t 2, eI cI 6 d_t_heapOf), (A_t 3, eI cI 6 d_t_partOf), (A_t 4, eI cI 6 d_t_place), (A_t 5, eJ cJ 36 d_t_matrix), (A_t 6, eJ cJ 6 d_t_right), (A_t 7, eJ cJ 6 d_t_force), (A_t 8, eJ cJ 216 d_t_work)]) [7, 8, 0, 1, 2, 3, 4, 5, 6] rfl rfl ?_
            exact ih _ _ _ _ _ _ _ _ _ _ _ _ _ _ _ _ hf hk
  have loop412 : ∀ (n : Nat) (y1 : Int32) (y2 : Int32) (d_t_many : Int32) (d_t_below : Int64) (d_t_above1 : Int64) (d_t_below1 : Int64) (d_t_now : Nat → Int32) (d_t_heapOf : Nat → Int32) (d_t_partOf : Nat → Int32) (d_t_place : Nat → Int32) (d_t_matrix : Nat → Int64) (d_t_right : Nat → Int64) (d_t_force : Nat → Int64) (d_t_work : Nat → Int64) (w0 : Nat → Int64), fX5_solves_L412 N n y1 y2 d_t_matrix d_t_work = some w0 → yG p l e (headSpec wsX5_solves rmX5_solves).room s m (List.toArray [.ref h_t]) below meth c D (va_A [(h_t, oR A_t c_t_many c_t_below c_t_above1 c_t_below1), (A_t 0, eI cI 242 c_t_now), (A_t 2, eI cI 6 c_t_heapOf), (A_t 3, eI cI 6 c_t_partOf), (A_t 4, eI cI 6 c_t_place), (A_t 5, eJ cJ 36 c_t_matrix), (A_t 6, eJ cJ 6 c_t_right), (A_t 7, eJ cJ 6 c_t_force), (A_t 8, eJ cJ 216 c_t_work)] sz) 6 0 0 (MQ below (yQv D (yT cI cJ cZ cW cR) [(h_t, oR A_t c_t_many zc_t_below c_t_above1 c_t_below1), (A_t 0, eI cI 242 c_t_now), (A_t 2, eI cI 6 zc_t_heapOf), (A_t 3, eI cI 6 zc_t_partOf), (A_t 4, eI cI 6 zc_t_place), (A_t 5, eJ cJ 36 zc_t_matrix), (A_t 6, eJ cJ 6 zc_t_right), (A_t 7, eJ cJ 6 zc_t_force), (A_t 8, eJ cJ 216 zc_t_work)] (va_A [(h_t, oR A_t c_t_many c_t_below c_t_above1 c_t_below1), (A_t 0, eI cI 242 c_t_now), (A_t 2, eI cI 6 c_t_heapOf), (A_t 3, eI cI 6 c_t_partOf), (A_t 4, eI cI 6 c_t_place), (A_t 5, eJ cJ 36 c_t_matrix), (A_t 6, eJ cJ 6 c_t_right), (A_t 7, eJ cJ 6 c_t_force), (A_t 8, eJ cJ 216 c_t_work)] sz)) (List.toArray [.ref h_t]) s 0 0 (va_A [(h_t, oR A_t c_t_many c_t_below c_t_above1 c_t_below1), (A_t 0, eI cI 242 c_t_now), (A_t 2, eI cI 6 c_t_heapOf), (A_t 3, eI cI 6 c_t_partOf), (A_t 4, eI cI 6 c_t_place), (A_t 5, eJ cJ 36 c_t_matrix), (A_t 6, eJ cJ 6 c_t_right), (A_t 7, eJ cJ 6 c_t_force), (A_t 8, eJ cJ 216 c_t_work)] sz)) 436 [(0, .ref h_t), (1, .int y1)] [] [(h_t, oR A_t d_t_many d_t_below d_t_above1 d_t_below1), (A_t 0, eI cI 242 d_t_now), (A_t 2, eI cI 6 d_t_heapOf), (A_t 3, eI cI 6 d_t_partOf), (A_t 4, eI cI 6 d_t_place), (A_t 5, eJ cJ 36 d_t_matrix), (A_t 6, eJ cJ 6 d_t_right), (A_t 7, eJ cJ 6 d_t_force), (A_t 8, eJ cJ 216 w0)] → yG p l e (headSpec wsX5_solves rmX5_solves).room s m (List.toArray [.ref h_t]) below meth c D (va_A [(h_t, oR A_t c_t_many c_t_below c_t_above1 c_t_below1), (A_t 0, eI cI 242 c_t_now), (A_t 2, eI cI 6 c_t_heapOf), (A_t 3, eI cI 6 c_t_partOf), (A_t 4, eI cI 6 c_t_place), (A_t 5, eJ cJ 36 c_t_matrix), (A_t 6, eJ cJ 6 c_t_right), (A_t 7, eJ cJ 6 c_t_force), (A_t 8, eJ cJ 216 c_t_work)] sz) 6 0 0 (MQ below (yQv D (yT cI cJ cZ cW cR) [(h_t, oR A_t c_t_many zc_t_below c_t_above1 c_t_below1), (A_t 0, eI cI 242 c_t_now), (A_t 2, eI cI 6 zc_t_heapOf), (A_t 3, eI cI 6 zc_t_partOf), (A_t 4, eI cI 6 zc_t_place), (A_t 5, eJ cJ 36 zc_t_matrix), (A_t 6, eJ cJ 6 zc_t_right), (A_t 7, eJ cJ 6 zc_t_force), (A_t 8, eJ cJ 216 zc_t_work)] (va_A [(h_t, oR A_t c_t_many c_t_below c_t_above1 c_t_below1), (A_t 0, eI cI 242 c_t_now), (A_t 2, eI cI 6 c_t_heapOf), (A_t 3, eI cI 6 c_t_partOf), (A_t 4, eI cI 6 c_t_place), (A_t 5, eJ cJ 36 c_t_matrix), (A_t 6, eJ cJ 6 c_t_right), (A_t 7, eJ cJ 6 c_t_force), (A_t 8, eJ cJ 216 c_t_work)] sz)) (List.toArray [.ref h_t]) s 0 0 (va_A [(h_t, oR A_t c_t_many c_t_below c_t_above1 c_t_below1), (A_t 0, eI cI 242 c_t_now), (A_t 2, eI cI 6 c_t_heapOf), (A_t 3, eI cI 6 c_t_partOf), (A_t 4, eI cI 6 c_t_place), (A_t 5, eJ cJ 36 c_t_matrix), (A_t 6, eJ cJ 6 c_t_right), (A_t 7, eJ cJ 6 c_t_force), (A_t 8, eJ cJ 216 c_t_work)] sz)) 412 [(0, .ref h_t), (1, .int y1), (2, .int y2)] [] [(h_t, oR A_t d_t_many d_t_below d_t_above1 d_t_below1), (A_t 0, eI cI 242 d_t_now), (A_t 2, eI cI 6 d_t_heapOf), (A_t 3, eI cI 6 d_t_partOf), (A_t 4, eI cI 6 d_t_place), (A_t 5, eJ cJ 36 d_t_matrix), (A_t 6, eJ cJ 6 d_t_right), (A_t 7, eJ cJ 6 d_t_force), (A_t 8, eJ cJ 216 d_t_work)] := by
    intro n
    induction n with
    | zero =>
      intro y1 y2 d_t_many d_t_below d_t_above1 d_t_below1 d_t_now d_t_heapOf d_t_partOf d_t_place d_t_matrix d_t_right d_t_force d_t_work w0 hf
      cases hf
    | succ n ih =>
      intro y1 y2 d_t_many d_t_below d_t_above1 d_t_below1 d_t_now d_t_heapOf d_t_partOf d_t_place d_t_matrix d_t_right d_t_force d_t_work w0 hf hk
      unfold fX5_solves_L412 at hf
      refine g_iload_n Γ 2 dX5_solves_412 rfl ?_
      refine g_bipush (v := 36) Γ dX5_solves_413 (by decide) ?_
      refine g_icmp_ge Γ 436 dX5_solves_415 (by decide) (fun c179 => ?_) (fun c179 => ?_)
      · have hf := ya_if1 c179 hf
        cases hf
        refine g_lv [0, 1] rfl ?_
        exact hk
      · have hf := ya_if2 c179 hf
        refine g_aload_n Γ 0 dX5_solves_418 rfl ?_
        refine g_get Γ fX5_solves_35 0 rfl rfl dX5_solves_419 ?_
        refine g_iload_n Γ 2 dX5_solves_422 rfl ?_
        refine g_aload_n Γ 0 dX5_solves_423 rfl ?_
        refine g_get Γ fX5_solves_25 0 rfl rfl dX5_solves_424 ?_
        refine g_iload_n Γ 2 dX5_solves_427 rfl ?_
        obtain ⟨v180, e181, hf⟩ := ya_ob hf
        refine g_lald Γ e181 5 1 rfl rfl dX5_solves_428 ?_
        obtain ⟨v182, e183, hf⟩ := ya_ob hf
        refine g_last (ws' := [(h_t, oR A_t d_t_many d_t_below d_t_above1 d_t_below1), (A_t 0, eI cI 242 d_t_now), (A_t 2, eI cI 6 d_t_heapOf), (A_t 3, eI cI 6 d_t_partOf), (A_t 4, eI cI 6 d_t_place), (A_t 5, eJ cJ 36 d_t_matrix), (A_t 6, eJ cJ 6 d_t_right), (A_t 7, eJ cJ 6 d_t_force), (A_t 8, eJ cJ 216 v182)]) Γ e183 8 1 rfl rfl dX5_solves_429 rfl ?_
        obtain ⟨v184, e185, hf⟩ := ya_lt_inv hf
        refine g_iinc (lv' := [(2, .int v184), (0, .ref h_t), (1, .int y1)]) Γ 2 dX5_solves_430 rfl (by rw [e185]; rfl) (by decide) rfl ?_
        refine g_goto Γ 412 dX5_solves_433 (by decide) ?_
        refine g_lv [1, 2, 0] rfl ?_
        exact ih _ _ _ _ _ _ _ _ _ _ _ _ _ _ _ hf hk
  have loop486 : ∀ (n : Nat) (y1 : Int32) (y2 : Int32) (y3 : Int32) (y4 : Int32) (d_t_many : Int32) (d_t_below : Int64) (d_t_above1 : Int64) (d_t_below1 : Int64) (d_t_now : Nat → Int32) (d_t_heapOf : Nat → Int32) (d_t_partOf : Nat → Int32) (d_t_place : Nat → Int32) (d_t_matrix : Nat → Int64) (d_t_right : Nat → Int64) (d_t_force : Nat → Int64) (d_t_work : Nat → Int64) (w0 : Nat → Int64), fX5_solves_L486 N n y1 y2 y3 y4 d_t_place d_t_matrix d_t_right d_t_work = some w0 → yG p l e (headSpec wsX5_solves rmX5_solves).room s m (List.toArray [.ref h_t]) below meth c D (va_A [(h_t, oR A_t c_t_many c_t_below c_t_above1 c_t_below1), (A_t 0, eI cI 242 c_t_now), (A_t 2, eI cI 6 c_t_heapOf), (A_t 3, eI cI 6 c_t_partOf), (A_t 4, eI cI 6 c_t_place), (A_t 5, eJ cJ 36 c_t_matrix), (A_t 6, eJ cJ 6 c_t_right), (A_t 7, eJ cJ 6 c_t_force), (A_t 8, eJ cJ 216 c_t_work)] sz) 6 0 0 (MQ below (yQv D (yT cI cJ cZ cW cR) [(h_t, oR A_t c_t_many zc_t_below c_t_above1 c_t_below1), (A_t 0, eI cI 242 c_t_now), (A_t 2, eI cI 6 zc_t_heapOf), (A_t 3, eI cI 6 zc_t_partOf), (A_t 4, eI cI 6 zc_t_place), (A_t 5, eJ cJ 36 zc_t_matrix), (A_t 6, eJ cJ 6 zc_t_right), (A_t 7, eJ cJ 6 zc_t_force), (A_t 8, eJ cJ 216 zc_t_work)] (va_A [(h_t, oR A_t c_t_many c_t_below c_t_above1 c_t_below1), (A_t 0, eI cI 242 c_t_now), (A_t 2, eI cI 6 c_t_heapOf), (A_t 3, eI cI 6 c_t_partOf), (A_t 4, eI cI 6 c_t_place), (A_t 5, eJ cJ 36 c_t_matrix), (A_t 6, eJ cJ 6 c_t_right), (A_t 7, eJ cJ 6 c_t_force), (A_t 8, eJ cJ 216 c_t_work)] sz)) (List.toArray [.ref h_t]) s 0 0 (va_A [(h_t, oR A_t c_t_many c_t_below c_t_above1 c_t_below1), (A_t 0, eI cI 242 c_t_now), (A_t 2, eI cI 6 c_t_heapOf), (A_t 3, eI cI 6 c_t_partOf), (A_t 4, eI cI 6 c_t_place), (A_t 5, eJ cJ 36 c_t_matrix), (A_t 6, eJ cJ 6 c_t_right), (A_t 7, eJ cJ 6 c_t_force), (A_t 8, eJ cJ 216 c_t_work)] sz)) 542 [(0, .ref h_t), (1, .int y1), (2, .int y2), (3, .int y3)] [] [(h_t, oR A_t d_t_many d_t_below d_t_above1 d_t_below1), (A_t 0, eI cI 242 d_t_now), (A_t 2, eI cI 6 d_t_heapOf), (A_t 3, eI cI 6 d_t_partOf), (A_t 4, eI cI 6 d_t_place), (A_t 5, eJ cJ 36 d_t_matrix), (A_t 6, eJ cJ 6 d_t_right), (A_t 7, eJ cJ 6 d_t_force), (A_t 8, eJ cJ 216 w0)] → yG p l e (headSpec wsX5_solves rmX5_solves).room s m (List.toArray [.ref h_t]) below meth c D (va_A [(h_t, oR A_t c_t_many c_t_below c_t_above1 c_t_below1), (A_t 0, eI cI 242 c_t_now), (A_t 2, eI cI 6 c_t_heapOf), (A_t 3, eI cI 6 c_t_partOf), (A_t 4, eI cI 6 c_t_place), (A_t 5, eJ cJ 36 c_t_matrix), (A_t 6, eJ cJ 6 c_t_right), (A_t 7, eJ cJ 6 c_t_force), (A_t 8, eJ cJ 216 c_t_work)] sz) 6 0 0 (MQ below (yQv D (yT cI cJ cZ cW cR) [(h_t, oR A_t c_t_many zc_t_below c_t_above1 c_t_below1), (A_t 0, eI cI 242 c_t_now), (A_t 2, eI cI 6 zc_t_heapOf), (A_t 3, eI cI 6 zc_t_partOf), (A_t 4, eI cI 6 zc_t_place), (A_t 5, eJ cJ 36 zc_t_matrix), (A_t 6, eJ cJ 6 zc_t_right), (A_t 7, eJ cJ 6 zc_t_force), (A_t 8, eJ cJ 216 zc_t_work)] (va_A [(h_t, oR A_t c_t_many c_t_below c_t_above1 c_t_below1), (A_t 0, eI cI 242 c_t_now), (A_t 2, eI cI 6 c_t_heapOf), (A_t 3, eI cI 6 c_t_partOf), (A_t 4, eI cI 6 c_t_place), (A_t 5, eJ cJ 36 c_t_matrix), (A_t 6, eJ cJ 6 c_t_right), (A_t 7, eJ cJ 6 c_t_force), (A_t 8, eJ cJ 216 c_t_work)] sz)) (List.toArray [.ref h_t]) s 0 0 (va_A [(h_t, oR A_t c_t_many c_t_below c_t_above1 c_t_below1), (A_t 0, eI cI 242 c_t_now), (A_t 2, eI cI 6 c_t_heapOf), (A_t 3, eI cI 6 c_t_partOf), (A_t 4, eI cI 6 c_t_place), (A_t 5, eJ cJ 36 c_t_matrix), (A_t 6, eJ cJ 6 c_t_right), (A_t 7, eJ cJ 6 c_t_force), (A_t 8, eJ cJ 216 c_t_work)] sz)) 486 [(0, .ref h_t), (1, .int y1), (2, .int y2), (3, .int y3), (4, .int y4)] [] [(h_t, oR A_t d_t_many d_t_below d_t_above1 d_t_below1), (A_t 0, eI cI 242 d_t_now), (A_t 2, eI cI 6 d_t_heapOf), (A_t 3, eI cI 6 d_t_partOf), (A_t 4, eI cI 6 d_t_place), (A_t 5, eJ cJ 36 d_t_matrix), (A_t 6, eJ cJ 6 d_t_right), (A_t 7, eJ cJ 6 d_t_force), (A_t 8, eJ cJ 216 d_t_work)] := by
    intro n
    induction n with
    | zero =>
      intro y1 y2 y3 y4 d_t_many d_t_below d_t_above1 d_t_below1 d_t_now d_t_heapOf d_t_partOf d_t_place d_t_matrix d_t_right d_t_force d_t_work w0 hf
      cases hf
    | succ n ih =>
      intro y1 y2 y3 y4 d_t_many d_t_below d_t_above1 d_t_below1 d_t_now d_t_heapOf d_t_partOf d_t_place d_t_matrix d_t_right d_t_force d_t_work w0 hf hk
      unfold fX5_solves_L486 at hf
      refine g_iload Γ 4 dX5_solves_486 rfl ?_
      refine g_iload_n Γ 1 dX5_solves_488 rfl ?_
      refine g_icmp_ge Γ 542 dX5_solves_489 (by decide) (fun c200 => ?_) (fun c200 => ?_)
      · have hf := ya_if1 c200 hf
        cases hf
        refine g_lv [0, 1, 2, 3] rfl ?_
        exact hk
      · have hf := ya_if2 c200 hf
        refine g_aload_n Γ 0 dX5_solves_492 rfl ?_
        refine g_get Γ fX5_solves_35 0 rfl rfl dX5_solves_493 ?_
        refine g_bipush (v := 6) Γ dX5_solves_496 (by decide) ?_
        refine g_iload_n Γ 3 dX5_solves_498 rfl ?_
        refine g_imul Γ dX5_solves_499 ?_
        refine g_iload Γ 4 dX5_solves_500 rfl ?_
        refine g_iadd Γ dX5_solves_502 ?_
        refine g_iload Γ 4 dX5_solves_503 rfl ?_
        refine g_aload_n Γ 0 dX5_solves_505 rfl ?_
        refine g_get Γ fX5_solves_22 0 rfl rfl dX5_solves_506 ?_
        refine g_iload_n Γ 2 dX5_solves_509 rfl ?_
        obtain ⟨v201, e202, hf⟩ := ya_ob hf
        refine g_iald Γ e202 4 0 rfl rfl dX5_solves_510 ?_
        refine g_icmp_ne Γ 523 dX5_solves_511 (by decide) (fun c203 => ?_) (fun c203 => ?_)
        · have hf := ya_if2 c203 hf
          refine g_aload_n Γ 0 dX5_solves_523 rfl ?_
          refine g_get Γ fX5_solves_25 0 rfl rfl dX5_solves_524 ?_
          refine g_bipush (v := 6) Γ dX5_solves_527 (by decide) ?_
          refine g_iload_n Γ 3 dX5_solves_529 rfl ?_
          refine g_imul Γ dX5_solves_530 ?_
          refine g_iload Γ 4 dX5_solves_531 rfl ?_
          refine g_iadd Γ dX5_solves_533 ?_
          obtain ⟨v204, e205, hf⟩ := ya_ob hf
          refine g_lald Γ e205 5 1 rfl rfl dX5_solves_534 ?_
          obtain ⟨v206, e207, hf⟩ := ya_ob hf
          refine g_last (ws' := [(h_t, oR A_t d_t_many d_t_below d_t_above1 d_t_below1), (A_t 0, eI cI 242 d_t_now), (A_t 2, eI cI 6 d_t_heapOf), (A_t 3, eI cI 6 d_t_partOf), (A_t 4, eI cI 6 d_t_place), (A_t 5, eJ cJ 36 d_t_matrix), (A_t 6, eJ cJ 6 d_t_right), (A_t 7, eJ cJ 6 d_t_force), (A_t 8, eJ cJ 216 v206)]) Γ e207 8 1 rfl rfl dX5_solves_535 rfl ?_
          obtain ⟨v208, e209, hf⟩ := ya_lt_inv hf
          refine g_iinc (lv' := [(4, .int v208), (0, .ref h_t), (1, .int y1), (2, .int y2), (3, .int y3)]) Γ 4 dX5_solves_536 rfl (by rw [e209]; rfl) (by decide) rfl ?_
          refine g_goto Γ 486 dX5_solves_539 (by decide) ?_
          refine g_lv [1, 2, 3, 4, 0] rfl ?_
          exact ih _ _ _ _ _ _ _ _ _ _ _ _ _ _ _ _ _ hf hk
        · have hf := ya_if1 c203 hf
          refine g_aload_n Γ 0 dX5_solves_514 rfl ?_
          refine g_get Γ fX5_solves_29 0 rfl rfl dX5_solves_515 ?_
          refine g_iload_n Γ 3 dX5_solves_518 rfl ?_
          obtain ⟨v210, e211, hf⟩ := ya_ob hf
          refine g_lald Γ e211 6 1 rfl rfl dX5_solves_519 ?_
          refine g_goto Γ 535 dX5_solves_520 (by decide) ?_
          obtain ⟨v212, e213, hf⟩ := ya_ob hf
          refine g_last (ws' := [(h_t, oR A_t d_t_many d_t_below d_t_above1 d_t_below1), (A_t 0, eI cI 242 d_t_now), (A_t 2, eI cI 6 d_t_heapOf), (A_t 3, eI cI 6 d_t_partOf), (A_t 4, eI cI 6 d_t_place), (A_t 5, eJ cJ 36 d_t_matrix), (A_t 6, eJ cJ 6 d_t_right), (A_t 7, eJ cJ 6 d_t_force), (A_t 8, eJ cJ 216 v212)]) Γ e213 8 1 rfl rfl dX5_solves_535 rfl ?_
          obtain ⟨v214, e215, hf⟩ := ya_lt_inv hf
          refine g_iinc (lv' := [(4, .int v214), (0, .ref h_t), (1, .int y1), (2, .int y2), (3, .int y3)]) Γ 4 dX5_solves_536 rfl (by rw [e215]; rfl) (by decide) rfl ?_
          refine g_goto Γ 486 dX5_solves_539 (by decide) ?_
          refine g_lv [1, 2, 3, 4, 0] rfl ?_
          exact ih _ _ _ _ _ _ _ _ _ _ _ _ _ _ _ _ _ hf hk
  have loop478 : ∀ (n : Nat) (y1 : Int32) (y2 : Int32) (y3 : Int32) (d_t_many : Int32) (d_t_below : Int64) (d_t_above1 : Int64) (d_t_below1 : Int64) (d_t_now : Nat → Int32) (d_t_heapOf : Nat → Int32) (d_t_partOf : Nat → Int32) (d_t_place : Nat → Int32) (d_t_matrix : Nat → Int64) (d_t_right : Nat → Int64) (d_t_force : Nat → Int64) (d_t_work : Nat → Int64) (w0 : Nat → Int64), fX5_solves_L478 N n y1 y2 y3 d_t_place d_t_matrix d_t_right d_t_work = some w0 → yG p l e (headSpec wsX5_solves rmX5_solves).room s m (List.toArray [.ref h_t]) below meth c D (va_A [(h_t, oR A_t c_t_many c_t_below c_t_above1 c_t_below1), (A_t 0, eI cI 242 c_t_now), (A_t 2, eI cI 6 c_t_heapOf), (A_t 3, eI cI 6 c_t_partOf), (A_t 4, eI cI 6 c_t_place), (A_t 5, eJ cJ 36 c_t_matrix), (A_t 6, eJ cJ 6 c_t_right), (A_t 7, eJ cJ 6 c_t_force), (A_t 8, eJ cJ 216 c_t_work)] sz) 6 0 0 (MQ below (yQv D (yT cI cJ cZ cW cR) [(h_t, oR A_t c_t_many zc_t_below c_t_above1 c_t_below1), (A_t 0, eI cI 242 c_t_now), (A_t 2, eI cI 6 zc_t_heapOf), (A_t 3, eI cI 6 zc_t_partOf), (A_t 4, eI cI 6 zc_t_place), (A_t 5, eJ cJ 36 zc_t_matrix), (A_t 6, eJ cJ 6 zc_t_right), (A_t 7, eJ cJ 6 zc_t_force), (A_t 8, eJ cJ 216 zc_t_work)] (va_A [(h_t, oR A_t c_t_many c_t_below c_t_above1 c_t_below1), (A_t 0, eI cI 242 c_t_now), (A_t 2, eI cI 6 c_t_heapOf), (A_t 3, eI cI 6 c_t_partOf), (A_t 4, eI cI 6 c_t_place), (A_t 5, eJ cJ 36 c_t_matrix), (A_t 6, eJ cJ 6 c_t_right), (A_t 7, eJ cJ 6 c_t_force), (A_t 8, eJ cJ 216 c_t_work)] sz)) (List.toArray [.ref h_t]) s 0 0 (va_A [(h_t, oR A_t c_t_many c_t_below c_t_above1 c_t_below1), (A_t 0, eI cI 242 c_t_now), (A_t 2, eI cI 6 c_t_heapOf), (A_t 3, eI cI 6 c_t_partOf), (A_t 4, eI cI 6 c_t_place), (A_t 5, eJ cJ 36 c_t_matrix), (A_t 6, eJ cJ 6 c_t_right), (A_t 7, eJ cJ 6 c_t_force), (A_t 8, eJ cJ 216 c_t_work)] sz)) 548 [(0, .ref h_t), (1, .int y1), (2, .int y2)] [] [(h_t, oR A_t d_t_many d_t_below d_t_above1 d_t_below1), (A_t 0, eI cI 242 d_t_now), (A_t 2, eI cI 6 d_t_heapOf), (A_t 3, eI cI 6 d_t_partOf), (A_t 4, eI cI 6 d_t_place), (A_t 5, eJ cJ 36 d_t_matrix), (A_t 6, eJ cJ 6 d_t_right), (A_t 7, eJ cJ 6 d_t_force), (A_t 8, eJ cJ 216 w0)] → yG p l e (headSpec wsX5_solves rmX5_solves).room s m (List.toArray [.ref h_t]) below meth c D (va_A [(h_t, oR A_t c_t_many c_t_below c_t_above1 c_t_below1), (A_t 0, eI cI 242 c_t_now), (A_t 2, eI cI 6 c_t_heapOf), (A_t 3, eI cI 6 c_t_partOf), (A_t 4, eI cI 6 c_t_place), (A_t 5, eJ cJ 36 c_t_matrix), (A_t 6, eJ cJ 6 c_t_right), (A_t 7, eJ cJ 6 c_t_force), (A_t 8, eJ cJ 216 c_t_work)] sz) 6 0 0 (MQ below (yQv D (yT cI cJ cZ cW cR) [(h_t, oR A_t c_t_many zc_t_below c_t_above1 c_t_below1), (A_t 0, eI cI 242 c_t_now), (A_t 2, eI cI 6 zc_t_heapOf), (A_t 3, eI cI 6 zc_t_partOf), (A_t 4, eI cI 6 zc_t_place), (A_t 5, eJ cJ 36 zc_t_matrix), (A_t 6, eJ cJ 6 zc_t_right), (A_t 7, eJ cJ 6 zc_t_force), (A_t 8, eJ cJ 216 zc_t_work)] (va_A [(h_t, oR A_t c_t_many c_t_below c_t_above1 c_t_below1), (A_t 0, eI cI 242 c_t_now), (A_t 2, eI cI 6 c_t_heapOf), (A_t 3, eI cI 6 c_t_partOf), (A_t 4, eI cI 6 c_t_place), (A_t 5, eJ cJ 36 c_t_matrix), (A_t 6, eJ cJ 6 c_t_right), (A_t 7, eJ cJ 6 c_t_force), (A_t 8, eJ cJ 216 c_t_work)] sz)) (List.toArray [.ref h_t]) s 0 0 (va_A [(h_t, oR A_t c_t_many c_t_below c_t_above1 c_t_below1), (A_t 0, eI cI 242 c_t_now), (A_t 2, eI cI 6 c_t_heapOf), (A_t 3, eI cI 6 c_t_partOf), (A_t 4, eI cI 6 c_t_place), (A_t 5, eJ cJ 36 c_t_matrix), (A_t 6, eJ cJ 6 c_t_right), (A_t 7, eJ cJ 6 c_t_force), (A_t 8, eJ cJ 216 c_t_work)] sz)) 478 [(0, .ref h_t), (1, .int y1), (2, .int y2), (3, .int y3)] [] [(h_t, oR A_t d_t_many d_t_below d_t_above1 d_t_below1), (A_t 0, eI cI 242 d_t_now), (A_t 2, eI cI 6 d_t_heapOf), (A_t 3, eI cI 6 d_t_partOf), (A_t 4, eI cI 6 d_t_place), (A_t 5, eJ cJ 36 d_t_matrix), (A_t 6, eJ cJ 6 d_t_right), (A_t 7, eJ cJ 6 d_t_force), (A_t 8, eJ cJ 216 d_t_work)] := by
    intro n
    induction n with
    | zero =>
      intro y1 y2 y3 d_t_many d_t_below d_t_above1 d_t_below1 d_t_now d_t_heapOf d_t_partOf d_t_place d_t_matrix d_t_right d_t_force d_t_work w0 hf
      cases hf
    | succ n ih =>
      intro y1 y2 y3 d_t_many d_t_below d_t_above1 d_t_below1 d_t_now d_t_heapOf d_t_partOf d_t_place d_t_matrix d_t_right d_t_force d_t_work w0 hf hk
      unfold fX5_solves_L478 at hf
      refine g_iload_n Γ 3 dX5_solves_478 rfl ?_
      refine g_iload_n Γ 1 dX5_solves_479 rfl ?_
      refine g_icmp_ge Γ 548 dX5_solves_480 (by decide) (fun c199 => ?_) (fun c199 => ?_)
      · have hf := ya_if1 c199 hf
        cases hf
        refine g_lv [0, 1, 2] rfl ?_
        exact hk
      · have hf := ya_if2 c199 hf
        refine g_iconst (v := 0) Γ dX5_solves_483 (by decide) ?_
        refine g_istore (lv' := [(4, .int 0), (0, .ref h_t), (1, .int y1), (2, .int y2), (3, .int y3)]) Γ dX5_solves_484 (by decide) rfl ?_
        obtain ⟨v216, e217, hf⟩ := ya_ob hf
        refine g_lv [1, 2, 3, 4, 0] rfl ?_
        refine loop486 N _ _ _ _ _ _ _ _ _ _ _ _ _ _ _ _ _ e217  ?_
        obtain ⟨v218, e219, hf⟩ := ya_lt_inv hf
        refine g_iinc (lv' := [(3, .int v218), (0, .ref h_t), (1, .int y1), (2, .int y2)]) Γ 3 dX5_solves_542 rfl (by rw [e219]; rfl) (by decide) rfl ?_
        refine g_goto Γ 478 dX5_solves_545 (by decide) ?_
        refine g_lv [1, 2, 3, 0] rfl ?_
        exact ih _ _ _ _ _ _ _ _ _ _ _ _ _ _ _ _ hf hk
  have loop448 : ∀ (n : Nat) (y1 : Int32) (y2 : Int32) (d_t_many : Int32) (d_t_below : Int64) (d_t_above1 : Int64) (d_t_below1 : Int64) (d_t_now : Nat → Int32) (d_t_heapOf : Nat → Int32) (d_t_partOf : Nat → Int32) (d_t_place : Nat → Int32) (d_t_matrix : Nat → Int64) (d_t_right : Nat → Int64) (d_t_force : Nat → Int64) (d_t_work : Nat → Int64) (w0 : Nat → Int64) (w1 : Nat → Int64), fX5_solves_L448 N n y1 y2 d_t_now d_t_place d_t_matrix d_t_right d_t_force d_t_work = some (w0, w1) → yG p l e (headSpec wsX5_solves rmX5_solves).room s m (List.toArray [.ref h_t]) below meth c D (va_A [(h_t, oR A_t c_t_many c_t_below c_t_above1 c_t_below1), (A_t 0, eI cI 242 c_t_now), (A_t 2, eI cI 6 c_t_heapOf), (A_t 3, eI cI 6 c_t_partOf), (A_t 4, eI cI 6 c_t_place), (A_t 5, eJ cJ 36 c_t_matrix), (A_t 6, eJ cJ 6 c_t_right), (A_t 7, eJ cJ 6 c_t_force), (A_t 8, eJ cJ 216 c_t_work)] sz) 6 0 0 (MQ below (yQv D (yT cI cJ cZ cW cR) [(h_t, oR A_t c_t_many zc_t_below c_t_above1 c_t_below1), (A_t 0, eI cI 242 c_t_now), (A_t 2, eI cI 6 zc_t_heapOf), (A_t 3, eI cI 6 zc_t_partOf), (A_t 4, eI cI 6 zc_t_place), (A_t 5, eJ cJ 36 zc_t_matrix), (A_t 6, eJ cJ 6 zc_t_right), (A_t 7, eJ cJ 6 zc_t_force), (A_t 8, eJ cJ 216 zc_t_work)] (va_A [(h_t, oR A_t c_t_many c_t_below c_t_above1 c_t_below1), (A_t 0, eI cI 242 c_t_now), (A_t 2, eI cI 6 c_t_heapOf), (A_t 3, eI cI 6 c_t_partOf), (A_t 4, eI cI 6 c_t_place), (A_t 5, eJ cJ 36 c_t_matrix), (A_t 6, eJ cJ 6 c_t_right), (A_t 7, eJ cJ 6 c_t_force), (A_t 8, eJ cJ 216 c_t_work)] sz)) (List.toArray [.ref h_t]) s 0 0 (va_A [(h_t, oR A_t c_t_many c_t_below c_t_above1 c_t_below1), (A_t 0, eI cI 242 c_t_now), (A_t 2, eI cI 6 c_t_heapOf), (A_t 3, eI cI 6 c_t_partOf), (A_t 4, eI cI 6 c_t_place), (A_t 5, eJ cJ 36 c_t_matrix), (A_t 6, eJ cJ 6 c_t_right), (A_t 7, eJ cJ 6 c_t_force), (A_t 8, eJ cJ 216 c_t_work)] sz)) 566 [] [] [(h_t, oR A_t d_t_many d_t_below d_t_above1 d_t_below1), (A_t 0, eI cI 242 d_t_now), (A_t 2, eI cI 6 d_t_heapOf), (A_t 3, eI cI 6 d_t_partOf), (A_t 4, eI cI 6 d_t_place), (A_t 5, eJ cJ 36 d_t_matrix), (A_t 6, eJ cJ 6 d_t_right), (A_t 7, eJ cJ 6 w0), (A_t 8, eJ cJ 216 w1)] → yG p l e (headSpec wsX5_solves rmX5_solves).room s m (List.toArray [.ref h_t]) below meth c D (va_A [(h_t, oR A_t c_t_many c_t_below c_t_above1 c_t_below1), (A_t 0, eI cI 242 c_t_now), (A_t 2, eI cI 6 c_t_heapOf), (A_t 3, eI cI 6 c_t_partOf), (A_t 4, eI cI 6 c_t_place), (A_t 5, eJ cJ 36 c_t_matrix), (A_t 6, eJ cJ 6 c_t_right), (A_t 7, eJ cJ 6 c_t_force), (A_t 8, eJ cJ 216 c_t_work)] sz) 6 0 0 (MQ below (yQv D (yT cI cJ cZ cW cR) [(h_t, oR A_t c_t_many zc_t_below c_t_above1 c_t_below1), (A_t 0, eI cI 242 c_t_now), (A_t 2, eI cI 6 zc_t_heapOf), (A_t 3, eI cI 6 zc_t_partOf), (A_t 4, eI cI 6 zc_t_place), (A_t 5, eJ cJ 36 zc_t_matrix), (A_t 6, eJ cJ 6 zc_t_right), (A_t 7, eJ cJ 6 zc_t_force), (A_t 8, eJ cJ 216 zc_t_work)] (va_A [(h_t, oR A_t c_t_many c_t_below c_t_above1 c_t_below1), (A_t 0, eI cI 242 c_t_now), (A_t 2, eI cI 6 c_t_heapOf), (A_t 3, eI cI 6 c_t_partOf), (A_t 4, eI cI 6 c_t_place), (A_t 5, eJ cJ 36 c_t_matrix), (A_t 6, eJ cJ 6 c_t_right), (A_t 7, eJ cJ 6 c_t_force), (A_t 8, eJ cJ 216 c_t_work)] sz)) (List.toArray [.ref h_t]) s 0 0 (va_A [(h_t, oR A_t c_t_many c_t_below c_t_above1 c_t_below1), (A_t 0, eI cI 242 c_t_now), (A_t 2, eI cI 6 c_t_heapOf), (A_t 3, eI cI 6 c_t_partOf), (A_t 4, eI cI 6 c_t_place), (A_t 5, eJ cJ 36 c_t_matrix), (A_t 6, eJ cJ 6 c_t_right), (A_t 7, eJ cJ 6 c_t_force), (A_t 8, eJ cJ 216 c_t_work)] sz)) 448 [(0, .ref h_t), (1, .int y1), (2, .int y2)] [] [(h_t, oR A_t d_t_many d_t_below d_t_above1 d_t_below1), (A_t 0, eI cI 242 d_t_now), (A_t 2, eI cI 6 d_t_heapOf), (A_t 3, eI cI 6 d_t_partOf), (A_t 4, eI cI 6 d_t_place), (A_t 5, eJ cJ 36 d_t_matrix), (A_t 6, eJ cJ 6 d_t_right), (A_t 7, eJ cJ 6 d_t_force), (A_t 8, eJ cJ 216 d_t_work)] := by
    intro n
    induction n with
    | zero =>
      intro y1 y2 d_t_many d_t_below d_t_above1 d_t_below1 d_t_now d_t_heapOf d_t_partOf d_t_place d_t_matrix d_t_right d_t_force d_t_work w0 w1 hf
      cases hf
    | succ n ih =>
      intro y1 y2 d_t_many d_t_below d_t_above1 d_t_below1 d_t_now d_t_heapOf d_t_partOf d_t_place d_t_matrix d_t_right d_t_force d_t_work w0 w1 hf hk
      unfold fX5_solves_L448 at hf
      refine g_iload_n Γ 2 dX5_solves_448 rfl ?_
      refine g_aload_n Γ 0 dX5_solves_449 rfl ?_
      obtain ⟨v191, e192, hf⟩ := ya_ob hf
      refine g_vi (q := (RX5, TX5, 19)) (wr := [(A_t 2, eI cI 6 d_t_heapOf), (A_t 3, eI cI 6 d_t_partOf), (A_t 4, eI cI 6 d_t_place), (A_t 5, eJ cJ 36 d_t_matrix), (A_t 6, eJ cJ 6 d_t_right), (A_t 7, eJ cJ 6 d_t_force), (A_t 8, eJ cJ 216 d_t_work)]) (ws' := [(A_t 2, eI cI 6 d_t_heapOf), (A_t 3, eI cI 6 d_t_partOf), (A_t 4, eI cI 6 d_t_place), (A_t 5, eJ cJ 36 d_t_matrix), (A_t 6, eJ cJ 6 d_t_right), (A_t 7, eJ cJ 6 d_t_force), (A_t 8, eJ cJ 216 d_t_work), (h_t, oR A_t d_t_many d_t_below d_t_above1 d_t_below1), (A_t 0, eI cI 242 d_t_now)]) Γ (fun sz => mX5_knots (l := l) (D := D) (sz := sz) (cI := cI) (cJ := cJ) (cZ := cZ) (cW := cW) (cR := cR) (h_t := h_t) (A_t := A_t) (hf := e192)) eX5_knots gX5_solves_X5_knots rfl rfl 0 rfl rfl rfl (Nat.le_of_ble_eq_true rfl) ⟨Nat.le_of_ble_eq_true rfl, Nat.le_of_ble_eq_true rfl⟩ dX5_solves_450 [0, 1] [2, 3, 4, 5, 6, 7, 8] rfl rfl rfl rfl (by decide) rfl ?_
      refine g_icmp_ge Γ 566 dX5_solves_453 (by decide) (fun c193 => ?_) (fun c193 => ?_)
      · have hf := ya_if1 c193 hf
        cases hf
        refine g_lv [] rfl ?_
        refine g_ws (ws' := [(h_t, oR A_t d_t_many d_t_below d_t_above1 d_t_below1), (A_t 0, eI cI 242 d_t_now), (A_t 2, eI cI 6 d_t_heapOf), (A_t 3, eI cI 6 d_t_partOf), (A_t 4, eI cI 6 d_t_place), (A_t 5, eJ cJ 36 d_t_matrix), (A_t 6, eJ cJ 6 d_t_right), (A_t 7, eJ cJ 6 d_t_force), (A_t 8, eJ cJ 216 d_t_work)]) [7, 8, 0, 1, 2, 3, 4, 5, 6] rfl rfl ?_
        exact hk
      · have hf := ya_if2 c193 hf
        refine g_aload_n Γ 0 dX5_solves_456 rfl ?_
        refine g_get Γ fX5_solves_32 7 rfl rfl dX5_solves_457 ?_
        refine g_iload_n Γ 2 dX5_solves_460 rfl ?_
        refine g_lconst (v := 0) Γ dX5_solves_461 (by decide) ?_
        obtain ⟨v194, e195, hf⟩ := ya_ob hf
        refine g_last (ws' := [(A_t 2, eI cI 6 d_t_heapOf), (A_t 3, eI cI 6 d_t_partOf), (A_t 4, eI cI 6 d_t_place), (A_t 5, eJ cJ 36 d_t_matrix), (A_t 6, eJ cJ 6 d_t_right), (A_t 7, eJ cJ 6 v194), (A_t 8, eJ cJ 216 d_t_work), (h_t, oR A_t d_t_many d_t_below d_t_above1 d_t_below1), (A_t 0, eI cI 242 d_t_now)]) Γ e195 5 1 rfl rfl dX5_solves_462 rfl ?_
        refine g_aload_n Γ 0 dX5_solves_463 rfl ?_
        refine g_get Γ fX5_solves_22 7 rfl rfl dX5_solves_464 ?_
        refine g_iload_n Γ 2 dX5_solves_467 rfl ?_
        obtain ⟨v196, e197, hf⟩ := ya_ob hf
        refine g_iald Γ e197 2 0 rfl rfl dX5_solves_468 ?_
        refine g_iconst (v := (-1)) Γ dX5_solves_469 (by decide) ?_
        refine g_icmp_ne Γ 476 dX5_solves_470 (by decide) (fun c198 => ?_) (fun c198 => ?_)
        · have hf := ya_if2 c198 hf
          refine g_iconst (v := 0) Γ dX5_solves_476 (by decide) ?_
          refine g_istore_n (lv' := [(3, .int 0), (0, .ref h_t), (1, .int y1), (2, .int y2)]) Γ dX5_solves_477 (by decide) rfl ?_
          obtain ⟨v220, e221, hf⟩ := ya_ob hf
          refine g_lv [1, 2, 3, 0] rfl ?_
          refine g_ws (ws' := [(h_t, oR A_t d_t_many d_t_below d_t_above1 d_t_below1), (A_t 0, eI cI 242 d_t_now), (A_t 2, eI cI 6 d_t_heapOf), (A_t 3, eI cI 6 d_t_partOf), (A_t 4, eI cI 6 d_t_place), (A_t 5, eJ cJ 36 d_t_matrix), (A_t 6, eJ cJ 6 d_t_right), (A_t 7, eJ cJ 6 v194), (A_t 8, eJ cJ 216 d_t_work)]) [7, 8, 0, 1, 2, 3, 4, 5, 6] rfl rfl ?_
          refine loop478 N _ _ _ _ _ _ _ _ _ _ _ _ _ _ _ _ e221  ?_
          refine g_aload_n Γ 0 dX5_solves_548 rfl ?_
          refine g_get Γ fX5_solves_32 0 rfl rfl dX5_solves_549 ?_
          refine g_iload_n Γ 2 dX5_solves_552 rfl ?_
          refine g_aload_n Γ 0 dX5_solves_553 rfl ?_
          refine g_iload_n Γ 1 dX5_solves_554 rfl ?_
          refine g_iconst (v := 0) Γ dX5_solves_555 (by decide) ?_
          obtain ⟨⟨v222, v223⟩, e224, hf⟩ := ya_ob hf
          refine g_vl (q := (RX5, TX5, 19)) (wr := [(A_t 0, eI cI 242 d_t_now), (A_t 2, eI cI 6 d_t_heapOf), (A_t 3, eI cI 6 d_t_partOf), (A_t 4, eI cI 6 d_t_place), (A_t 5, eJ cJ 36 d_t_matrix), (A_t 6, eJ cJ 6 d_t_right), (A_t 7, eJ cJ 6 v194)]) (ws' := [(A_t 0, eI cI 242 d_t_now), (A_t 2, eI cI 6 d_t_heapOf), (A_t 3, eI cI 6 d_t_partOf), (A_t 4, eI cI 6 d_t_place), (A_t 5, eJ cJ 36 d_t_matrix), (A_t 6, eJ cJ 6 d_t_right), (A_t 7, eJ cJ 6 v194), (h_t, oR A_t d_t_many d_t_below d_t_above1 d_t_below1), (A_t 8, eJ cJ 216 v223)]) Γ (fun sz => mX5_determinant 7 (l := l) (D := D) (sz := sz) (cI := cI) (cJ := cJ) (cZ := cZ) (cW := cW) (cR := cR) (h_t := h_t) (A_t := A_t) (hf := e224)) (eX5_determinant _) gX5_solves_X5_determinant rfl rfl 0 rfl rfl rfl (Nat.le_of_ble_eq_true rfl) ⟨Nat.le_of_ble_eq_true rfl, Nat.le_of_ble_eq_true rfl⟩ dX5_solves_556 [0, 8] [1, 2, 3, 4, 5, 6, 7] rfl rfl rfl rfl (by decide) rfl ?_
          obtain ⟨v225, e226, hf⟩ := ya_ob hf
          refine g_last (ws' := [(A_t 0, eI cI 242 d_t_now), (A_t 2, eI cI 6 d_t_heapOf), (A_t 3, eI cI 6 d_t_partOf), (A_t 4, eI cI 6 d_t_place), (A_t 5, eJ cJ 36 d_t_matrix), (A_t 6, eJ cJ 6 d_t_right), (A_t 7, eJ cJ 6 v225), (h_t, oR A_t d_t_many d_t_below d_t_above1 d_t_below1), (A_t 8, eJ cJ 216 v223)]) Γ e226 6 1 rfl rfl dX5_solves_559 rfl ?_
          obtain ⟨v227, e228, hf⟩ := ya_lt_inv hf
          refine g_iinc (lv' := [(2, .int v227), (0, .ref h_t), (1, .int y1)]) Γ 2 dX5_solves_560 rfl (by rw [e228]; rfl) (by decide) rfl ?_
          refine g_goto Γ 448 dX5_solves_563 (by decide) ?_
          refine g_lv [1, 2, 0] rfl ?_
          refine g_ws (ws' := [(h_t, oR A_t d_t_many d_t_below d_t_above1 d_t_below1), (A_t 0, eI cI 242 d_t_now), (A_t 2, eI cI 6 d_t_heapOf), (A_t 3, eI cI 6 d_t_partOf), (A_t 4, eI cI 6 d_t_place), (A_t 5, eJ cJ 36 d_t_matrix), (A_t 6, eJ cJ 6 d_t_right), (A_t 7, eJ cJ 6 v225), (A_t 8, eJ cJ 216 v223)]) [7, 0, 1, 2, 3, 4, 5, 6, 8] rfl rfl ?_
          exact ih _ _ _ _ _ _ _ _ _ _ _ _ _ _ _ _ hf hk
        · have hf := ya_if1 c198 hf
          refine g_goto Γ 560 dX5_solves_473 (by decide) ?_
          obtain ⟨v229, e230, hf⟩ := ya_lt_inv hf
          refine g_iinc (lv' := [(2, .int v229), (0, .ref h_t), (1, .int y1)]) Γ 2 dX5_solves_560 rfl (by rw [e230]; rfl) (by decide) rfl ?_
          refine g_goto Γ 448 dX5_solves_563 (by decide) ?_
          refine g_lv [1, 2, 0] rfl ?_
          refine g_ws (ws' := [(h_t, oR A_t d_t_many d_t_below d_t_above1 d_t_below1), (A_t 0, eI cI 242 d_t_now), (A_t 2, eI cI 6 d_t_heapOf), (A_t 3, eI cI 6 d_t_partOf), (A_t 4, eI cI 6 d_t_place), (A_t 5, eJ cJ 36 d_t_matrix), (A_t 6, eJ cJ 6 d_t_right), (A_t 7, eJ cJ 6 v194), (A_t 8, eJ cJ 216 d_t_work)]) [7, 8, 0, 1, 2, 3, 4, 5, 6] rfl rfl ?_
          exact ih _ _ _ _ _ _ _ _ _ _ _ _ _ _ _ _ hf hk
  show yG p l e (headSpec wsX5_solves rmX5_solves).room s m (List.toArray [.ref h_t]) below meth c D (va_A [(h_t, oR A_t c_t_many c_t_below c_t_above1 c_t_below1), (A_t 0, eI cI 242 c_t_now), (A_t 2, eI cI 6 c_t_heapOf), (A_t 3, eI cI 6 c_t_partOf), (A_t 4, eI cI 6 c_t_place), (A_t 5, eJ cJ 36 c_t_matrix), (A_t 6, eJ cJ 6 c_t_right), (A_t 7, eJ cJ 6 c_t_force), (A_t 8, eJ cJ 216 c_t_work)] sz) 6 0 0 (MQ below (yQv D (yT cI cJ cZ cW cR) [(h_t, oR A_t c_t_many zc_t_below c_t_above1 c_t_below1), (A_t 0, eI cI 242 c_t_now), (A_t 2, eI cI 6 zc_t_heapOf), (A_t 3, eI cI 6 zc_t_partOf), (A_t 4, eI cI 6 zc_t_place), (A_t 5, eJ cJ 36 zc_t_matrix), (A_t 6, eJ cJ 6 zc_t_right), (A_t 7, eJ cJ 6 zc_t_force), (A_t 8, eJ cJ 216 zc_t_work)] (va_A [(h_t, oR A_t c_t_many c_t_below c_t_above1 c_t_below1), (A_t 0, eI cI 242 c_t_now), (A_t 2, eI cI 6 c_t_heapOf), (A_t 3, eI cI 6 c_t_partOf), (A_t 4, eI cI 6 c_t_place), (A_t 5, eJ cJ 36 c_t_matrix), (A_t 6, eJ cJ 6 c_t_right), (A_t 7, eJ cJ 6 c_t_force), (A_t 8, eJ cJ 216 c_t_work)] sz)) (List.toArray [.ref h_t]) s 0 0 (va_A [(h_t, oR A_t c_t_many c_t_below c_t_above1 c_t_below1), (A_t 0, eI cI 242 c_t_now), (A_t 2, eI cI 6 c_t_heapOf), (A_t 3, eI cI 6 c_t_partOf), (A_t 4, eI cI 6 c_t_place), (A_t 5, eJ cJ 36 c_t_matrix), (A_t 6, eJ cJ 6 c_t_right), (A_t 7, eJ cJ 6 c_t_force), (A_t 8, eJ cJ 216 c_t_work)] sz)) 0 [(0, .ref h_t)] [] [(h_t, oR A_t c_t_many c_t_below c_t_above1 c_t_below1), (A_t 0, eI cI 242 c_t_now), (A_t 2, eI cI 6 c_t_heapOf), (A_t 3, eI cI 6 c_t_partOf), (A_t 4, eI cI 6 c_t_place), (A_t 5, eJ cJ 36 c_t_matrix), (A_t 6, eJ cJ 6 c_t_right), (A_t 7, eJ cJ 6 c_t_force), (A_t 8, eJ cJ 216 c_t_work)]
  unfold fX5_solves at hf
  refine g_aload_n Γ 0 dX5_solves_0 rfl ?_
  obtain ⟨v1, e2, hf⟩ := ya_ob hf
  refine g_vv (q := (RX5, TX5, 19)) (wr := [(A_t 3, eI cI 6 c_t_partOf), (A_t 4, eI cI 6 c_t_place), (A_t 5, eJ cJ 36 c_t_matrix), (A_t 6, eJ cJ 6 c_t_right), (A_t 7, eJ cJ 6 c_t_force), (A_t 8, eJ cJ 216 c_t_work)]) (ws' := [(A_t 3, eI cI 6 c_t_partOf), (A_t 4, eI cI 6 c_t_place), (A_t 5, eJ cJ 36 c_t_matrix), (A_t 6, eJ cJ 6 c_t_right), (A_t 7, eJ cJ 6 c_t_force), (A_t 8, eJ cJ 216 c_t_work), (h_t, oR A_t c_t_many c_t_below c_t_above1 c_t_below1), (A_t 0, eI cI 242 c_t_now), (A_t 2, eI cI 6 v1)]) Γ (fun sz => mX5_heaps (l := l) (D := D) (sz := sz) (cI := cI) (cJ := cJ) (cZ := cZ) (cW := cW) (cR := cR) (h_t := h_t) (A_t := A_t) (hf := e2)) eX5_heaps gX5_solves_X5_heaps rfl rfl 0 rfl rfl rfl (Nat.le_of_ble_eq_true rfl) ⟨Nat.le_of_ble_eq_true rfl, Nat.le_of_ble_eq_true rfl⟩ dX5_solves_1 [0, 1, 2] [3, 4, 5, 6, 7, 8] rfl rfl rfl rfl (by decide) rfl ?_
  refine g_iconst (v := 0) Γ dX5_solves_4 (by decide) ?_
  refine g_istore_n (lv' := [(1, .int 0), (0, .ref h_t)]) Γ dX5_solves_5 (by decide) rfl ?_
  obtain ⟨v10, e11, hf⟩ := ya_ob hf
  refine g_lv [1, 0] rfl ?_
  refine g_ws (ws' := [(h_t, oR A_t c_t_many c_t_below c_t_above1 c_t_below1), (A_t 0, eI cI 242 c_t_now), (A_t 2, eI cI 6 v1), (A_t 3, eI cI 6 c_t_partOf), (A_t 4, eI cI 6 c_t_place), (A_t 5, eJ cJ 36 c_t_matrix), (A_t 6, eJ cJ 6 c_t_right), (A_t 7, eJ cJ 6 c_t_force), (A_t 8, eJ cJ 216 c_t_work)]) [6, 7, 8, 0, 1, 2, 3, 4, 5] rfl rfl ?_
  refine loop6 N _ _ _ _ _ _ _ _ _ _ _ _ _ _ e11  ?_
  refine g_iconst (v := 0) Γ dX5_solves_30 (by decide) ?_
  refine g_istore_n (lv' := [(1, .int 0), (0, .ref h_t)]) Γ dX5_solves_31 (by decide) rfl ?_
  obtain ⟨v60, e61, hf⟩ := ya_ob hf
  refine g_lv [1, 0] rfl ?_
  refine loop32 N _ _ _ _ _ _ _ _ _ _ _ _ _ _ e61  ?_
  refine g_iconst (v := 0) Γ dX5_solves_142 (by decide) ?_
  refine g_istore_n (lv' := [(1, .int 0), (0, .ref h_t)]) Γ dX5_solves_143 (by decide) rfl ?_
  refine g_iconst (v := 0) Γ dX5_solves_144 (by decide) ?_
  refine g_istore_n (lv' := [(2, .int 0), (1, .int 0), (0, .ref h_t)]) Γ dX5_solves_145 (by decide) rfl ?_
  obtain ⟨⟨v83, v84⟩, e85, hf⟩ := ya_ob hf
  refine g_lv [2, 1, 0] rfl ?_
  refine loop146 N _ _ _ _ _ _ _ _ _ _ _ _ _ _ _ _ e85  ?_
  refine g_iconst (v := 0) Γ dX5_solves_200 (by decide) ?_
  refine g_istore_n (lv' := [(2, .int 0), (0, .ref h_t), (1, .int v83)]) Γ dX5_solves_201 (by decide) rfl ?_
  obtain ⟨v91, e92, hf⟩ := ya_ob hf
  refine g_lv [1, 2, 0] rfl ?_
  refine loop202 N _ _ _ _ _ _ _ _ _ _ _ _ _ _ _ e92  ?_
  refine g_iconst (v := 0) Γ dX5_solves_221 (by decide) ?_
  refine g_istore_n (lv' := [(2, .int 0), (0, .ref h_t), (1, .int v83)]) Γ dX5_solves_222 (by decide) rfl ?_
  obtain ⟨v98, e99, hf⟩ := ya_ob hf
  refine g_lv [1, 2, 0] rfl ?_
  refine loop223 N _ _ _ _ _ _ _ _ _ _ _ _ _ _ _ e99  ?_
  refine g_iconst (v := 0) Γ dX5_solves_242 (by decide) ?_
  refine g_istore_n (lv' := [(2, .int 0), (0, .ref h_t), (1, .int v83)]) Γ dX5_solves_243 (by decide) rfl ?_
  obtain ⟨⟨v176, v177⟩, e178, hf⟩ := ya_ob hf
  refine g_lv [1, 2, 0] rfl ?_
  refine loop244 N _ _ _ _ _ _ _ _ _ _ _ _ _ _ _ _ e178  ?_
  refine g_iconst (v := 0) Γ dX5_solves_410 (by decide) ?_
  refine g_istore_n (lv' := [(2, .int 0), (0, .ref h_t), (1, .int v83)]) Γ dX5_solves_411 (by decide) rfl ?_
  obtain ⟨v186, e187, hf⟩ := ya_ob hf
  refine g_lv [1, 2, 0] rfl ?_
  refine loop412 N _ _ _ _ _ _ _ _ _ _ _ _ _ _ _ e187  ?_
  refine g_aload_n Γ 0 dX5_solves_436 rfl ?_
  refine g_aload_n Γ 0 dX5_solves_437 rfl ?_
  refine g_iload_n Γ 1 dX5_solves_438 rfl ?_
  refine g_iconst (v := 0) Γ dX5_solves_439 (by decide) ?_
  obtain ⟨⟨v188, v189⟩, e190, hf⟩ := ya_ob hf
  refine g_vl (q := (RX5, TX5, 19)) (wr := [(A_t 0, eI cI 242 c_t_now), (A_t 2, eI cI 6 v1), (A_t 3, eI cI 6 v60), (A_t 4, eI cI 6 v84), (A_t 5, eJ cJ 36 v176), (A_t 6, eJ cJ 6 v177), (A_t 7, eJ cJ 6 c_t_force)]) (ws' := [(A_t 0, eI cI 242 c_t_now), (A_t 2, eI cI 6 v1), (A_t 3, eI cI 6 v60), (A_t 4, eI cI 6 v84), (A_t 5, eJ cJ 36 v176), (A_t 6, eJ cJ 6 v177), (A_t 7, eJ cJ 6 c_t_force), (h_t, oR A_t c_t_many c_t_below c_t_above1 c_t_below1), (A_t 8, eJ cJ 216 v189)]) Γ (fun sz => mX5_determinant 7 (l := l) (D := D) (sz := sz) (cI := cI) (cJ := cJ) (cZ := cZ) (cW := cW) (cR := cR) (h_t := h_t) (A_t := A_t) (hf := e190)) (eX5_determinant _) gX5_solves_X5_determinant rfl rfl 0 rfl rfl rfl (Nat.le_of_ble_eq_true rfl) ⟨Nat.le_of_ble_eq_true rfl, Nat.le_of_ble_eq_true rfl⟩ dX5_solves_440 [0, 8] [1, 2, 3, 4, 5, 6, 7] rfl rfl rfl rfl (by decide) rfl ?_
  refine g_put (ws' := [(A_t 0, eI cI 242 c_t_now), (A_t 2, eI cI 6 v1), (A_t 3, eI cI 6 v60), (A_t 4, eI cI 6 v84), (A_t 5, eJ cJ 36 v176), (A_t 6, eJ cJ 6 v177), (A_t 7, eJ cJ 6 c_t_force), (h_t, oR A_t c_t_many v188 c_t_above1 c_t_below1), (A_t 8, eJ cJ 216 v189)]) Γ fX5_solves_104 tyX5_ok nmX5 7 rfl rfl rfl rfl (Nat.le_of_ble_eq_true rfl) dX5_solves_443 rfl ?_
  refine g_iconst (v := 0) Γ dX5_solves_446 (by decide) ?_
  refine g_istore_n (lv' := [(2, .int 0), (0, .ref h_t), (1, .int v83)]) Γ dX5_solves_447 (by decide) rfl ?_
  obtain ⟨⟨v231, v232⟩, e233, hf⟩ := ya_ob hf
  refine g_lv [1, 2, 0] rfl ?_
  refine g_ws (ws' := [(h_t, oR A_t c_t_many v188 c_t_above1 c_t_below1), (A_t 0, eI cI 242 c_t_now), (A_t 2, eI cI 6 v1), (A_t 3, eI cI 6 v60), (A_t 4, eI cI 6 v84), (A_t 5, eJ cJ 36 v176), (A_t 6, eJ cJ 6 v177), (A_t 7, eJ cJ 6 c_t_force), (A_t 8, eJ cJ 216 v189)]) [7, 0, 1, 2, 3, 4, 5, 6, 8] rfl rfl ?_
  refine loop448 N _ _ _ _ _ _ _ _ _ _ _ _ _ _ _ _ e233  ?_
  cases hf
  exact g_vret Γ hr dX5_solves_566 [0, 1, 2, 3, 4, 5, 6, 7, 8] rfl rfl

theorem dX5_common_0 : decode cX5_common 0 = .ok (.lload_n 0, 1) := by decide +kernel
theorem dX5_common_1 : decode cX5_common 1 = .ok (.lconst 0, 1) := by decide +kernel
theorem dX5_common_2 : decode cX5_common 2 = .ok (.lcmp, 1) := by decide +kernel
theorem dX5_common_3 : decode cX5_common 3 = .ok (.ifCond .ge 8, 3) := by decide +kernel
theorem dX5_common_6 : decode cX5_common 6 = .ok (.lload_n 0, 1) := by decide +kernel
theorem dX5_common_7 : decode cX5_common 7 = .ok (.lneg, 1) := by decide +kernel
theorem dX5_common_8 : decode cX5_common 8 = .ok (.goto 4, 3) := by decide +kernel
theorem dX5_common_11 : decode cX5_common 11 = .ok (.lload_n 0, 1) := by decide +kernel
theorem dX5_common_12 : decode cX5_common 12 = .ok (.lstore 4, 2) := by decide +kernel
theorem dX5_common_14 : decode cX5_common 14 = .ok (.lload_n 2, 1) := by decide +kernel
theorem dX5_common_15 : decode cX5_common 15 = .ok (.lstore 6, 2) := by decide +kernel
theorem dX5_common_17 : decode cX5_common 17 = .ok (.lload 6, 2) := by decide +kernel
theorem dX5_common_19 : decode cX5_common 19 = .ok (.lconst 0, 1) := by decide +kernel
theorem dX5_common_20 : decode cX5_common 20 = .ok (.lcmp, 1) := by decide +kernel
theorem dX5_common_21 : decode cX5_common 21 = .ok (.ifCond .eq 21, 3) := by decide +kernel
theorem dX5_common_24 : decode cX5_common 24 = .ok (.lload 4, 2) := by decide +kernel
theorem dX5_common_26 : decode cX5_common 26 = .ok (.lload 6, 2) := by decide +kernel
theorem dX5_common_28 : decode cX5_common 28 = .ok (.lrem, 1) := by decide +kernel
theorem dX5_common_29 : decode cX5_common 29 = .ok (.lstore 8, 2) := by decide +kernel
theorem dX5_common_31 : decode cX5_common 31 = .ok (.lload 6, 2) := by decide +kernel
theorem dX5_common_33 : decode cX5_common 33 = .ok (.lstore 4, 2) := by decide +kernel
theorem dX5_common_35 : decode cX5_common 35 = .ok (.lload 8, 2) := by decide +kernel
theorem dX5_common_37 : decode cX5_common 37 = .ok (.lstore 6, 2) := by decide +kernel
theorem dX5_common_39 : decode cX5_common 39 = .ok (.goto (-22), 3) := by decide +kernel
theorem dX5_common_42 : decode cX5_common 42 = .ok (.lload 4, 2) := by decide +kernel
theorem dX5_common_44 : decode cX5_common 44 = .ok (.lreturn, 1) := by decide +kernel
/-! ===== FlowMetersModel.common(JJ)J ===== -/
def fX5_common_L17 (N : Nat) (n : Nat) (y4 : Int64) (y6 : Int64)  : Option (Int64) := match n with
  | 0 => none
  | n + 1 =>
    (if (lg_cmp y6 0) = 0 then
        some y4
      else
        (ya_lrm y4 y6).bind fun v3 =>
        fX5_common_L17 N n y6 v3)
def fX5_common (N : Nat)  (x0 : Int64) (x2 : Int64) : Option (Int64) :=
  (if 0 ≤ (lg_cmp x0 0) then
    (fX5_common_L17 N N x0 x2).bind fun v5 =>
    some v5
  else
    ya_lt (-x0) fun v7 =>
    (fX5_common_L17 N N v7 x2).bind fun v9 =>
    some v9)
abbrev rmX5_common : Room := { frames := 0, cells := 0, slots := 0, locals := 0 }
theorem eX5_common : yY yX5_common wsX5_common cX5_common 10 (some .long) rmX5_common 2 := ⟨⟨_, rfl⟩, rfl, rfl, by decide, by decide, by decide +kernel⟩
set_option maxHeartbeats 4000000 in
set_option maxRecDepth 100000 in
theorem mX5_common {l : Launch} {D : va_G} {sz : Nat} {cI cJ cZ cW cR : ClassId} {N : Nat} {x0 : Int64} {x2 : Int64} {r : Int64} (hf : fX5_common N x0 x2 = some r) : Met l yX5_common wsX5_common rmX5_common (yP D (yT cI cJ cZ cW cR) [] sz [.long x0, .long x2]) (yQl D (yT cI cJ cZ cW cR) r [] (va_A [] sz)) 0 0 (va_A [] sz) := by
  refine yM (cc := cX5_common) (maxL := 10) (ret := (some .long)) RX5 (by decide) rfl rfl (Nat.le_of_ble_eq_true rfl) ?_
  intro p e s m below meth c Γ hr
  have loop17 : ∀ (n : Nat) (y4 : Int64) (y6 : Int64)  (w0 : Int64), fX5_common_L17 N n y4 y6 = some w0 → yG p l e (headSpec wsX5_common rmX5_common).room s m (List.toArray [.long x0, .long x2]) below meth c D (va_A [] sz) 10 0 0 (MQ below (yQl D (yT cI cJ cZ cW cR) r [] (va_A [] sz)) (List.toArray [.long x0, .long x2]) s 0 0 (va_A [] sz)) 42 [(4, .long w0)] [] [] → yG p l e (headSpec wsX5_common rmX5_common).room s m (List.toArray [.long x0, .long x2]) below meth c D (va_A [] sz) 10 0 0 (MQ below (yQl D (yT cI cJ cZ cW cR) r [] (va_A [] sz)) (List.toArray [.long x0, .long x2]) s 0 0 (va_A [] sz)) 17 [(4, .long y4), (6, .long y6)] [] [] := by
    intro n
    induction n with
    | zero =>
      intro y4 y6 w0 hf
      cases hf
    | succ n ih =>
      intro y4 y6 w0 hf hk
      unfold fX5_common_L17 at hf
      refine g_lload Γ 1 dX5_common_17 rfl ?_
      refine g_lconst (v := 0) Γ dX5_common_19 (by decide) ?_
      refine g_lcmp Γ dX5_common_20 ?_
      refine g_if_eq Γ 42 dX5_common_21 (by decide) (fun c2 => ?_) (fun c2 => ?_)
      · have hf := ya_if1 c2 hf
        cases hf
        refine g_lv [0] rfl ?_
        exact hk
      · have hf := ya_if2 c2 hf
        refine g_lload Γ 0 dX5_common_24 rfl ?_
        refine g_lload Γ 1 dX5_common_26 rfl ?_
        obtain ⟨v3, e4, hf⟩ := ya_ob hf
        refine g_lrem Γ e4 dX5_common_28 ?_
        refine g_lstore (lv' := [(8, .long v3), (4, .long y4), (6, .long y6)]) Γ dX5_common_29 (by decide) rfl ?_
        refine g_lload Γ 2 dX5_common_31 rfl ?_
        refine g_lstore (lv' := [(4, .long y6), (8, .long v3), (6, .long y6)]) Γ dX5_common_33 (by decide) rfl ?_
        refine g_lload Γ 1 dX5_common_35 rfl ?_
        refine g_lstore (lv' := [(6, .long v3), (4, .long y6), (8, .long v3)]) Γ dX5_common_37 (by decide) rfl ?_
        refine g_goto Γ 17 dX5_common_39 (by decide) ?_
        refine g_lv [1, 0] rfl ?_
        exact ih _ _ _ hf hk
  show yG p l e (headSpec wsX5_common rmX5_common).room s m (List.toArray [.long x0, .long x2]) below meth c D (va_A [] sz) 10 0 0 (MQ below (yQl D (yT cI cJ cZ cW cR) r [] (va_A [] sz)) (List.toArray [.long x0, .long x2]) s 0 0 (va_A [] sz)) 0 [(0, .long x0), (2, .long x2)] [] []
  unfold fX5_common at hf
  refine g_lload_n Γ 0 dX5_common_0 rfl ?_
  refine g_lconst (v := 0) Γ dX5_common_1 (by decide) ?_
  refine g_lcmp Γ dX5_common_2 ?_
  refine g_if_ge Γ 11 dX5_common_3 (by decide) (fun c1 => ?_) (fun c1 => ?_)
  · have hf := ya_if1 c1 hf
    refine g_lload_n Γ 0 dX5_common_11 rfl ?_
    refine g_lstore (lv' := [(4, .long x0), (0, .long x0), (2, .long x2)]) Γ dX5_common_12 (by decide) rfl ?_
    refine g_lload_n Γ 2 dX5_common_14 rfl ?_
    refine g_lstore (lv' := [(6, .long x2), (4, .long x0), (0, .long x0), (2, .long x2)]) Γ dX5_common_15 (by decide) rfl ?_
    obtain ⟨v5, e6, hf⟩ := ya_ob hf
    refine g_lv [1, 0] rfl ?_
    refine loop17 N _ _ _ e6  ?_
    refine g_lload Γ 0 dX5_common_42 rfl ?_
    cases hf
    exact g_lret Γ hr dX5_common_44 [] rfl rfl
  · have hf := ya_if2 c1 hf
    refine g_lload_n Γ 0 dX5_common_6 rfl ?_
    refine g_lneg Γ dX5_common_7 ?_
    refine g_goto Γ 12 dX5_common_8 (by decide) ?_
    obtain ⟨v7, e8, hf⟩ := ya_lt_inv hf
    refine g_nml e8 ?_
    refine g_lstore (lv' := [(4, .long v7), (0, .long x0), (2, .long x2)]) Γ dX5_common_12 (by decide) rfl ?_
    refine g_lload_n Γ 2 dX5_common_14 rfl ?_
    refine g_lstore (lv' := [(6, .long x2), (4, .long v7), (0, .long x0), (2, .long x2)]) Γ dX5_common_15 (by decide) rfl ?_
    obtain ⟨v9, e10, hf⟩ := ya_ob hf
    refine g_lv [1, 0] rfl ?_
    refine loop17 N _ _ _ e10  ?_
    refine g_lload Γ 0 dX5_common_42 rfl ?_
    cases hf
    exact g_lret Γ hr dX5_common_44 [] rfl rfl

set_option maxRecDepth 20000 in
theorem ggX5_told_X5_common : GoodIn wsX5_told wsX5_common := goodIn_r _ [5] (by decide +kernel) (by decide +kernel)
set_option maxRecDepth 20000 in
theorem gX5_told_X5_common : GoodIn wsX5_told (va_wsS RX5 108 yX5_common wsX5_common) := goodIn_app (goodIn_of _ (by decide +kernel)) ggX5_told_X5_common
theorem dX5_told_0 : decode cX5_told 0 = .ok (.lload_n 0, 1) := by decide +kernel
theorem dX5_told_1 : decode cX5_told 1 = .ok (.lload_n 2, 1) := by decide +kernel
theorem dX5_told_2 : decode cX5_told 2 = .ok (.invokestatic 108, 3) := by decide +kernel
theorem dX5_told_5 : decode cX5_told 5 = .ok (.lstore 5, 2) := by decide +kernel
theorem dX5_told_7 : decode cX5_told 7 = .ok (.iload 4, 2) := by decide +kernel
theorem dX5_told_9 : decode cX5_told 9 = .ok (.ifCond .ne 10, 3) := by decide +kernel
theorem dX5_told_12 : decode cX5_told 12 = .ok (.lload_n 0, 1) := by decide +kernel
theorem dX5_told_13 : decode cX5_told 13 = .ok (.lload 5, 2) := by decide +kernel
theorem dX5_told_15 : decode cX5_told 15 = .ok (.ldiv, 1) := by decide +kernel
theorem dX5_told_16 : decode cX5_told 16 = .ok (.goto 19, 3) := by decide +kernel
theorem dX5_told_19 : decode cX5_told 19 = .ok (.iload 4, 2) := by decide +kernel
theorem dX5_told_21 : decode cX5_told 21 = .ok (.iconst 1, 1) := by decide +kernel
theorem dX5_told_22 : decode cX5_told 22 = .ok (.if_icmp .ne 10, 3) := by decide +kernel
theorem dX5_told_25 : decode cX5_told 25 = .ok (.lload_n 2, 1) := by decide +kernel
theorem dX5_told_26 : decode cX5_told 26 = .ok (.lload 5, 2) := by decide +kernel
theorem dX5_told_28 : decode cX5_told 28 = .ok (.ldiv, 1) := by decide +kernel
theorem dX5_told_29 : decode cX5_told 29 = .ok (.goto 6, 3) := by decide +kernel
theorem dX5_told_32 : decode cX5_told 32 = .ok (.ldc2_w 112, 3) := by decide +kernel
theorem dX5_told_35 : decode cX5_told 35 = .ok (.lreturn, 1) := by decide +kernel
/-! ===== FlowMetersModel.told(JJI)J ===== -/
def fX5_told (N : Nat)  (x0 : Int64) (x2 : Int64) (x4 : Int32) : Option (Int64) :=
  (fX5_common N x0 x2).bind fun v1 =>
  (if x4 = 0 then
    (ya_ldv x0 v1).bind fun v7 =>
    some v7
  else
    (if x4 = 1 then
      (ya_ldv x2 v1).bind fun v5 =>
      some v5
    else
      some (-1)))
abbrev rmX5_told : Room := { frames := 1, cells := 0, slots := 0, locals := 29 }
theorem eX5_told : yY yX5_told wsX5_told cX5_told 7 (some .long) rmX5_told 3 := ⟨⟨_, rfl⟩, rfl, rfl, by decide, by decide, by decide +kernel⟩
set_option maxHeartbeats 4000000 in
set_option maxRecDepth 100000 in
theorem mX5_told {l : Launch} {D : va_G} {sz : Nat} {cI cJ cZ cW cR : ClassId} {N : Nat} {x0 : Int64} {x2 : Int64} {x4 : Int32} {r : Int64} (hf : fX5_told N x0 x2 x4 = some r) : Met l yX5_told wsX5_told rmX5_told (yP D (yT cI cJ cZ cW cR) [] sz [.long x0, .long x2, .int x4]) (yQl D (yT cI cJ cZ cW cR) r [] (va_A [] sz)) 0 0 (va_A [] sz) := by
  refine yM (cc := cX5_told) (maxL := 7) (ret := (some .long)) RX5 (by decide) rfl rfl (Nat.le_of_ble_eq_true rfl) ?_
  intro p e s m below meth c Γ hr
  show yG p l e (headSpec wsX5_told rmX5_told).room s m (List.toArray [.long x0, .long x2, .int x4]) below meth c D (va_A [] sz) 7 0 0 (MQ below (yQl D (yT cI cJ cZ cW cR) r [] (va_A [] sz)) (List.toArray [.long x0, .long x2, .int x4]) s 0 0 (va_A [] sz)) 0 [(0, .long x0), (2, .long x2), (4, .int x4)] [] []
  unfold fX5_told at hf
  refine g_lload_n Γ 0 dX5_told_0 rfl ?_
  refine g_lload_n Γ 1 dX5_told_1 rfl ?_
  obtain ⟨v1, e2, hf⟩ := ya_ob hf
  refine g_sl (wr := []) (ws' := []) Γ (fun sz => mX5_common (l := l) (D := D) (sz := sz) (cI := cI) (cJ := cJ) (cZ := cZ) (cW := cW) (cR := cR)  (hf := e2)) eX5_common ggX5_told_X5_common (by decide +kernel) (by decide +kernel) (by decide +kernel) rfl rfl (Nat.le_of_ble_eq_true rfl) ⟨Nat.le_of_ble_eq_true rfl, Nat.le_of_ble_eq_true rfl⟩ dX5_told_2 [] [] rfl rfl rfl rfl (by decide) rfl ?_
  refine g_lstore (lv' := [(5, .long v1), (0, .long x0), (2, .long x2), (4, .int x4)]) Γ dX5_told_5 (by decide) rfl ?_
  refine g_iload Γ 3 dX5_told_7 rfl ?_
  refine g_if_ne Γ 19 dX5_told_9 (by decide) (fun c3 => ?_) (fun c3 => ?_)
  · have hf := ya_if2 c3 hf
    refine g_iload Γ 3 dX5_told_19 rfl ?_
    refine g_iconst (v := 1) Γ dX5_told_21 (by decide) ?_
    refine g_icmp_ne Γ 32 dX5_told_22 (by decide) (fun c4 => ?_) (fun c4 => ?_)
    · have hf := ya_if2 c4 hf
      refine g_ldc2 (v := (-1)) Γ dX5_told_32 (by decide +kernel) ?_
      cases hf
      exact g_lret Γ hr dX5_told_35 [] rfl rfl
    · have hf := ya_if1 c4 hf
      refine g_lload_n Γ 2 dX5_told_25 rfl ?_
      refine g_lload Γ 0 dX5_told_26 rfl ?_
      obtain ⟨v5, e6, hf⟩ := ya_ob hf
      refine g_ldiv Γ e6 dX5_told_28 ?_
      refine g_goto Γ 35 dX5_told_29 (by decide) ?_
      cases hf
      exact g_lret Γ hr dX5_told_35 [] rfl rfl
  · have hf := ya_if1 c3 hf
    refine g_lload_n Γ 1 dX5_told_12 rfl ?_
    refine g_lload Γ 0 dX5_told_13 rfl ?_
    obtain ⟨v7, e8, hf⟩ := ya_ob hf
    refine g_ldiv Γ e8 dX5_told_15 ?_
    refine g_goto Γ 35 dX5_told_16 (by decide) ?_
    cases hf
    exact g_lret Γ hr dX5_told_35 [] rfl rfl

theorem dX5_isWhat_0 : decode cX5_isWhat 0 = .ok (.iload_n 0, 1) := by decide +kernel
theorem dX5_isWhat_1 : decode cX5_isWhat 1 = .ok (.ifCond .eq 8, 3) := by decide +kernel
theorem dX5_isWhat_4 : decode cX5_isWhat 4 = .ok (.iload_n 0, 1) := by decide +kernel
theorem dX5_isWhat_5 : decode cX5_isWhat 5 = .ok (.iconst 1, 1) := by decide +kernel
theorem dX5_isWhat_6 : decode cX5_isWhat 6 = .ok (.if_icmp .ne 7, 3) := by decide +kernel
theorem dX5_isWhat_9 : decode cX5_isWhat 9 = .ok (.iconst 1, 1) := by decide +kernel
theorem dX5_isWhat_10 : decode cX5_isWhat 10 = .ok (.goto 4, 3) := by decide +kernel
theorem dX5_isWhat_13 : decode cX5_isWhat 13 = .ok (.iconst 0, 1) := by decide +kernel
theorem dX5_isWhat_14 : decode cX5_isWhat 14 = .ok (.ireturn, 1) := by decide +kernel
/-! ===== FlowMetersModel.isWhat(I)Z ===== -/
def fX5_isWhat  (x0 : Int32) : Option (Int32) :=
  (if x0 = 0 then
    some 1
  else
    (if x0 = 1 then
      some 1
    else
      some 0))
abbrev rmX5_isWhat : Room := { frames := 0, cells := 0, slots := 0, locals := 0 }
theorem eX5_isWhat : yY yX5_isWhat wsX5_isWhat cX5_isWhat 1 (some .boolean) rmX5_isWhat 1 := ⟨⟨_, rfl⟩, rfl, rfl, by decide, by decide, by decide +kernel⟩
set_option maxHeartbeats 4000000 in
set_option maxRecDepth 100000 in
theorem mX5_isWhat {l : Launch} {D : va_G} {sz : Nat} {cI cJ cZ cW cR : ClassId} {x0 : Int32} {r : Int32} (hf : fX5_isWhat x0 = some r) : Met l yX5_isWhat wsX5_isWhat rmX5_isWhat (yP D (yT cI cJ cZ cW cR) [] sz [.int x0]) (yQi D (yT cI cJ cZ cW cR) r [] (va_A [] sz)) 0 0 (va_A [] sz) := by
  refine yM (cc := cX5_isWhat) (maxL := 1) (ret := (some .boolean)) RX5 (by decide) rfl rfl (Nat.le_of_ble_eq_true rfl) ?_
  intro p e s m below meth c Γ hr
  show yG p l e (headSpec wsX5_isWhat rmX5_isWhat).room s m (List.toArray [.int x0]) below meth c D (va_A [] sz) 1 0 0 (MQ below (yQi D (yT cI cJ cZ cW cR) r [] (va_A [] sz)) (List.toArray [.int x0]) s 0 0 (va_A [] sz)) 0 [(0, .int x0)] [] []
  unfold fX5_isWhat at hf
  refine g_iload_n Γ 0 dX5_isWhat_0 rfl ?_
  refine g_if_eq Γ 9 dX5_isWhat_1 (by decide) (fun c1 => ?_) (fun c1 => ?_)
  · have hf := ya_if1 c1 hf
    refine g_iconst (v := 1) Γ dX5_isWhat_9 (by decide) ?_
    refine g_goto Γ 14 dX5_isWhat_10 (by decide) ?_
    cases hf
    exact g_zret Γ hr (show ya_bo 1 = some 1 from rfl) dX5_isWhat_14 [] rfl rfl
  · have hf := ya_if2 c1 hf
    refine g_iload_n Γ 0 dX5_isWhat_4 rfl ?_
    refine g_iconst (v := 1) Γ dX5_isWhat_5 (by decide) ?_
    refine g_icmp_ne Γ 13 dX5_isWhat_6 (by decide) (fun c2 => ?_) (fun c2 => ?_)
    · have hf := ya_if2 c2 hf
      refine g_iconst (v := 0) Γ dX5_isWhat_13 (by decide) ?_
      cases hf
      exact g_zret Γ hr (show ya_bo 0 = some 0 from rfl) dX5_isWhat_14 [] rfl rfl
    · have hf := ya_if1 c2 hf
      refine g_iconst (v := 1) Γ dX5_isWhat_9 (by decide) ?_
      refine g_goto Γ 14 dX5_isWhat_10 (by decide) ?_
      cases hf
      exact g_zret Γ hr (show ya_bo 1 = some 1 from rfl) dX5_isWhat_14 [] rfl rfl

