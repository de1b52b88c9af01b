theorem dX4_isPart_0 : decode cX4_isPart 0 = .ok (.iload_n 0, 1) := by decide +kernel
theorem dX4_isPart_1 : decode cX4_isPart 1 = .ok (.ifCond .eq 8, 3) := by decide +kernel
theorem dX4_isPart_4 : decode cX4_isPart 4 = .ok (.iload_n 0, 1) := by decide +kernel
theorem dX4_isPart_5 : decode cX4_isPart 5 = .ok (.iconst 1, 1) := by decide +kernel
theorem dX4_isPart_6 : decode cX4_isPart 6 = .ok (.if_icmp .ne 7, 3) := by decide +kernel
theorem dX4_isPart_9 : decode cX4_isPart 9 = .ok (.iconst 1, 1) := by decide +kernel
theorem dX4_isPart_10 : decode cX4_isPart 10 = .ok (.goto 4, 3) := by decide +kernel
theorem dX4_isPart_13 : decode cX4_isPart 13 = .ok (.iconst 0, 1) := by decide +kernel
theorem dX4_isPart_14 : decode cX4_isPart 14 = .ok (.ireturn, 1) := by decide +kernel
/-! ===== FlowMeters.isPart(I)Z ===== -/
def fX4_isPart  (x0 : Int32) : Option (Int32) :=
  (if x0 = 0 then
    some 1
  else
    (if x0 = 1 then
      some 1
    else
      some 0))
abbrev rmX4_isPart : Room := { frames := 0, cells := 0, slots := 0, locals := 0 }
theorem eX4_isPart : yY yX4_isPart wsX4_isPart cX4_isPart 1 (some .boolean) rmX4_isPart 1 := ⟨⟨_, rfl⟩, rfl, rfl, by decide, by decide, by decide +kernel⟩
set_option maxHeartbeats 4000000 in
set_option maxRecDepth 100000 in
theorem mX4_isPart {l : Launch} {D : va_G} {sz : Nat} {cI cJ cZ cW cR : ClassId} {x0 : Int32} {r : Int32} (hf : fX4_isPart x0 = some r) : Met l yX4_isPart wsX4_isPart rmX4_isPart (yP D (yT cI cJ cZ cW cR) [] sz [.int x0]) (yQi D (yT cI cJ cZ cW cR) r [] (va_A [] sz)) 0 0 (va_A [] sz) := by
  refine yM (cc := cX4_isPart) (maxL := 1) (ret := (some .boolean)) RX4 (by decide) rfl rfl (Nat.le_of_ble_eq_true rfl) ?_
  intro p e s m below meth c Γ hr
  show yG p l e (headSpec wsX4_isPart rmX4_isPart).room s m (List.toArray [.int x0]) below meth c D (va_A [] sz) 1 0 0 (MQ below (yQi D (yT cI cJ cZ cW cR) r [] (va_A [] sz)) (List.toArray [.int x0]) s 0 0 (va_A [] sz)) 0 [(0, .int x0)] [] []
  unfold fX4_isPart at hf
  refine g_iload_n Γ 0 dX4_isPart_0 rfl ?_
  refine g_if_eq Γ 9 dX4_isPart_1 (by decide) (fun c1 => ?_) (fun c1 => ?_)
  · have hf := ya_if1 c1 hf
    refine g_iconst (v := 1) Γ dX4_isPart_9 (by decide) ?_
    refine g_goto Γ 14 dX4_isPart_10 (by decide) ?_
    cases hf
    exact g_zret Γ hr (show ya_bo 1 = some 1 from rfl) dX4_isPart_14 [] rfl rfl
  · have hf := ya_if2 c1 hf
    refine g_iload_n Γ 0 dX4_isPart_4 rfl ?_
    refine g_iconst (v := 1) Γ dX4_isPart_5 (by decide) ?_
    refine g_icmp_ne Γ 13 dX4_isPart_6 (by decide) (fun c2 => ?_) (fun c2 => ?_)
    · have hf := ya_if2 c2 hf
      refine g_iconst (v := 0) Γ dX4_isPart_13 (by decide) ?_
      cases hf
      exact g_zret Γ hr (show ya_bo 0 = some 0 from rfl) dX4_isPart_14 [] rfl rfl
    · have hf := ya_if1 c2 hf
      refine g_iconst (v := 1) Γ dX4_isPart_9 (by decide) ?_
      refine g_goto Γ 14 dX4_isPart_10 (by decide) ?_
      cases hf
      exact g_zret Γ hr (show ya_bo 1 = some 1 from rfl) dX4_isPart_14 [] rfl rfl

theorem dX4_commonDivisor_0 : decode cX4_commonDivisor 0 = .ok (.lload_n 0, 1) := by decide +kernel
theorem dX4_commonDivisor_1 : decode cX4_commonDivisor 1 = .ok (.lstore 4, 2) := by decide +kernel
theorem dX4_commonDivisor_3 : decode cX4_commonDivisor 3 = .ok (.lload_n 2, 1) := by decide +kernel
theorem dX4_commonDivisor_4 : decode cX4_commonDivisor 4 = .ok (.lstore 6, 2) := by decide +kernel
theorem dX4_commonDivisor_6 : decode cX4_commonDivisor 6 = .ok (.iconst 0, 1) := by decide +kernel
theorem dX4_commonDivisor_7 : decode cX4_commonDivisor 7 = .ok (.istore 8, 2) := by decide +kernel
theorem dX4_commonDivisor_9 : decode cX4_commonDivisor 9 = .ok (.iload 8, 2) := by decide +kernel
theorem dX4_commonDivisor_11 : decode cX4_commonDivisor 11 = .ok (.sipush 128, 3) := by decide +kernel
theorem dX4_commonDivisor_14 : decode cX4_commonDivisor 14 = .ok (.if_icmp .ge 31, 3) := by decide +kernel
theorem dX4_commonDivisor_17 : decode cX4_commonDivisor 17 = .ok (.lload 6, 2) := by decide +kernel
theorem dX4_commonDivisor_19 : decode cX4_commonDivisor 19 = .ok (.lconst 0, 1) := by decide +kernel
theorem dX4_commonDivisor_20 : decode cX4_commonDivisor 20 = .ok (.lcmp, 1) := by decide +kernel
theorem dX4_commonDivisor_21 : decode cX4_commonDivisor 21 = .ok (.ifCond .eq 24, 3) := by decide +kernel
theorem dX4_commonDivisor_24 : decode cX4_commonDivisor 24 = .ok (.lload 4, 2) := by decide +kernel
theorem dX4_commonDivisor_26 : decode cX4_commonDivisor 26 = .ok (.lload 6, 2) := by decide +kernel
theorem dX4_commonDivisor_28 : decode cX4_commonDivisor 28 = .ok (.lrem, 1) := by decide +kernel
theorem dX4_commonDivisor_29 : decode cX4_commonDivisor 29 = .ok (.lstore 9, 2) := by decide +kernel
theorem dX4_commonDivisor_31 : decode cX4_commonDivisor 31 = .ok (.lload 6, 2) := by decide +kernel
theorem dX4_commonDivisor_33 : decode cX4_commonDivisor 33 = .ok (.lstore 4, 2) := by decide +kernel
theorem dX4_commonDivisor_35 : decode cX4_commonDivisor 35 = .ok (.lload 9, 2) := by decide +kernel
theorem dX4_commonDivisor_37 : decode cX4_commonDivisor 37 = .ok (.lstore 6, 2) := by decide +kernel
theorem dX4_commonDivisor_39 : decode cX4_commonDivisor 39 = .ok (.iinc 8 1, 3) := by decide +kernel
theorem dX4_commonDivisor_42 : decode cX4_commonDivisor 42 = .ok (.goto (-33), 3) := by decide +kernel
theorem dX4_commonDivisor_45 : decode cX4_commonDivisor 45 = .ok (.lload 4, 2) := by decide +kernel
theorem dX4_commonDivisor_47 : decode cX4_commonDivisor 47 = .ok (.lreturn, 1) := by decide +kernel
/-! ===== FlowMeters.commonDivisor(JJ)J ===== -/
def fX4_commonDivisor_L9 (N : Nat) (n : Nat) (y4 : Int64) (y6 : Int64) (y8 : Int32)  : Option (Int64) := match n with
  | 0 => none
  | n + 1 =>
    (if 128 ≤ y8 then
        some y4
      else
        (if (lg_cmp y6 0) = 0 then
          some y4
        else
          (ya_lrm y4 y6).bind fun v3 =>
          ya_lt (y8 + 1) fun v5 =>
          fX4_commonDivisor_L9 N n y6 v3 v5))
def fX4_commonDivisor (N : Nat)  (x0 : Int64) (x2 : Int64) : Option (Int64) :=
  (fX4_commonDivisor_L9 N N x0 x2 0).bind fun v7 =>
  some v7
abbrev rmX4_commonDivisor : Room := { frames := 0, cells := 0, slots := 0, locals := 0 }
theorem eX4_commonDivisor : yY yX4_commonDivisor wsX4_commonDivisor cX4_commonDivisor 11 (some .long) rmX4_commonDivisor 2 := ⟨⟨_, rfl⟩, rfl, rfl, by decide, by decide, by decide +kernel⟩
set_option maxHeartbeats 4000000 in
set_option maxRecDepth 100000 in
theorem mX4_commonDivisor {l : Launch} {D : va_G} {sz : Nat} {cI cJ cZ cW cR : ClassId} {N : Nat} {x0 : Int64} {x2 : Int64} {r : Int64} (hf : fX4_commonDivisor N x0 x2 = some r) : Met l yX4_commonDivisor wsX4_commonDivisor rmX4_commonDivisor (yP D (yT cI cJ cZ cW cR) [] sz [.long x0, .long x2]) (yQl D (yT cI cJ cZ cW cR) r [] (va_A [] sz)) 0 0 (va_A [] sz) := by
  refine yM (cc := cX4_commonDivisor) (maxL := 11) (ret := (some .long)) RX4 (by decide) rfl rfl (Nat.le_of_ble_eq_true rfl) ?_
  intro p e s m below meth c Γ hr
  have loop9 : ∀ (n : Nat) (y4 : Int64) (y6 : Int64) (y8 : Int32)  (w0 : Int64), fX4_commonDivisor_L9 N n y4 y6 y8 = some w0 → yG p l e (headSpec wsX4_commonDivisor rmX4_commonDivisor).room s m (List.toArray [.long x0, .long x2]) below meth c D (va_A [] sz) 11 0 0 (MQ below (yQl D (yT cI cJ cZ cW cR) r [] (va_A [] sz)) (List.toArray [.long x0, .long x2]) s 0 0 (va_A [] sz)) 45 [(4, .long w0)] [] [] → yG p l e (headSpec wsX4_commonDivisor rmX4_commonDivisor).room s m (List.toArray [.long x0, .long x2]) below meth c D (va_A [] sz) 11 0 0 (MQ below (yQl D (yT cI cJ cZ cW cR) r [] (va_A [] sz)) (List.toArray [.long x0, .long x2]) s 0 0 (va_A [] sz)) 9 [(4, .long y4), (6, .long y6), (8, .int y8)] [] [] := by
    intro n
    induction n with
    | zero =>
      intro y4 y6 y8 w0 hf
      cases hf
    | succ n ih =>
      intro y4 y6 y8 w0 hf hk
      unfold fX4_commonDivisor_L9 at hf
      refine g_iload Γ 2 dX4_commonDivisor_9 rfl ?_
      refine g_sipush (v := 128) Γ dX4_commonDivisor_11 (by decide) ?_
      refine g_icmp_ge Γ 45 dX4_commonDivisor_14 (by decide) (fun c1 => ?_) (fun c1 => ?_)
      · have hf := ya_if1 c1 hf
        cases hf
        refine g_lv [0] rfl ?_
        exact hk
      · have hf := ya_if2 c1 hf
        refine g_lload Γ 1 dX4_commonDivisor_17 rfl ?_
        refine g_lconst (v := 0) Γ dX4_commonDivisor_19 (by decide) ?_
        refine g_lcmp Γ dX4_commonDivisor_20 ?_
        refine g_if_eq Γ 45 dX4_commonDivisor_21 (by decide) (fun c2 => ?_) (fun c2 => ?_)
        · have hf := ya_if1 c2 hf
          cases hf
          refine g_lv [0] rfl ?_
          exact hk
        · have hf := ya_if2 c2 hf
          refine g_lload Γ 0 dX4_commonDivisor_24 rfl ?_
          refine g_lload Γ 1 dX4_commonDivisor_26 rfl ?_
          obtain ⟨v3, e4, hf⟩ := ya_ob hf
          refine g_lrem Γ e4 dX4_commonDivisor_28 ?_
          refine g_lstore (lv' := [(9, .long v3), (4, .long y4), (6, .long y6), (8, .int y8)]) Γ dX4_commonDivisor_29 (by decide) rfl ?_
          refine g_lload Γ 2 dX4_commonDivisor_31 rfl ?_
          refine g_lstore (lv' := [(4, .long y6), (9, .long v3), (6, .long y6), (8, .int y8)]) Γ dX4_commonDivisor_33 (by decide) rfl ?_
          refine g_lload Γ 1 dX4_commonDivisor_35 rfl ?_
          refine g_lstore (lv' := [(6, .long v3), (4, .long y6), (9, .long v3), (8, .int y8)]) Γ dX4_commonDivisor_37 (by decide) rfl ?_
          obtain ⟨v5, e6, hf⟩ := ya_lt_inv hf
          refine g_iinc (lv' := [(8, .int v5), (6, .long v3), (4, .long y6), (9, .long v3)]) Γ 3 dX4_commonDivisor_39 rfl (by rw [e6]; rfl) (by decide) rfl ?_
          refine g_goto Γ 9 dX4_commonDivisor_42 (by decide) ?_
          refine g_lv [2, 1, 0] rfl ?_
          exact ih _ _ _ _ hf hk
  show yG p l e (headSpec wsX4_commonDivisor rmX4_commonDivisor).room s m (List.toArray [.long x0, .long x2]) below meth c D (va_A [] sz) 11 0 0 (MQ below (yQl D (yT cI cJ cZ cW cR) r [] (va_A [] sz)) (List.toArray [.long x0, .long x2]) s 0 0 (va_A [] sz)) 0 [(0, .long x0), (2, .long x2)] [] []
  unfold fX4_commonDivisor at hf
  refine g_lload_n Γ 0 dX4_commonDivisor_0 rfl ?_
  refine g_lstore (lv' := [(4, .long x0), (0, .long x0), (2, .long x2)]) Γ dX4_commonDivisor_1 (by decide) rfl ?_
  refine g_lload_n Γ 2 dX4_commonDivisor_3 rfl ?_
  refine g_lstore (lv' := [(6, .long x2), (4, .long x0), (0, .long x0), (2, .long x2)]) Γ dX4_commonDivisor_4 (by decide) rfl ?_
  refine g_iconst (v := 0) Γ dX4_commonDivisor_6 (by decide) ?_
  refine g_istore (lv' := [(8, .int 0), (6, .long x2), (4, .long x0), (0, .long x0), (2, .long x2)]) Γ dX4_commonDivisor_7 (by decide) rfl ?_
  obtain ⟨v7, e8, hf⟩ := ya_ob hf
  refine g_lv [2, 1, 0] rfl ?_
  refine loop9 N _ _ _ _ e8  ?_
  refine g_lload Γ 0 dX4_commonDivisor_45 rfl ?_
  cases hf
  exact g_lret Γ hr dX4_commonDivisor_47 [] rfl rfl

set_option maxRecDepth 20000 in
theorem ggX4_lowestTerms_X4_commonDivisor : GoodIn wsX4_lowestTerms wsX4_commonDivisor := goodIn_r _ [9] rfl (by decide +kernel)
set_option maxRecDepth 20000 in
theorem gX4_lowestTerms_X4_commonDivisor : GoodIn wsX4_lowestTerms (va_wsS RX4 219 yX4_commonDivisor wsX4_commonDivisor) := goodIn_app (goodIn_of _ (by decide +kernel)) ggX4_lowestTerms_X4_commonDivisor
theorem dX4_lowestTerms_0 : decode cX4_lowestTerms 0 = .ok (.lload_n 0, 1) := by decide +kernel
theorem dX4_lowestTerms_1 : decode cX4_lowestTerms 1 = .ok (.invokestatic 213, 3) := by decide +kernel
theorem dX4_lowestTerms_4 : decode cX4_lowestTerms 4 = .ok (.lload_n 2, 1) := by decide +kernel
theorem dX4_lowestTerms_5 : decode cX4_lowestTerms 5 = .ok (.invokestatic 219, 3) := by decide +kernel
theorem dX4_lowestTerms_8 : decode cX4_lowestTerms 8 = .ok (.lstore 5, 2) := by decide +kernel
theorem dX4_lowestTerms_10 : decode cX4_lowestTerms 10 = .ok (.lload 5, 2) := by decide +kernel
theorem dX4_lowestTerms_12 : decode cX4_lowestTerms 12 = .ok (.lconst 1, 1) := by decide +kernel
theorem dX4_lowestTerms_13 : decode cX4_lowestTerms 13 = .ok (.lcmp, 1) := by decide +kernel
theorem dX4_lowestTerms_14 : decode cX4_lowestTerms 14 = .ok (.ifCond .ge 7, 3) := by decide +kernel
theorem dX4_lowestTerms_17 : decode cX4_lowestTerms 17 = .ok (.ldc2_w 158, 3) := by decide +kernel
theorem dX4_lowestTerms_20 : decode cX4_lowestTerms 20 = .ok (.lreturn, 1) := by decide +kernel
theorem dX4_lowestTerms_21 : decode cX4_lowestTerms 21 = .ok (.iload 4, 2) := by decide +kernel
theorem dX4_lowestTerms_23 : decode cX4_lowestTerms 23 = .ok (.ifCond .ne 10, 3) := by decide +kernel
theorem dX4_lowestTerms_26 : decode cX4_lowestTerms 26 = .ok (.lload_n 0, 1) := by decide +kernel
theorem dX4_lowestTerms_27 : decode cX4_lowestTerms 27 = .ok (.lload 5, 2) := by decide +kernel
theorem dX4_lowestTerms_29 : decode cX4_lowestTerms 29 = .ok (.ldiv, 1) := by decide +kernel
theorem dX4_lowestTerms_30 : decode cX4_lowestTerms 30 = .ok (.goto 7, 3) := by decide +kernel
theorem dX4_lowestTerms_33 : decode cX4_lowestTerms 33 = .ok (.lload_n 2, 1) := by decide +kernel
theorem dX4_lowestTerms_34 : decode cX4_lowestTerms 34 = .ok (.lload 5, 2) := by decide +kernel
theorem dX4_lowestTerms_36 : decode cX4_lowestTerms 36 = .ok (.ldiv, 1) := by decide +kernel
theorem dX4_lowestTerms_37 : decode cX4_lowestTerms 37 = .ok (.lreturn, 1) := by decide +kernel
/-! ===== FlowMeters.lowestTerms(JJI)J ===== -/
def fX4_lowestTerms (N : Nat)  (x0 : Int64) (x2 : Int64) (x4 : Int32) : Option (Int64) :=
  (fX4_commonDivisor N (if 0 < x0 then x0 else -x0) x2).bind fun v1 =>
  (if 0 ≤ (lg_cmp v1 1) then
    (if x4 = 0 then
      (ya_ldv x0 v1).bind fun v7 =>
      some v7
    else
      (ya_ldv x2 v1).bind fun v5 =>
      some v5)
  else
    some (-1))
abbrev rmX4_lowestTerms : Room := { frames := 1, cells := 0, slots := 0, locals := 48 }
theorem eX4_lowestTerms : yY yX4_lowestTerms wsX4_lowestTerms cX4_lowestTerms 7 (some .long) rmX4_lowestTerms 3 := ⟨⟨_, rfl⟩, rfl, rfl, by decide, by decide, by decide +kernel⟩
set_option maxHeartbeats 4000000 in
set_option maxRecDepth 100000 in
theorem mX4_lowestTerms {l : Launch} {D : va_G} {sz : Nat} {cI cJ cZ cW cR : ClassId} {N : Nat} {x0 : Int64} {x2 : Int64} {x4 : Int32} {r : Int64} (hf : fX4_lowestTerms N x0 x2 x4 = some r) : Met l yX4_lowestTerms wsX4_lowestTerms rmX4_lowestTerms (yP D (yT cI cJ cZ cW cR) [] sz [.long x0, .long x2, .int x4]) (yQl D (yT cI cJ cZ cW cR) r [] (va_A [] sz)) 0 0 (va_A [] sz) := by
  refine yM (cc := cX4_lowestTerms) (maxL := 7) (ret := (some .long)) RX4 (by decide) rfl rfl (Nat.le_of_ble_eq_true rfl) ?_
  intro p e s m below meth c Γ hr
  show yG p l e (headSpec wsX4_lowestTerms rmX4_lowestTerms).room s m (List.toArray [.long x0, .long x2, .int x4]) below meth c D (va_A [] sz) 7 0 0 (MQ below (yQl D (yT cI cJ cZ cW cR) r [] (va_A [] sz)) (List.toArray [.long x0, .long x2, .int x4]) s 0 0 (va_A [] sz)) 0 [(0, .long x0), (2, .long x2), (4, .int x4)] [] []
  unfold fX4_lowestTerms at hf
  refine g_lload_n Γ 0 dX4_lowestTerms_0 rfl ?_
  refine g_mabsl Γ (by decide +kernel) (by decide +kernel) (by decide +kernel) (by decide +kernel) (Nat.le_of_ble_eq_true rfl) (Nat.le_of_ble_eq_true rfl) dX4_lowestTerms_1 ?_
  refine g_lload_n Γ 1 dX4_lowestTerms_4 rfl ?_
  obtain ⟨v1, e2, hf⟩ := ya_ob hf
  refine g_sl (wr := []) (ws' := []) Γ (fun sz => mX4_commonDivisor (l := l) (D := D) (sz := sz) (cI := cI) (cJ := cJ) (cZ := cZ) (cW := cW) (cR := cR)  (hf := e2)) eX4_commonDivisor ggX4_lowestTerms_X4_commonDivisor (by decide +kernel) (by decide +kernel) (by decide +kernel) rfl rfl (Nat.le_of_ble_eq_true rfl) ⟨Nat.le_of_ble_eq_true rfl, Nat.le_of_ble_eq_true rfl⟩ dX4_lowestTerms_5 [] [] rfl rfl rfl rfl (by decide) rfl ?_
  refine g_lstore (lv' := [(5, .long v1), (0, .long x0), (2, .long x2), (4, .int x4)]) Γ dX4_lowestTerms_8 (by decide) rfl ?_
  refine g_lload Γ 0 dX4_lowestTerms_10 rfl ?_
  refine g_lconst (v := 1) Γ dX4_lowestTerms_12 (by decide) ?_
  refine g_lcmp Γ dX4_lowestTerms_13 ?_
  refine g_if_ge Γ 21 dX4_lowestTerms_14 (by decide) (fun c3 => ?_) (fun c3 => ?_)
  · have hf := ya_if1 c3 hf
    refine g_iload Γ 3 dX4_lowestTerms_21 rfl ?_
    refine g_if_ne Γ 33 dX4_lowestTerms_23 (by decide) (fun c4 => ?_) (fun c4 => ?_)
    · have hf := ya_if2 c4 hf
      refine g_lload_n Γ 2 dX4_lowestTerms_33 rfl ?_
      refine g_lload Γ 0 dX4_lowestTerms_34 rfl ?_
      obtain ⟨v5, e6, hf⟩ := ya_ob hf
      refine g_ldiv Γ e6 dX4_lowestTerms_36 ?_
      cases hf
      exact g_lret Γ hr dX4_lowestTerms_37 [] rfl rfl
    · have hf := ya_if1 c4 hf
      refine g_lload_n Γ 1 dX4_lowestTerms_26 rfl ?_
      refine g_lload Γ 0 dX4_lowestTerms_27 rfl ?_
      obtain ⟨v7, e8, hf⟩ := ya_ob hf
      refine g_ldiv Γ e8 dX4_lowestTerms_29 ?_
      refine g_goto Γ 37 dX4_lowestTerms_30 (by decide) ?_
      cases hf
      exact g_lret Γ hr dX4_lowestTerms_37 [] rfl rfl
  · have hf := ya_if2 c3 hf
    refine g_ldc2 (v := (-1)) Γ dX4_lowestTerms_17 (by decide +kernel) ?_
    cases hf
    exact g_lret Γ hr dX4_lowestTerms_20 [] rfl rfl

set_option maxRecDepth 20000 in
theorem ggX4_value_X4_isFlow : GoodIn wsX4_value wsX4_isFlow := goodIn_r _ [9, 3, 10, 129, 130, 131, 132, 133, 134, 135, 143, 144, 145, 146, 147, 148, 149, 150, 151, 152, 153] rfl (by decide +kernel)
set_option maxRecDepth 20000 in
theorem gX4_value_X4_isFlow : GoodIn wsX4_value (wsV RX4 68 RX4 yX4_isFlow wsX4_isFlow) := goodIn_app (goodIn_of _ (by decide +kernel)) ggX4_value_X4_isFlow
set_option maxRecDepth 20000 in
theorem ggX4_value_X4_isPart : GoodIn wsX4_value wsX4_isPart := goodIn_r _ [13] rfl (by decide +kernel)
set_option maxRecDepth 20000 in
theorem gX4_value_X4_isPart : GoodIn wsX4_value (va_wsS RX4 155 yX4_isPart wsX4_isPart) := goodIn_app (goodIn_of _ (by decide +kernel)) ggX4_value_X4_isPart
set_option maxRecDepth 20000 in
theorem ggX4_value_X4_isSeen : GoodIn wsX4_value wsX4_isSeen := goodIn_r _ [17, 3, 18, 19, 20, 21, 8, 22, 23, 24, 25, 26, 27, 28, 29, 30, 31, 32, 33, 34, 35, 36, 37, 38, 39, 40, 41, 42, 43, 44, 45, 46, 47, 48, 49, 50, 51, 52, 53, 54, 55, 56, 57, 58, 59, 60, 61, 129, 130, 131, 132, 133, 134, 135, 143, 144, 145, 146, 147, 148, 149, 150, 151, 152, 153, 154] rfl (by decide +kernel)
set_option maxRecDepth 20000 in
theorem gX4_value_X4_isSeen : GoodIn wsX4_value (wsV RX4 152 RX4 yX4_isSeen wsX4_isSeen) := goodIn_app (goodIn_of _ (by decide +kernel)) ggX4_value_X4_isSeen
set_option maxRecDepth 20000 in
theorem ggX4_value_X3_unreadSet : GoodIn wsX4_value wsX3_unreadSet := goodIn_r _ [27, 28, 29, 30, 31, 26, 32, 33, 34, 8, 35, 143, 144, 145, 146, 147, 148, 149, 150, 151, 152, 153] rfl (by decide +kernel)
set_option maxRecDepth 20000 in
theorem gX4_value_X3_unreadSet : GoodIn wsX4_value (wsV RX4 120 RX3 yX3_unreadSet wsX3_unreadSet) := goodIn_app (goodIn_of _ (by decide +kernel)) ggX4_value_X3_unreadSet
set_option maxRecDepth 20000 in
theorem ggX4_value_X0_solve : GoodIn wsX4_value wsX0_solve := goodIn_r _ [66, 67, 68, 69, 70, 71, 38, 39, 40, 41, 42, 43, 44, 45, 21, 8, 22, 46, 47, 48, 49, 50, 51, 52, 53, 54, 55, 56, 57, 58, 59, 60, 72, 30, 31, 26, 32, 33, 34, 35, 73, 74, 75, 65, 76, 77, 78, 79, 80, 81, 82, 83, 84, 85, 86, 87, 88, 89, 90, 91, 92, 93, 94, 95, 96, 97, 98, 99, 100, 101, 102, 136, 137, 138, 139, 140, 141, 142, 143, 144, 145, 146, 147, 148, 149, 150, 151, 152, 153, 154] rfl (by decide +kernel)
set_option maxRecDepth 20000 in
theorem gX4_value_X0_solve : GoodIn wsX4_value (wsV RX4 160 RX0 yX0_solve wsX0_solve) := goodIn_app (goodIn_of _ (by decide +kernel)) ggX4_value_X0_solve
set_option maxRecDepth 20000 in
theorem ggX4_value_X0_valueAbove : GoodIn wsX4_value wsX0_valueAbove := goodIn_r _ [106, 67, 107, 80, 81, 79, 82, 21, 8, 22, 108, 109, 110, 65, 111, 84, 98, 112, 113, 114, 115, 83, 116, 117, 118, 119, 77, 68, 34, 35, 71, 38, 39, 40, 41, 42, 43, 44, 45, 46, 47, 48, 49, 50, 51, 52, 53, 54, 55, 56, 57, 58, 59, 60, 136, 137, 138, 139, 140, 141, 142, 154, 143, 144, 145, 146, 147, 148, 149, 150, 151, 152, 153] rfl (by decide +kernel)
set_option maxRecDepth 20000 in
theorem gX4_value_X0_valueAbove : GoodIn wsX4_value (wsV RX4 164 RX0 yX0_valueAbove wsX0_valueAbove) := goodIn_app (goodIn_of _ (by decide +kernel)) ggX4_value_X0_valueAbove
set_option maxRecDepth 20000 in
theorem ggX4_value_X4_lowestTerms : GoodIn wsX4_value wsX4_lowestTerms := goodIn_r _ [122, 123, 124, 56, 125, 1, 126, 127, 8, 128] rfl (by decide +kernel)
set_option maxRecDepth 20000 in
theorem gX4_value_X4_lowestTerms : GoodIn wsX4_value (va_wsS RX4 172 yX4_lowestTerms wsX4_lowestTerms) := goodIn_app (goodIn_of _ (by decide +kernel)) ggX4_value_X4_lowestTerms
theorem dX4_value_0 : decode cX4_value 0 = .ok (.aload_n 0, 1) := by decide +kernel
theorem dX4_value_1 : decode cX4_value 1 = .ok (.iload_n 1, 1) := by decide +kernel
theorem dX4_value_2 : decode cX4_value 2 = .ok (.invokevirtual 68, 3) := by decide +kernel
theorem dX4_value_5 : decode cX4_value 5 = .ok (.ifCond .eq 18, 3) := by decide +kernel
theorem dX4_value_8 : decode cX4_value 8 = .ok (.iload_n 2, 1) := by decide +kernel
theorem dX4_value_9 : decode cX4_value 9 = .ok (.invokestatic 155, 3) := by decide +kernel
theorem dX4_value_12 : decode cX4_value 12 = .ok (.ifCond .eq 11, 3) := by decide +kernel
theorem dX4_value_15 : decode cX4_value 15 = .ok (.aload_n 0, 1) := by decide +kernel
theorem dX4_value_16 : decode cX4_value 16 = .ok (.iload_n 1, 1) := by decide +kernel
theorem dX4_value_17 : decode cX4_value 17 = .ok (.invokevirtual 152, 3) := by decide +kernel
theorem dX4_value_20 : decode cX4_value 20 = .ok (.ifCond .ne 7, 3) := by decide +kernel
theorem dX4_value_23 : decode cX4_value 23 = .ok (.ldc2_w 158, 3) := by decide +kernel
theorem dX4_value_26 : decode cX4_value 26 = .ok (.lreturn, 1) := by decide +kernel
theorem dX4_value_27 : decode cX4_value 27 = .ok (.aload_n 0, 1) := by decide +kernel
theorem dX4_value_28 : decode cX4_value 28 = .ok (.getfield 33, 3) := by decide +kernel
theorem dX4_value_31 : decode cX4_value 31 = .ok (.aload_n 0, 1) := by decide +kernel
theorem dX4_value_32 : decode cX4_value 32 = .ok (.getfield 10, 3) := by decide +kernel
theorem dX4_value_35 : decode cX4_value 35 = .ok (.aload_n 0, 1) := by decide +kernel
theorem dX4_value_36 : decode cX4_value 36 = .ok (.getfield 10, 3) := by decide +kernel
theorem dX4_value_39 : decode cX4_value 39 = .ok (.invokevirtual 120, 3) := by decide +kernel
theorem dX4_value_42 : decode cX4_value 42 = .ok (.invokevirtual 160, 3) := by decide +kernel
theorem dX4_value_45 : decode cX4_value 45 = .ok (.aload_n 0, 1) := by decide +kernel
theorem dX4_value_46 : decode cX4_value 46 = .ok (.getfield 33, 3) := by decide +kernel
theorem dX4_value_49 : decode cX4_value 49 = .ok (.aload_n 0, 1) := by decide +kernel
theorem dX4_value_50 : decode cX4_value 50 = .ok (.getfield 10, 3) := by decide +kernel
theorem dX4_value_53 : decode cX4_value 53 = .ok (.iload_n 1, 1) := by decide +kernel
theorem dX4_value_54 : decode cX4_value 54 = .ok (.invokevirtual 164, 3) := by decide +kernel
theorem dX4_value_57 : decode cX4_value 57 = .ok (.aload_n 0, 1) := by decide +kernel
theorem dX4_value_58 : decode cX4_value 58 = .ok (.getfield 33, 3) := by decide +kernel
theorem dX4_value_61 : decode cX4_value 61 = .ok (.getfield 168, 3) := by decide +kernel
theorem dX4_value_64 : decode cX4_value 64 = .ok (.iload_n 2, 1) := by decide +kernel
theorem dX4_value_65 : decode cX4_value 65 = .ok (.invokestatic 172, 3) := by decide +kernel
theorem dX4_value_68 : decode cX4_value 68 = .ok (.lreturn, 1) := by decide +kernel
/-! ===== FlowMeters.value(II)J ===== -/
def fX4_value (N : Nat) (c_t_now_knots : Int32) (c_t_now_flows : Int32) (c_t_now_readSet : Int32) (c_t_now_from : Nat → Int32) (c_t_now_to : Nat → Int32) (c_t_now_reading : Nat → Int32) (c_t_now_miss : Nat → Int32) (c_t_groups_least : Nat → Int32) (c_t_fit_unread : Int32) (c_t_fit_below : Int64) (c_t_fit_heaps_least : Nat → Int32) (c_t_fit_pieces_least : Nat → Int32) (c_t_fit_sides_least : Nat → Int32) (c_t_fit_rows : Nat → Nat → Int64) (c_t_fit_surplus : Nat → Int64) (x1 : Int32) (x2 : Int32) : Option (Int64 × (Nat → Int32) × Int32 × Int64 × (Nat → Int32) × (Nat → Int32) × (Nat → Int32) × (Nat → Nat → Int64) × (Nat → Int64)) :=
  (fX4_isFlow c_t_now_flows x1).bind fun v1 =>
  (if v1 = 0 then
    some ((-1), c_t_groups_least, c_t_fit_unread, c_t_fit_below, c_t_fit_heaps_least, c_t_fit_pieces_least, c_t_fit_sides_least, c_t_fit_rows, c_t_fit_surplus)
  else
    (fX4_isPart x2).bind fun v4 =>
    (if v4 = 0 then
      some ((-1), c_t_groups_least, c_t_fit_unread, c_t_fit_below, c_t_fit_heaps_least, c_t_fit_pieces_least, c_t_fit_sides_least, c_t_fit_rows, c_t_fit_surplus)
    else
      (fX4_isSeen N c_t_now_flows c_t_now_readSet c_t_now_from c_t_now_to c_t_groups_least x1).bind fun (v7, v8) =>
      (if v7 = 0 then
        some ((-1), v8, c_t_fit_unread, c_t_fit_below, c_t_fit_heaps_least, c_t_fit_pieces_least, c_t_fit_sides_least, c_t_fit_rows, c_t_fit_surplus)
      else
        (fX3_unreadSet c_t_now_flows c_t_now_readSet).bind fun v11 =>
        (fX0_solve N c_t_fit_unread c_t_fit_below c_t_fit_heaps_least c_t_fit_pieces_least c_t_fit_rows c_t_fit_surplus c_t_now_knots c_t_now_flows c_t_now_from c_t_now_to c_t_now_reading c_t_now_miss v11).bind fun (v13, v14, v15, v16, v17, v18) =>
        (fX0_valueAbove N v13 v14 v15 c_t_fit_sides_least v17 c_t_now_flows c_t_now_from c_t_now_to c_t_now_reading c_t_now_miss x1).bind fun (v20, v21) =>
        (fX4_lowestTerms N v20 v14 x2).bind fun v23 =>
        some (v23, v8, v13, v14, v15, v16, v21, v17, v18))))
theorem fX4_value_33 : yF wsX4_value RX4 33 4 3 RX4 TX4 7 := ⟨rfl, by decide, by decide +kernel, by decide +kernel⟩
theorem fX4_value_10 : yF wsX4_value RX4 10 4 0 RX4 TX4 7 := ⟨rfl, by decide, by decide +kernel, by decide +kernel⟩
theorem fX4_value_168 : yF wsX4_value RX4 168 0 6 RX0 TX0 7 := ⟨rfl, by decide, by decide +kernel, by decide +kernel⟩
abbrev rmX4_value : Room := { frames := 4, cells := 0, slots := 0, locals := 123 }
theorem eX4_value : yY yX4_value wsX4_value cX4_value 3 (some .long) rmX4_value 2 := ⟨⟨_, rfl⟩, rfl, rfl, by decide, by decide, by decide +kernel⟩
set_option maxHeartbeats 4000000 in
set_option maxRecDepth 100000 in
theorem mX4_value {l : Launch} {D : va_G} {sz : Nat} {cI cJ cZ cW cR : ClassId} {N : Nat} {h_t : Nat} {A_t : Nat → Nat} {A_t_now : Nat → Nat} {A_t_groups : Nat → Nat} {A_t_fit : Nat → Nat} {A_t_fit_heaps : Nat → Nat} {A_t_fit_pieces : Nat → Nat} {A_t_fit_sides : Nat → Nat} {A_t_fit_rows : Nat → Nat} {c_t_now_knots : Int32} {c_t_now_flows : Int32} {c_t_now_readSet : Int32} {c_t_now_from : Nat → Int32} {c_t_now_to : Nat → Int32} {c_t_now_reading : Nat → Int32} {c_t_now_miss : Nat → Int32} {c_t_groups_least : Nat → Int32} {c_t_fit_unread : Int32} {c_t_fit_below : Int64} {c_t_fit_heaps_least : Nat → Int32} {c_t_fit_pieces_least : Nat → Int32} {c_t_fit_sides_least : Nat → Int32} {c_t_fit_rows : Nat → Nat → Int64} {c_t_fit_surplus : Nat → Int64} {x1 : Int32} {x2 : Int32} {r : Int64} {zc_t_groups_least : Nat → Int32} {zc_t_fit_unread : Int32} {zc_t_fit_below : Int64} {zc_t_fit_heaps_least : Nat → Int32} {zc_t_fit_pieces_least : Nat → Int32} {zc_t_fit_sides_least : Nat → Int32} {zc_t_fit_rows : Nat → Nat → Int64} {zc_t_fit_surplus : Nat → Int64} (hf : fX4_value N c_t_now_knots c_t_now_flows c_t_now_readSet c_t_now_from c_t_now_to c_t_now_reading c_t_now_miss c_t_groups_least c_t_fit_unread c_t_fit_below c_t_fit_heaps_least c_t_fit_pieces_least c_t_fit_sides_least c_t_fit_rows c_t_fit_surplus x1 x2 = some (r, zc_t_groups_least, zc_t_fit_unread, zc_t_fit_below, zc_t_fit_heaps_least, zc_t_fit_pieces_least, zc_t_fit_sides_least, zc_t_fit_rows, zc_t_fit_surplus)) : Met l yX4_value wsX4_value rmX4_value (yP D (yT cI cJ cZ cW cR) [(h_t, oM A_t), (A_t 0, oW A_t_now c_t_now_knots c_t_now_flows c_t_now_readSet), (A_t_now 0, eI cI 10 c_t_now_from), (A_t_now 1, eI cI 10 c_t_now_to), (A_t_now 2, eI cI 10 c_t_now_reading), (A_t_now 3, eI cI 10 c_t_now_miss), (A_t 2, oG A_t_groups), (A_t_groups 0, eI cI 6 c_t_groups_least), (A_t 3, oF A_t_fit c_t_fit_unread c_t_fit_below), (A_t_fit 0, oG A_t_fit_heaps), (A_t_fit_heaps 0, eI cI 6 c_t_fit_heaps_least), (A_t_fit 1, oG A_t_fit_pieces), (A_t_fit_pieces 0, eI cI 6 c_t_fit_pieces_least), (A_t_fit 2, oG A_t_fit_sides), (A_t_fit_sides 0, eI cI 6 c_t_fit_sides_least), (A_t_fit 3, eQ cR 6 A_t_fit_rows), (A_t_fit_rows 0, eJ cJ 7 (c_t_fit_rows 0)), (A_t_fit_rows 1, eJ cJ 7 (c_t_fit_rows 1)), (A_t_fit_rows 2, eJ cJ 7 (c_t_fit_rows 2)), (A_t_fit_rows 3, eJ cJ 7 (c_t_fit_rows 3)), (A_t_fit_rows 4, eJ cJ 7 (c_t_fit_rows 4)), (A_t_fit_rows 5, eJ cJ 7 (c_t_fit_rows 5)), (A_t_fit 4, eJ cJ 6 c_t_fit_surplus)] sz [.ref h_t, .int x1, .int x2]) (yQl D (yT cI cJ cZ cW cR) r [(h_t, oM A_t), (A_t 0, oW A_t_now c_t_now_knots c_t_now_flows c_t_now_readSet), (A_t_now 0, eI cI 10 c_t_now_from), (A_t_now 1, eI cI 10 c_t_now_to), (A_t_now 2, eI cI 10 c_t_now_reading), (A_t_now 3, eI cI 10 c_t_now_miss), (A_t 2, oG A_t_groups), (A_t_groups 0, eI cI 6 zc_t_groups_least), (A_t 3, oF A_t_fit zc_t_fit_unread zc_t_fit_below), (A_t_fit 0, oG A_t_fit_heaps), (A_t_fit_heaps 0, eI cI 6 zc_t_fit_heaps_least), (A_t_fit 1, oG A_t_fit_pieces), (A_t_fit_pieces 0, eI cI 6 zc_t_fit_pieces_least), (A_t_fit 2, oG A_t_fit_sides), (A_t_fit_sides 0, eI cI 6 zc_t_fit_sides_least), (A_t_fit 3, eQ cR 6 A_t_fit_rows), (A_t_fit_rows 0, eJ cJ 7 (zc_t_fit_rows 0)), (A_t_fit_rows 1, eJ cJ 7 (zc_t_fit_rows 1)), (A_t_fit_rows 2, eJ cJ 7 (zc_t_fit_rows 2)), (A_t_fit_rows 3, eJ cJ 7 (zc_t_fit_rows 3)), (A_t_fit_rows 4, eJ cJ 7 (zc_t_fit_rows 4)), (A_t_fit_rows 5, eJ cJ 7 (zc_t_fit_rows 5)), (A_t_fit 4, eJ cJ 6 zc_t_fit_surplus)] (va_A [(h_t, oM A_t), (A_t 0, oW A_t_now c_t_now_knots c_t_now_flows c_t_now_readSet), (A_t_now 0, eI cI 10 c_t_now_from), (A_t_now 1, eI cI 10 c_t_now_to), (A_t_now 2, eI cI 10 c_t_now_reading), (A_t_now 3, eI cI 10 c_t_now_miss), (A_t 2, oG A_t_groups), (A_t_groups 0, eI cI 6 c_t_groups_least), (A_t 3, oF A_t_fit c_t_fit_unread c_t_fit_below), (A_t_fit 0, oG A_t_fit_heaps), (A_t_fit_heaps 0, eI cI 6 c_t_fit_heaps_least), (A_t_fit 1, oG A_t_fit_pieces), (A_t_fit_pieces 0, eI cI 6 c_t_fit_pieces_least), (A_t_fit 2, oG A_t_fit_sides), (A_t_fit_sides 0, eI cI 6 c_t_fit_sides_least), (A_t_fit 3, eQ cR 6 A_t_fit_rows), (A_t_fit_rows 0, eJ cJ 7 (c_t_fit_rows 0)), (A_t_fit_rows 1, eJ cJ 7 (c_t_fit_rows 1)), (A_t_fit_rows 2, eJ cJ 7 (c_t_fit_rows 2)), (A_t_fit_rows 3, eJ cJ 7 (c_t_fit_rows 3)), (A_t_fit_rows 4, eJ cJ 7 (c_t_fit_rows 4)), (A_t_fit_rows 5, eJ cJ 7 (c_t_fit_rows 5)), (A_t_fit 4, eJ cJ 6 c_t_fit_surplus)] sz)) 0 0 (va_A [(h_t, oM A_t), (A_t 0, oW A_t_now c_t_now_knots c_t_now_flows c_t_now_readSet), (A_t_now 0, eI cI 10 c_t_now_from), (A_t_now 1, eI cI 10 c_t_now_to), (A_t_now 2, eI cI 10 c_t_now_reading), (A_t_now 3, eI cI 10 c_t_now_miss), (A_t 2, oG A_t_groups), (A_t_groups 0, eI cI 6 c_t_groups_least), (A_t 3, oF A_t_fit c_t_fit_unread c_t_fit_below), (A_t_fit 0, oG A_t_fit_heaps), (A_t_fit_heaps 0, eI cI 6 c_t_fit_heaps_least), (A_t_fit 1, oG A_t_fit_pieces), (A_t_fit_pieces 0, eI cI 6 c_t_fit_pieces_least), (A_t_fit 2, oG A_t_fit_sides), (A_t_fit_sides 0, eI cI 6 c_t_fit_sides_least), (A_t_fit 3, eQ cR 6 A_t_fit_rows), (A_t_fit_rows 0, eJ cJ 7 (c_t_fit_rows 0)), (A_t_fit_rows 1, eJ cJ 7 (c_t_fit_rows 1)), (A_t_fit_rows 2, eJ cJ 7 (c_t_fit_rows 2)), (A_t_fit_rows 3, eJ cJ 7 (c_t_fit_rows 3)), (A_t_fit_rows 4, eJ cJ 7 (c_t_fit_rows 4)), (A_t_fit_rows 5, eJ cJ 7 (c_t_fit_rows 5)), (A_t_fit 4, eJ cJ 6 c_t_fit_surplus)] sz) := by
  refine yM (cc := cX4_value) (maxL := 3) (ret := (some .long)) RX4 (by decide) rfl rfl (Nat.le_of_ble_eq_true rfl) ?_
  intro p e s m below meth c Γ hr
  show yG p l e (headSpec wsX4_value rmX4_value).room s m (List.toArray [.ref h_t, .int x1, .int x2]) below meth c D (va_A [(h_t, oM A_t), (A_t 0, oW A_t_now c_t_now_knots c_t_now_flows c_t_now_readSet), (A_t_now 0, eI cI 10 c_t_now_from), (A_t_now 1, eI cI 10 c_t_now_to), (A_t_now 2, eI cI 10 c_t_now_reading), (A_t_now 3, eI cI 10 c_t_now_miss), (A_t 2, oG A_t_groups), (A_t_groups 0, eI cI 6 c_t_groups_least), (A_t 3, oF A_t_fit c_t_fit_unread c_t_fit_below), (A_t_fit 0, oG A_t_fit_heaps), (A_t_fit_heaps 0, eI cI 6 c_t_fit_heaps_least), (A_t_fit 1, oG A_t_fit_pieces), (A_t_fit_pieces 0, eI cI 6 c_t_fit_pieces_least), (A_t_fit 2, oG A_t_fit_sides), (A_t_fit_sides 0, eI cI 6 c_t_fit_sides_least), (A_t_fit 3, eQ cR 6 A_t_fit_rows), (A_t_fit_rows 0, eJ cJ 7 (c_t_fit_rows 0)), (A_t_fit_rows 1, eJ cJ 7 (c_t_fit_rows 1)), (A_t_fit_rows 2, eJ cJ 7 (c_t_fit_rows 2)), (A_t_fit_rows 3, eJ cJ 7 (c_t_fit_rows 3)), (A_t_fit_rows 4, eJ cJ 7 (c_t_fit_rows 4)), (A_t_fit_rows 5, eJ cJ 7 (c_t_fit_rows 5)), (A_t_fit 4, eJ cJ 6 c_t_fit_surplus)] sz) 3 0 0 (MQ below (yQl D (yT cI cJ cZ cW cR) r [(h_t, oM A_t), (A_t 0, oW A_t_now c_t_now_knots c_t_now_flows c_t_now_readSet), (A_t_now 0, eI cI 10 c_t_now_from), (A_t_now 1, eI cI 10 c_t_now_to), (A_t_now 2, eI cI 10 c_t_now_reading), (A_t_now 3, eI cI 10 c_t_now_miss), (A_t 2, oG A_t_groups), (A_t_groups 0, eI cI 6 zc_t_groups_least), (A_t 3, oF A_t_fit zc_t_fit_unread zc_t_fit_below), (A_t_fit 0, oG A_t_fit_heaps), (A_t_fit_heaps 0, eI cI 6 zc_t_fit_heaps_least), (A_t_fit 1, oG A_t_fit_pieces), (A_t_fit_pieces 0, eI cI 6 zc_t_fit_pieces_least), (A_t_fit 2, oG A_t_fit_sides), (A_t_fit_sides 0, eI cI 6 zc_t_fit_sides_least), (A_t_fit 3, eQ cR 6 A_t_fit_rows), (A_t_fit_rows 0, eJ cJ 7 (zc_t_fit_rows 0)), (A_t_fit_rows 1, eJ cJ 7 (zc_t_fit_rows 1)), (A_t_fit_rows 2, eJ cJ 7 (zc_t_fit_rows 2)), (A_t_fit_rows 3, eJ cJ 7 (zc_t_fit_rows 3)), (A_t_fit_rows 4, eJ cJ 7 (zc_t_fit_rows 4)), (A_t_fit_rows 5, eJ cJ 7 (zc_t_fit_rows 5)), (A_t_fit 4, eJ cJ 6 zc_t_fit_surplus)] (va_A [(h_t, oM A_t), (A_t 0, oW A_t_now c_t_now_knots c_t_now_flows c_t_now_readSet), (A_t_now 0, eI cI 10 c_t_now_from), (A_t_now 1, eI cI 10 c_t_now_to), (A_t_now 2, eI cI 10 c_t_now_reading), (A_t_now 3, eI cI 10 c_t_now_miss), (A_t 2, oG A_t_groups), (A_t_groups 0, eI cI 6 c_t_groups_least), (A_t 3, oF A_t_fit c_t_fit_unread c_t_fit_below), (A_t_fit 0, oG A_t_fit_heaps), (A_t_fit_heaps 0, eI cI 6 c_t_fit_heaps_least), (A_t_fit 1, oG A_t_fit_pieces), (A_t_fit_pieces 0, eI cI 6 c_t_fit_pieces_least), (A_t_fit 2, oG A_t_fit_sides), (A_t_fit_sides 0, eI cI 6 c_t_fit_sides_least), (A_t_fit 3, eQ cR 6 A_t_fit_rows), (A_t_fit_rows 0, eJ cJ 7 (c_t_fit_rows 0)), (A_t_fit_rows 1, eJ cJ 7 (c_t_fit_rows 1)), (A_t_fit_rows 2, eJ cJ 7 (c_t_fit_rows 2)), (A_t_fit_rows 3, eJ cJ 7 (c_t_fit_rows 3)), (A_t_fit_rows 4, eJ cJ 7 (c_t_fit_rows 4)), (A_t_fit_rows 5, eJ cJ 7 (c_t_fit_rows 5)), (A_t_fit 4, eJ cJ 6 c_t_fit_surplus)] sz)) (List.toArray [.ref h_t, .int x1, .int x2]) s 0 0 (va_A [(h_t, oM A_t), (A_t 0, oW A_t_now c_t_now_knots c_t_now_flows c_t_now_readSet), (A_t_now 0, eI cI 10 c_t_now_from), (A_t_now 1, eI cI 10 c_t_now_to), (A_t_now 2, eI cI 10 c_t_now_reading), (A_t_now 3, eI cI 10 c_t_now_miss), (A_t 2, oG A_t_groups), (A_t_groups 0, eI cI 6 c_t_groups_least), (A_t 3, oF A_t_fit c_t_fit_unread c_t_fit_below), (A_t_fit 0, oG A_t_fit_heaps), (A_t_fit_heaps 0, eI cI 6 c_t_fit_heaps_least), (A_t_fit 1, oG A_t_fit_pieces), (A_t_fit_pieces 0, eI cI 6 c_t_fit_pieces_least), (A_t_fit 2, oG A_t_fit_sides), (A_t_fit_sides 0, eI cI 6 c_t_fit_sides_least), (A_t_fit 3, eQ cR 6 A_t_fit_rows), (A_t_fit_rows 0, eJ cJ 7 (c_t_fit_rows 0)), (A_t_fit_rows 1, eJ cJ 7 (c_t_fit_rows 1)), (A_t_fit_rows 2, eJ cJ 7 (c_t_fit_rows 2)), (A_t_fit_rows 3, eJ cJ 7 (c_t_fit_rows 3)), (A_t_fit_rows 4, eJ cJ 7 (c_t_fit_rows 4)), (A_t_fit_rows 5, eJ cJ 7 (c_t_fit_rows 5)), (A_t_fit 4, eJ cJ 6 c_t_fit_surplus)] sz)) 0 [(0, .ref h_t), (1, .int x1), (2, .int x2)] [] [(h_t, oM A_t), (A_t 0, oW A_t_now c_t_now_knots c_t_now_flows c_t_now_readSet), (A_t_now 0, eI cI 10 c_t_now_from), (A_t_now 1, eI cI 10 c_t_now_to), (A_t_now 2, eI cI 10 c_t_now_reading), (A_t_now 3, eI cI 10 c_t_now_miss), (A_t 2, oG A_t_groups), (A_t_groups 0, eI cI 6 c_t_groups_least), (A_t 3, oF A_t_fit c_t_fit_unread c_t_fit_below), (A_t_fit 0, oG A_t_fit_heaps), (A_t_fit_heaps 0, eI cI 6 c_t_fit_heaps_least), (A_t_fit 1, oG A_t_fit_pieces), (A_t_fit_pieces 0, eI cI 6 c_t_fit_pieces_least), (A_t_fit 2, oG A_t_fit_sides), (A_t_fit_sides 0, eI cI 6 c_t_fit_sides_least), (A_t_fit 3, eQ cR 6 A_t_fit_rows), (A_t_fit_rows 0, eJ cJ 7 (c_t_fit_rows 0)), (A_t_fit_rows 1, eJ cJ 7 (c_t_fit_rows 1)), (A_t_fit_rows 2, eJ cJ 7 (c_t_fit_rows 2)), (A_t_fit_rows 3, eJ cJ 7 (c_t_fit_rows 3)), (A_t_fit_rows 4, eJ cJ 7 (c_t_fit_rows 4)), (A_t_fit_rows 5, eJ cJ 7 (c_t_fit_rows 5)), (A_t_fit 4, eJ cJ 6 c_t_fit_surplus)]
  unfold fX4_value at hf
  refine g_aload_n Γ 0 dX4_value_0 rfl ?_
  refine g_iload_n Γ 1 dX4_value_1 rfl ?_
  obtain ⟨v1, e2, hf⟩ := ya_ob hf
  refine g_vi (q := (RX4, TX4, 7)) (wr := [(A_t_now 0, eI cI 10 c_t_now_from), (A_t_now 1, eI cI 10 c_t_now_to), (A_t_now 2, eI cI 10 c_t_now_reading), (A_t_now 3, eI cI 10 c_t_now_miss), (A_t 2, oG A_t_groups), (A_t_groups 0, eI cI 6 c_t_groups_least), (A_t 3, oF A_t_fit c_t_fit_unread c_t_fit_below), (A_t_fit 0, oG A_t_fit_heaps), (A_t_fit_heaps 0, eI cI 6 c_t_fit_heaps_least), (A_t_fit 1, oG A_t_fit_pieces), (A_t_fit_pieces 0, eI cI 6 c_t_fit_pieces_least), (A_t_fit 2, oG A_t_fit_sides), (A_t_fit_sides 0, eI cI 6 c_t_fit_sides_least), (A_t_fit 3, eQ cR 6 A_t_fit_rows), (A_t_fit_rows 0, eJ cJ 7 (c_t_fit_rows 0)), (A_t_fit_rows 1, eJ cJ 7 (c_t_fit_rows 1)), (A_t_fit_rows 2, eJ cJ 7 (c_t_fit_rows 2)), (A_t_fit_rows 3, eJ cJ 7 (c_t_fit_rows 3)), (A_t_fit_rows 4, eJ cJ 7 (c_t_fit_rows 4)), (A_t_fit_rows 5, eJ cJ 7 (c_t_fit_rows 5)), (A_t_fit 4, eJ cJ 6 c_t_fit_surplus)]) (ws' := [(A_t_now 0, eI cI 10 c_t_now_from), (A_t_now 1, eI cI 10 c_t_now_to), (A_t_now 2, eI cI 10 c_t_now_reading), (A_t_now 3, eI cI 10 c_t_now_miss), (A_t 2, oG A_t_groups), (A_t_groups 0, eI cI 6 c_t_groups_least), (A_t 3, oF A_t_fit c_t_fit_unread c_t_fit_below), (A_t_fit 0, oG A_t_fit_heaps), (A_t_fit_heaps 0, eI cI 6 c_t_fit_heaps_least), (A_t_fit 1, oG A_t_fit_pieces), (A_t_fit_pieces 0, eI cI 6 c_t_fit_pieces_least), (A_t_fit 2, oG A_t_fit_sides), (A_t_fit_sides 0, eI cI 6 c_t_fit_sides_least), (A_t_fit 3, eQ cR 6 A_t_fit_rows), (A_t_fit_rows 0, eJ cJ 7 (c_t_fit_rows 0)), (A_t_fit_rows 1, eJ cJ 7 (c_t_fit_rows 1)), (A_t_fit_rows 2, eJ cJ 7 (c_t_fit_rows 2)), (A_t_fit_rows 3, eJ cJ 7 (c_t_fit_rows 3)), (A_t_fit_rows 4, eJ cJ 7 (c_t_fit_rows 4)), (A_t_fit_rows 5, eJ cJ 7 (c_t_fit_rows 5)), (A_t_fit 4, eJ cJ 6 c_t_fit_surplus), (h_t, oM A_t), (A_t 0, oW A_t_now c_t_now_knots c_t_now_flows c_t_now_readSet)]) Γ (fun sz => mX4_isFlow (l := l) (D := D) (sz := sz) (cI := cI) (cJ := cJ) (cZ := cZ) (cW := cW) (cR := cR) (h_t := h_t) (A_t := A_t) (A_t_now := A_t_now) (hf := e2)) eX4_isFlow gX4_value_X4_isFlow rfl rfl 0 rfl rfl rfl (Nat.le_of_ble_eq_true rfl) ⟨Nat.le_of_ble_eq_true rfl, Nat.le_of_ble_eq_true rfl⟩ dX4_value_2 [0, 1] [2, 3, 4, 5, 6, 7, 8, 9, 10, 11, 12, 13, 14, 15, 16, 17, 18, 19, 20, 21, 22] rfl rfl rfl rfl (by decide) rfl ?_
  refine g_if_eq Γ 23 dX4_value_5 (by decide) (fun c3 => ?_) (fun c3 => ?_)
  · have hf := ya_if1 c3 hf
    refine g_ldc2 (v := (-1)) Γ dX4_value_23 (by decide +kernel) ?_
    cases hf
    exact g_lret Γ hr dX4_value_26 [21, 22, 0, 1, 2, 3, 4, 5, 6, 7, 8, 9, 10, 11, 12, 13, 14, 15, 16, 17, 18, 19, 20] rfl rfl
  · have hf := ya_if2 c3 hf
    refine g_iload_n Γ 2 dX4_value_8 rfl ?_
    obtain ⟨v4, e5, hf⟩ := ya_ob hf
    refine g_si (wr := [(A_t_now 0, eI cI 10 c_t_now_from), (A_t_now 1, eI cI 10 c_t_now_to), (A_t_now 2, eI cI 10 c_t_now_reading), (A_t_now 3, eI cI 10 c_t_now_miss), (A_t 2, oG A_t_groups), (A_t_groups 0, eI cI 6 c_t_groups_least), (A_t 3, oF A_t_fit c_t_fit_unread c_t_fit_below), (A_t_fit 0, oG A_t_fit_heaps), (A_t_fit_heaps 0, eI cI 6 c_t_fit_heaps_least), (A_t_fit 1, oG A_t_fit_pieces), (A_t_fit_pieces 0, eI cI 6 c_t_fit_pieces_least), (A_t_fit 2, oG A_t_fit_sides), (A_t_fit_sides 0, eI cI 6 c_t_fit_sides_least), (A_t_fit 3, eQ cR 6 A_t_fit_rows), (A_t_fit_rows 0, eJ cJ 7 (c_t_fit_rows 0)), (A_t_fit_rows 1, eJ cJ 7 (c_t_fit_rows 1)), (A_t_fit_rows 2, eJ cJ 7 (c_t_fit_rows 2)), (A_t_fit_rows 3, eJ cJ 7 (c_t_fit_rows 3)), (A_t_fit_rows 4, eJ cJ 7 (c_t_fit_rows 4)), (A_t_fit_rows 5, eJ cJ 7 (c_t_fit_rows 5)), (A_t_fit 4, eJ cJ 6 c_t_fit_surplus), (h_t, oM A_t), (A_t 0, oW A_t_now c_t_now_knots c_t_now_flows c_t_now_readSet)]) (ws' := [(A_t_now 0, eI cI 10 c_t_now_from), (A_t_now 1, eI cI 10 c_t_now_to), (A_t_now 2, eI cI 10 c_t_now_reading), (A_t_now 3, eI cI 10 c_t_now_miss), (A_t 2, oG A_t_groups), (A_t_groups 0, eI cI 6 c_t_groups_least), (A_t 3, oF A_t_fit c_t_fit_unread c_t_fit_below), (A_t_fit 0, oG A_t_fit_heaps), (A_t_fit_heaps 0, eI cI 6 c_t_fit_heaps_least), (A_t_fit 1, oG A_t_fit_pieces), (A_t_fit_pieces 0, eI cI 6 c_t_fit_pieces_least), (A_t_fit 2, oG A_t_fit_sides), (A_t_fit_sides 0, eI cI 6 c_t_fit_sides_least), (A_t_fit 3, eQ cR 6 A_t_fit_rows), (A_t_fit_rows 0, eJ cJ 7 (c_t_fit_rows 0)), (A_t_fit_rows 1, eJ cJ 7 (c_t_fit_rows 1)), (A_t_fit_rows 2, eJ cJ 7 (c_t_fit_rows 2)), (A_t_fit_rows 3, eJ cJ 7 (c_t_fit_rows 3)), (A_t_fit_rows 4, eJ cJ 7 (c_t_fit_rows 4)), (A_t_fit_rows 5, eJ cJ 7 (c_t_fit_rows 5)), (A_t_fit 4, eJ cJ 6 c_t_fit_surplus), (h_t, oM A_t), (A_t 0, oW A_t_now c_t_now_knots c_t_now_flows c_t_now_readSet)]) Γ (fun sz => mX4_isPart (l := l) (D := D) (sz := sz) (cI := cI) (cJ := cJ) (cZ := cZ) (cW := cW) (cR := cR)  (hf := e5)) eX4_isPart ggX4_value_X4_isPart (by decide +kernel) (by decide +kernel) (by decide +kernel) rfl rfl (Nat.le_of_ble_eq_true rfl) ⟨Nat.le_of_ble_eq_true rfl, Nat.le_of_ble_eq_true rfl⟩ dX4_value_9 [] [0, 1, 2, 3, 4, 5, 6, 7, 8, 9, 10, 11, 12, 13, 14, 15, 16, 17, 18, 19, 20, 21, 22] rfl rfl rfl rfl (by decide) rfl ?_
    refine g_if_eq Γ 23 dX4_value_12 (by decide) (fun c6 => ?_) (fun c6 => ?_)
    · have hf := ya_if1 c6 hf
      refine g_ldc2 (v := (-1)) Γ dX4_value_23 (by decide +kernel) ?_
      cases hf
      exact g_lret Γ hr dX4_value_26 [21, 22, 0, 1, 2, 3, 4, 5, 6, 7, 8, 9, 10, 11, 12, 13, 14, 15, 16, 17, 18, 19, 20] rfl rfl
    · have hf := ya_if2 c6 hf
      refine g_aload_n Γ 0 dX4_value_15 rfl ?_
      refine g_iload_n Γ 1 dX4_value_16 rfl ?_
      obtain ⟨⟨v7, v8⟩, e9, hf⟩ := ya_ob hf
      refine g_vi (q := (RX4, TX4, 7)) (wr := [(A_t_now 2, eI cI 10 c_t_now_reading), (A_t_now 3, eI cI 10 c_t_now_miss), (A_t 3, oF A_t_fit c_t_fit_unread c_t_fit_below), (A_t_fit 0, oG A_t_fit_heaps), (A_t_fit_heaps 0, eI cI 6 c_t_fit_heaps_least), (A_t_fit 1, oG A_t_fit_pieces), (A_t_fit_pieces 0, eI cI 6 c_t_fit_pieces_least), (A_t_fit 2, oG A_t_fit_sides), (A_t_fit_sides 0, eI cI 6 c_t_fit_sides_least), (A_t_fit 3, eQ cR 6 A_t_fit_rows), (A_t_fit_rows 0, eJ cJ 7 (c_t_fit_rows 0)), (A_t_fit_rows 1, eJ cJ 7 (c_t_fit_rows 1)), (A_t_fit_rows 2, eJ cJ 7 (c_t_fit_rows 2)), (A_t_fit_rows 3, eJ cJ 7 (c_t_fit_rows 3)), (A_t_fit_rows 4, eJ cJ 7 (c_t_fit_rows 4)), (A_t_fit_rows 5, eJ cJ 7 (c_t_fit_rows 5)), (A_t_fit 4, eJ cJ 6 c_t_fit_surplus)]) (ws' := [(A_t_now 2, eI cI 10 c_t_now_reading), (A_t_now 3, eI cI 10 c_t_now_miss), (A_t 3, oF A_t_fit c_t_fit_unread c_t_fit_below), (A_t_fit 0, oG A_t_fit_heaps), (A_t_fit_heaps 0, eI cI 6 c_t_fit_heaps_least), (A_t_fit 1, oG A_t_fit_pieces), (A_t_fit_pieces 0, eI cI 6 c_t_fit_pieces_least), (A_t_fit 2, oG A_t_fit_sides), (A_t_fit_sides 0, eI cI 6 c_t_fit_sides_least), (A_t_fit 3, eQ cR 6 A_t_fit_rows), (A_t_fit_rows 0, eJ cJ 7 (c_t_fit_rows 0)), (A_t_fit_rows 1, eJ cJ 7 (c_t_fit_rows 1)), (A_t_fit_rows 2, eJ cJ 7 (c_t_fit_rows 2)), (A_t_fit_rows 3, eJ cJ 7 (c_t_fit_rows 3)), (A_t_fit_rows 4, eJ cJ 7 (c_t_fit_rows 4)), (A_t_fit_rows 5, eJ cJ 7 (c_t_fit_rows 5)), (A_t_fit 4, eJ cJ 6 c_t_fit_surplus), (h_t, oM A_t), (A_t 0, oW A_t_now c_t_now_knots c_t_now_flows c_t_now_readSet), (A_t_now 0, eI cI 10 c_t_now_from), (A_t_now 1, eI cI 10 c_t_now_to), (A_t 2, oG A_t_groups), (A_t_groups 0, eI cI 6 v8)]) Γ (fun sz => mX4_isSeen (l := l) (D := D) (sz := sz) (cI := cI) (cJ := cJ) (cZ := cZ) (cW := cW) (cR := cR) (h_t := h_t) (A_t := A_t) (A_t_now := A_t_now) (A_t_groups := A_t_groups) (hf := e9)) eX4_isSeen gX4_value_X4_isSeen rfl rfl 0 rfl rfl rfl (Nat.le_of_ble_eq_true rfl) ⟨Nat.le_of_ble_eq_true rfl, Nat.le_of_ble_eq_true rfl⟩ dX4_value_17 [21, 22, 0, 1, 4, 5] [2, 3, 6, 7, 8, 9, 10, 11, 12, 13, 14, 15, 16, 17, 18, 19, 20] rfl rfl rfl rfl (by decide) rfl ?_
      refine g_if_ne Γ 27 dX4_value_20 (by decide) (fun c10 => ?_) (fun c10 => ?_)
      · have hf := ya_if2 c10 hf
        refine g_aload_n Γ 0 dX4_value_27 rfl ?_
        refine g_get Γ fX4_value_33 17 rfl rfl dX4_value_28 ?_
        refine g_aload_n Γ 0 dX4_value_31 rfl ?_
        refine g_get Γ fX4_value_10 17 rfl rfl dX4_value_32 ?_
        refine g_aload_n Γ 0 dX4_value_35 rfl ?_
        refine g_get Γ fX4_value_10 17 rfl rfl dX4_value_36 ?_
        obtain ⟨v11, e12, hf⟩ := ya_ob hf
        refine g_vi (q := (RX3, TX3, 11)) (wr := [(A_t_now 2, eI cI 10 c_t_now_reading), (A_t_now 3, eI cI 10 c_t_now_miss), (A_t 3, oF A_t_fit c_t_fit_unread c_t_fit_below), (A_t_fit 0, oG A_t_fit_heaps), (A_t_fit_heaps 0, eI cI 6 c_t_fit_heaps_least), (A_t_fit 1, oG A_t_fit_pieces), (A_t_fit_pieces 0, eI cI 6 c_t_fit_pieces_least), (A_t_fit 2, oG A_t_fit_sides), (A_t_fit_sides 0, eI cI 6 c_t_fit_sides_least), (A_t_fit 3, eQ cR 6 A_t_fit_rows), (A_t_fit_rows 0, eJ cJ 7 (c_t_fit_rows 0)), (A_t_fit_rows 1, eJ cJ 7 (c_t_fit_rows 1)), (A_t_fit_rows 2, eJ cJ 7 (c_t_fit_rows 2)), (A_t_fit_rows 3, eJ cJ 7 (c_t_fit_rows 3)), (A_t_fit_rows 4, eJ cJ 7 (c_t_fit_rows 4)), (A_t_fit_rows 5, eJ cJ 7 (c_t_fit_rows 5)), (A_t_fit 4, eJ cJ 6 c_t_fit_surplus), (h_t, oM A_t), (A_t_now 0, eI cI 10 c_t_now_from), (A_t_now 1, eI cI 10 c_t_now_to), (A_t 2, oG A_t_groups), (A_t_groups 0, eI cI 6 v8)]) (ws' := [(A_t_now 2, eI cI 10 c_t_now_reading), (A_t_now 3, eI cI 10 c_t_now_miss), (A_t 3, oF A_t_fit c_t_fit_unread c_t_fit_below), (A_t_fit 0, oG A_t_fit_heaps), (A_t_fit_heaps 0, eI cI 6 c_t_fit_heaps_least), (A_t_fit 1, oG A_t_fit_pieces), (A_t_fit_pieces 0, eI cI 6 c_t_fit_pieces_least), (A_t_fit 2, oG A_t_fit_sides), (A_t_fit_sides 0, eI cI 6 c_t_fit_sides_least), (A_t_fit 3, eQ cR 6 A_t_fit_rows), (A_t_fit_rows 0, eJ cJ 7 (c_t_fit_rows 0)), (A_t_fit_rows 1, eJ cJ 7 (c_t_fit_rows 1)), (A_t_fit_rows 2, eJ cJ 7 (c_t_fit_rows 2)), (A_t_fit_rows 3, eJ cJ 7 (c_t_fit_rows 3)), (A_t_fit_rows 4, eJ cJ 7 (c_t_fit_rows 4)), (A_t_fit_rows 5, eJ cJ 7 (c_t_fit_rows 5)), (A_t_fit 4, eJ cJ 6 c_t_fit_surplus), (h_t, oM A_t), (A_t_now 0, eI cI 10 c_t_now_from), (A_t_now 1, eI cI 10 c_t_now_to), (A_t 2, oG A_t_groups), (A_t_groups 0, eI cI 6 v8), (A_t 0, oW A_t_now c_t_now_knots c_t_now_flows c_t_now_readSet)]) Γ (fun sz => mX3_unreadSet (l := l) (D := D) (sz := sz) (cI := cI) (cJ := cJ) (cZ := cZ) (cW := cW) (cR := cR) (h_t := A_t 0) (A_t := A_t_now) (hf := e12)) eX3_unreadSet gX4_value_X3_unreadSet rfl rfl 0 rfl rfl rfl (Nat.le_of_ble_eq_true rfl) ⟨Nat.le_of_ble_eq_true rfl, Nat.le_of_ble_eq_true rfl⟩ dX4_value_39 [18] [0, 1, 2, 3, 4, 5, 6, 7, 8, 9, 10, 11, 12, 13, 14, 15, 16, 17, 19, 20, 21, 22] rfl rfl rfl rfl (by decide) rfl ?_
        obtain ⟨⟨v13, v14, v15, v16, v17, v18⟩, e19, hf⟩ := ya_ob hf
        refine g_vv (q := (RX0, TX0, 7)) (wr := [(A_t_fit 2, oG A_t_fit_sides), (A_t_fit_sides 0, eI cI 6 c_t_fit_sides_least), (h_t, oM A_t), (A_t 2, oG A_t_groups), (A_t_groups 0, eI cI 6 v8)]) (ws' := [(A_t_fit 2, oG A_t_fit_sides), (A_t_fit_sides 0, eI cI 6 c_t_fit_sides_least), (h_t, oM A_t), (A_t 2, oG A_t_groups), (A_t_groups 0, eI cI 6 v8), (A_t 3, oF A_t_fit v13 v14), (A_t_fit 0, oG A_t_fit_heaps), (A_t_fit_heaps 0, eI cI 6 v15), (A_t_fit 1, oG A_t_fit_pieces), (A_t_fit_pieces 0, eI cI 6 v16), (A_t_fit 3, eQ cR 6 A_t_fit_rows), (A_t_fit_rows 0, eJ cJ 7 (v17 0)), (A_t_fit_rows 1, eJ cJ 7 (v17 1)), (A_t_fit_rows 2, eJ cJ 7 (v17 2)), (A_t_fit_rows 3, eJ cJ 7 (v17 3)), (A_t_fit_rows 4, eJ cJ 7 (v17 4)), (A_t_fit_rows 5, eJ cJ 7 (v17 5)), (A_t_fit 4, eJ cJ 6 v18), (A_t 0, oW A_t_now c_t_now_knots c_t_now_flows c_t_now_readSet), (A_t_now 0, eI cI 10 c_t_now_from), (A_t_now 1, eI cI 10 c_t_now_to), (A_t_now 2, eI cI 10 c_t_now_reading), (A_t_now 3, eI cI 10 c_t_now_miss)]) Γ (fun sz => mX0_solve (l := l) (D := D) (sz := sz) (cI := cI) (cJ := cJ) (cZ := cZ) (cW := cW) (cR := cR) (h_t := A_t 3) (h_w := A_t 0) (A_t := A_t_fit) (A_t_heaps := A_t_fit_heaps) (A_t_pieces := A_t_fit_pieces) (A_t_rows := A_t_fit_rows) (A_w := A_t_now) (hf := e19)) eX0_solve gX4_value_X0_solve rfl rfl 0 rfl rfl rfl (Nat.le_of_ble_eq_true rfl) ⟨Nat.le_of_ble_eq_true rfl, Nat.le_of_ble_eq_true rfl⟩ dX4_value_42 [2, 3, 4, 5, 6, 9, 10, 11, 12, 13, 14, 15, 16, 22, 18, 19, 0, 1] [7, 8, 17, 20, 21] rfl rfl rfl rfl (by decide) rfl ?_
        refine g_aload_n Γ 0 dX4_value_45 rfl ?_
        refine g_get Γ fX4_value_33 2 rfl rfl dX4_value_46 ?_
        refine g_aload_n Γ 0 dX4_value_49 rfl ?_
        refine g_get Γ fX4_value_10 2 rfl rfl dX4_value_50 ?_
        refine g_iload_n Γ 1 dX4_value_53 rfl ?_
        obtain ⟨⟨v20, v21⟩, e22, hf⟩ := ya_ob hf
        refine g_vl (q := (RX0, TX0, 7)) (wr := [(h_t, oM A_t), (A_t 2, oG A_t_groups), (A_t_groups 0, eI cI 6 v8), (A_t_fit 1, oG A_t_fit_pieces), (A_t_fit_pieces 0, eI cI 6 v16), (A_t_fit 4, eJ cJ 6 v18)]) (ws' := [(h_t, oM A_t), (A_t 2, oG A_t_groups), (A_t_groups 0, eI cI 6 v8), (A_t_fit 1, oG A_t_fit_pieces), (A_t_fit_pieces 0, eI cI 6 v16), (A_t_fit 4, eJ cJ 6 v18), (A_t 3, oF A_t_fit v13 v14), (A_t_fit 0, oG A_t_fit_heaps), (A_t_fit_heaps 0, eI cI 6 v15), (A_t_fit 2, oG A_t_fit_sides), (A_t_fit_sides 0, eI cI 6 v21), (A_t_fit 3, eQ cR 6 A_t_fit_rows), (A_t_fit_rows 0, eJ cJ 7 (v17 0)), (A_t_fit_rows 1, eJ cJ 7 (v17 1)), (A_t_fit_rows 2, eJ cJ 7 (v17 2)), (A_t_fit_rows 3, eJ cJ 7 (v17 3)), (A_t_fit_rows 4, eJ cJ 7 (v17 4)), (A_t_fit_rows 5, eJ cJ 7 (v17 5)), (A_t 0, oW A_t_now c_t_now_knots c_t_now_flows c_t_now_readSet), (A_t_now 0, eI cI 10 c_t_now_from), (A_t_now 1, eI cI 10 c_t_now_to), (A_t_now 2, eI cI 10 c_t_now_reading), (A_t_now 3, eI cI 10 c_t_now_miss)]) Γ (fun sz => mX0_valueAbove (l := l) (D := D) (sz := sz) (cI := cI) (cJ := cJ) (cZ := cZ) (cW := cW) (cR := cR) (h_t := A_t 3) (h_w := A_t 0) (A_t := A_t_fit) (A_t_heaps := A_t_fit_heaps) (A_t_sides := A_t_fit_sides) (A_t_rows := A_t_fit_rows) (A_w := A_t_now) (hf := e22)) eX0_valueAbove gX4_value_X0_valueAbove rfl rfl 0 rfl rfl rfl (Nat.le_of_ble_eq_true rfl) ⟨Nat.le_of_ble_eq_true rfl, Nat.le_of_ble_eq_true rfl⟩ dX4_value_54 [5, 6, 7, 0, 1, 10, 11, 12, 13, 14, 15, 16, 18, 19, 20, 21, 22] [2, 3, 4, 8, 9, 17] rfl rfl rfl rfl (by decide) rfl ?_
        refine g_aload_n Γ 0 dX4_value_57 rfl ?_
        refine g_get Γ fX4_value_33 0 rfl rfl dX4_value_58 ?_
        refine g_get Γ fX4_value_168 6 rfl rfl dX4_value_61 ?_
        refine g_iload_n Γ 2 dX4_value_64 rfl ?_
        obtain ⟨v23, e24, hf⟩ := ya_ob hf
        refine g_sl (wr := [(h_t, oM A_t), (A_t 2, oG A_t_groups), (A_t_groups 0, eI cI 6 v8), (A_t_fit 1, oG A_t_fit_pieces), (A_t_fit_pieces 0, eI cI 6 v16), (A_t_fit 4, eJ cJ 6 v18), (A_t 3, oF A_t_fit v13 v14), (A_t_fit 0, oG A_t_fit_heaps), (A_t_fit_heaps 0, eI cI 6 v15), (A_t_fit 2, oG A_t_fit_sides), (A_t_fit_sides 0, eI cI 6 v21), (A_t_fit 3, eQ cR 6 A_t_fit_rows), (A_t_fit_rows 0, eJ cJ 7 (v17 0)), (A_t_fit_rows 1, eJ cJ 7 (v17 1)), (A_t_fit_rows 2, eJ cJ 7 (v17 2)), (A_t_fit_rows 3, eJ cJ 7 (v17 3)), (A_t_fit_rows 4, eJ cJ 7 (v17 4)), (A_t_fit_rows 5, eJ cJ 7 (v17 5)), (A_t 0, oW A_t_now c_t_now_knots c_t_now_flows c_t_now_readSet), (A_t_now 0, eI cI 10 c_t_now_from), (A_t_now 1, eI cI 10 c_t_now_to), (A_t_now 2, eI cI 10 c_t_now_reading), (A_t_now 3, eI cI 10 c_t_now_miss)]) (ws' := [(h_t, oM A_t), (A_t 2, oG A_t_groups), (A_t_groups 0, eI cI 6 v8), (A_t_fit 1, oG A_t_fit_pieces), (A_t_fit_pieces 0, eI cI 6 v16), (A_t_fit 4, eJ cJ 6 v18), (A_t 3, oF A_t_fit v13 v14), (A_t_fit 0, oG A_t_fit_heaps), (A_t_fit_heaps 0, eI cI 6 v15), (A_t_fit 2, oG A_t_fit_sides), (A_t_fit_sides 0, eI cI 6 v21), (A_t_fit 3, eQ cR 6 A_t_fit_rows), (A_t_fit_rows 0, eJ cJ 7 (v17 0)), (A_t_fit_rows 1, eJ cJ 7 (v17 1)), (A_t_fit_rows 2, eJ cJ 7 (v17 2)), (A_t_fit_rows 3, eJ cJ 7 (v17 3)), (A_t_fit_rows 4, eJ cJ 7 (v17 4)), (A_t_fit_rows 5, eJ cJ 7 (v17 5)), (A_t 0, oW A_t_now c_t_now_knots c_t_now_flows c_t_now_readSet), (A_t_now 0, eI cI 10 c_t_now_from), (A_t_now 1, eI cI 10 c_t_now_to), (A_t_now 2, eI cI 10 c_t_now_reading), (A_t_now 3, eI cI 10 c_t_now_miss)]) Γ (fun sz => mX4_lowestTerms (l := l) (D := D) (sz := sz) (cI := cI) (cJ := cJ) (cZ := cZ) (cW := cW) (cR := cR)  (hf := e24)) eX4_lowestTerms ggX4_value_X4_lowestTerms (by decide +kernel) (by decide +kernel) (by decide +kernel) rfl rfl (Nat.le_of_ble_eq_true rfl) ⟨Nat.le_of_ble_eq_true rfl, Nat.le_of_ble_eq_true rfl⟩ dX4_value_65 [] [0, 1, 2, 3, 4, 5, 6, 7, 8, 9, 10, 11, 12, 13, 14, 15, 16, 17, 18, 19, 20, 21, 22] rfl rfl rfl rfl (by decide) rfl ?_
        cases hf
        exact g_lret Γ hr dX4_value_68 [0, 18, 19, 20, 21, 22, 1, 2, 6, 7, 8, 3, 4, 9, 10, 11, 12, 13, 14, 15, 16, 17, 5] rfl rfl
      · have hf := ya_if1 c10 hf
        refine g_ldc2 (v := (-1)) Γ dX4_value_23 (by decide +kernel) ?_
        cases hf
        exact g_lret Γ hr dX4_value_26 [17, 18, 19, 20, 0, 1, 21, 22, 2, 3, 4, 5, 6, 7, 8, 9, 10, 11, 12, 13, 14, 15, 16] rfl rfl

set_option maxRecDepth 20000 in
theorem ggX4_change_X4_isFlow : GoodIn wsX4_change wsX4_isFlow := goodIn_r _ [10, 1, 11, 112, 113, 114, 115, 116, 117, 118, 119, 120, 121, 122, 123, 124, 125, 126, 127, 128, 129] rfl (by decide +kernel)
set_option maxRecDepth 20000 in
theorem gX4_change_X4_isFlow : GoodIn wsX4_change (wsV RX4 68 RX4 yX4_isFlow wsX4_isFlow) := goodIn_app (goodIn_of _ (by decide +kernel)) ggX4_change_X4_isFlow
set_option maxRecDepth 20000 in
theorem ggX4_change_X4_isPart : GoodIn wsX4_change wsX4_isPart := goodIn_r _ [14] rfl (by decide +kernel)
set_option maxRecDepth 20000 in
theorem gX4_change_X4_isPart : GoodIn wsX4_change (va_wsS RX4 155 yX4_isPart wsX4_isPart) := goodIn_app (goodIn_of _ (by decide +kernel)) ggX4_change_X4_isPart
set_option maxRecDepth 20000 in
theorem ggX4_change_X4_holds : GoodIn wsX4_change wsX4_holds := goodIn_r _ [17] rfl (by decide +kernel)
set_option maxRecDepth 20000 in
theorem gX4_change_X4_holds : GoodIn wsX4_change (va_wsS RX4 78 yX4_holds wsX4_holds) := goodIn_app (goodIn_of _ (by decide +kernel)) ggX4_change_X4_holds
set_option maxRecDepth 20000 in
theorem ggX4_change_X3_unreadSet : GoodIn wsX4_change wsX3_unreadSet := goodIn_r _ [22, 23, 24, 25, 26, 21, 27, 28, 29, 9, 30, 119, 120, 121, 122, 123, 124, 125, 126, 127, 128, 129] rfl (by decide +kernel)
set_option maxRecDepth 20000 in
theorem gX4_change_X3_unreadSet : GoodIn wsX4_change (wsV RX4 120 RX3 yX3_unreadSet wsX3_unreadSet) := goodIn_app (goodIn_of _ (by decide +kernel)) ggX4_change_X3_unreadSet
set_option maxRecDepth 20000 in
theorem ggX4_change_X0_solve : GoodIn wsX4_change wsX0_solve := goodIn_r _ [35, 36, 37, 38, 39, 40, 41, 42, 43, 44, 45, 46, 47, 48, 16, 9, 17, 49, 50, 51, 52, 53, 54, 55, 56, 57, 58, 59, 60, 61, 62, 63, 64, 25, 26, 21, 27, 28, 29, 30, 65, 66, 67, 34, 68, 69, 70, 71, 72, 73, 74, 75, 76, 77, 78, 79, 80, 81, 82, 83, 84, 85, 86, 87, 88, 89, 90, 91, 92, 93, 94, 130, 131, 132, 133, 134, 135, 136, 119, 120, 121, 122, 123, 124, 125, 126, 127, 128, 129, 137] rfl (by decide +kernel)
set_option maxRecDepth 20000 in
theorem gX4_change_X0_solve : GoodIn wsX4_change (wsV RX4 160 RX0 yX0_solve wsX0_solve) := goodIn_app (goodIn_of _ (by decide +kernel)) ggX4_change_X0_solve
set_option maxRecDepth 20000 in
theorem ggX4_change_X0_changeAbove : GoodIn wsX4_change wsX0_changeAbove := goodIn_r _ [98, 75, 74, 73, 99, 100, 101, 34, 102, 69, 37, 72, 119, 120, 121, 122, 123, 124, 125, 126, 127, 128, 129, 130, 131, 132, 133, 134, 135, 136, 137] rfl (by decide +kernel)
set_option maxRecDepth 20000 in
theorem gX4_change_X0_changeAbove : GoodIn wsX4_change (wsV RX4 176 RX0 yX0_changeAbove wsX0_changeAbove) := goodIn_app (goodIn_of _ (by decide +kernel)) ggX4_change_X0_changeAbove
set_option maxRecDepth 20000 in
theorem ggX4_change_X4_lowestTerms : GoodIn wsX4_change wsX4_lowestTerms := goodIn_r _ [105, 106, 107, 59, 108, 3, 109, 110, 9, 111] rfl (by decide +kernel)
set_option maxRecDepth 20000 in
theorem gX4_change_X4_lowestTerms : GoodIn wsX4_change (va_wsS RX4 172 yX4_lowestTerms wsX4_lowestTerms) := goodIn_app (goodIn_of _ (by decide +kernel)) ggX4_change_X4_lowestTerms
theorem dX4_change_0 : decode cX4_change 0 = .ok (.aload_n 0, 1) := by decide +kernel
theorem dX4_change_1 : decode cX4_change 1 = .ok (.iload_n 1, 1) := by decide +kernel
theorem dX4_change_2 : decode cX4_change 2 = .ok (.invokevirtual 68, 3) := by decide +kernel
theorem dX4_change_5 : decode cX4_change 5 = .ok (.ifCond .eq 24, 3) := by decide +kernel
theorem dX4_change_8 : decode cX4_change 8 = .ok (.iload_n 2, 1) := by decide +kernel
theorem dX4_change_9 : decode cX4_change 9 = .ok (.invokestatic 155, 3) := by decide +kernel
theorem dX4_change_12 : decode cX4_change 12 = .ok (.ifCond .eq 17, 3) := by decide +kernel
theorem dX4_change_15 : decode cX4_change 15 = .ok (.aload_n 0, 1) := by decide +kernel
theorem dX4_change_16 : decode cX4_change 16 = .ok (.getfield 10, 3) := by decide +kernel
theorem dX4_change_19 : decode cX4_change 19 = .ok (.getfield 75, 3) := by decide +kernel
theorem dX4_change_22 : decode cX4_change 22 = .ok (.iload_n 1, 1) := by decide +kernel
theorem dX4_change_23 : decode cX4_change 23 = .ok (.invokestatic 78, 3) := by decide +kernel
theorem dX4_change_26 : decode cX4_change 26 = .ok (.ifCond .ne 7, 3) := by decide +kernel
theorem dX4_change_29 : decode cX4_change 29 = .ok (.ldc2_w 158, 3) := by decide +kernel
theorem dX4_change_32 : decode cX4_change 32 = .ok (.lreturn, 1) := by decide +kernel
theorem dX4_change_33 : decode cX4_change 33 = .ok (.aload_n 0, 1) := by decide +kernel
theorem dX4_change_34 : decode cX4_change 34 = .ok (.getfield 33, 3) := by decide +kernel
theorem dX4_change_37 : decode cX4_change 37 = .ok (.aload_n 0, 1) := by decide +kernel
theorem dX4_change_38 : decode cX4_change 38 = .ok (.getfield 10, 3) := by decide +kernel
theorem dX4_change_41 : decode cX4_change 41 = .ok (.aload_n 0, 1) := by decide +kernel
theorem dX4_change_42 : decode cX4_change 42 = .ok (.getfield 10, 3) := by decide +kernel
theorem dX4_change_45 : decode cX4_change 45 = .ok (.invokevirtual 120, 3) := by decide +kernel
theorem dX4_change_48 : decode cX4_change 48 = .ok (.invokevirtual 160, 3) := by decide +kernel
theorem dX4_change_51 : decode cX4_change 51 = .ok (.aload_n 0, 1) := by decide +kernel
theorem dX4_change_52 : decode cX4_change 52 = .ok (.getfield 33, 3) := by decide +kernel
theorem dX4_change_55 : decode cX4_change 55 = .ok (.aload_n 0, 1) := by decide +kernel
theorem dX4_change_56 : decode cX4_change 56 = .ok (.getfield 10, 3) := by decide +kernel
theorem dX4_change_59 : decode cX4_change 59 = .ok (.iload_n 1, 1) := by decide +kernel
theorem dX4_change_60 : decode cX4_change 60 = .ok (.invokevirtual 176, 3) := by decide +kernel
theorem dX4_change_63 : decode cX4_change 63 = .ok (.aload_n 0, 1) := by decide +kernel
theorem dX4_change_64 : decode cX4_change 64 = .ok (.getfield 33, 3) := by decide +kernel
theorem dX4_change_67 : decode cX4_change 67 = .ok (.getfield 168, 3) := by decide +kernel
theorem dX4_change_70 : decode cX4_change 70 = .ok (.iload_n 2, 1) := by decide +kernel
theorem dX4_change_71 : decode cX4_change 71 = .ok (.invokestatic 172, 3) := by decide +kernel
theorem dX4_change_74 : decode cX4_change 74 = .ok (.lreturn, 1) := by decide +kernel
/-! ===== FlowMeters.change(II)J ===== -/
def fX4_change (N : Nat) (c_t_now_knots : Int32) (c_t_now_flows : Int32) (c_t_now_readSet : Int32) (c_t_now_from : Nat → Int32) (c_t_now_to : Nat → Int32) (c_t_now_reading : Nat → Int32) (c_t_now_miss : Nat → Int32) (c_t_fit_unread : Int32) (c_t_fit_below : Int64) (c_t_fit_heaps_least : Nat → Int32) (c_t_fit_pieces_least : Nat → Int32) (c_t_fit_rows : Nat → Nat → Int64) (c_t_fit_surplus : Nat → Int64) (x1 : Int32) (x2 : Int32) : Option (Int64 × Int32 × Int64 × (Nat → Int32) × (Nat → Int32) × (Nat → Nat → Int64) × (Nat → Int64)) :=
  (fX4_isFlow c_t_now_flows x1).bind fun v1 =>
  (if v1 = 0 then
    some ((-1), c_t_fit_unread, c_t_fit_below, c_t_fit_heaps_least, c_t_fit_pieces_least, c_t_fit_rows, c_t_fit_surplus)
  else
    (fX4_isPart x2).bind fun v4 =>
    (if v4 = 0 then
      some ((-1), c_t_fit_unread, c_t_fit_below, c_t_fit_heaps_least, c_t_fit_pieces_least, c_t_fit_rows, c_t_fit_surplus)
    else
      (fX4_holds c_t_now_readSet x1).bind fun v7 =>
      (if v7 = 0 then
        some ((-1), c_t_fit_unread, c_t_fit_below, c_t_fit_heaps_least, c_t_fit_pieces_least, c_t_fit_rows, c_t_fit_surplus)
      else
        (fX3_unreadSet c_t_now_flows c_t_now_readSet).bind fun v10 =>
        (fX0_solve N c_t_fit_unread c_t_fit_below c_t_fit_heaps_least c_t_fit_pieces_least c_t_fit_rows c_t_fit_surplus c_t_now_knots c_t_now_flows c_t_now_from c_t_now_to c_t_now_reading c_t_now_miss v10).bind fun (v12, v13, v14, v15, v16, v17) =>
        (fX0_changeAbove v14 v16 c_t_now_from c_t_now_to c_t_now_miss x1).bind fun v19 =>
        (fX4_lowestTerms N v19 v13 x2).bind fun v21 =>
        some (v21, v12, v13, v14, v15, v16, v17))))
theorem fX4_change_10 : yF wsX4_change RX4 10 4 0 RX4 TX4 7 := ⟨rfl, by decide, by decide +kernel, by decide +kernel⟩
theorem fX4_change_75 : yF wsX4_change RX4 75 3 2 RX3 TX3 11 := ⟨rfl, by decide, by decide +kernel, by decide +kernel⟩
theorem fX4_change_33 : yF wsX4_change RX4 33 4 3 RX4 TX4 7 := ⟨rfl, by decide, by decide +kernel, by decide +kernel⟩
theorem fX4_change_168 : yF wsX4_change RX4 168 0 6 RX0 TX0 7 := ⟨rfl, by decide, by decide +kernel, by decide +kernel⟩
abbrev rmX4_change : Room := { frames := 4, cells := 0, slots := 0, locals := 119 }
theorem eX4_change : yY yX4_change wsX4_change cX4_change 3 (some .long) rmX4_change 2 := ⟨⟨_, rfl⟩, rfl, rfl, by decide, by decide, by decide +kernel⟩
set_option maxHeartbeats 4000000 in
set_option maxRecDepth 100000 in
theorem mX4_change {l : Launch} {D : va_G} {sz : Nat} {cI cJ cZ cW cR : ClassId} {N : Nat} {h_t : Nat} {A_t : Nat → Nat} {A_t_now : Nat → Nat} {A_t_fit : Nat → Nat} {A_t_fit_heaps : Nat → Nat} {A_t_fit_pieces : Nat → Nat} {A_t_fit_rows : Nat → Nat} {c_t_now_knots : Int32} {c_t_now_flows : Int32} {c_t_now_readSet : Int32} {c_t_now_from : Nat → Int32} {c_t_now_to : Nat → Int32} {c_t_now_reading : Nat → Int32} {c_t_now_miss : Nat → Int32} {c_t_fit_unread : Int32} {c_t_fit_below : Int64} {c_t_fit_heaps_least : Nat → Int32} {c_t_fit_pieces_least : Nat → Int32} {c_t_fit_rows : Nat → Nat → Int64} {c_t_fit_surplus : Nat → Int64} {x1 : Int32} {x2 : Int32} {r : Int64} {zc_t_fit_unread : Int32} {zc_t_fit_below : Int64} {zc_t_fit_heaps_least : Nat → Int32} {zc_t_fit_pieces_least : Nat → Int32} {zc_t_fit_rows : Nat → Nat → Int64} {zc_t_fit_surplus : Nat → Int64} (hf : fX4_change N c_t_now_knots c_t_now_flows c_t_now_readSet c_t_now_from c_t_now_to c_t_now_reading c_t_now_miss c_t_fit_unread c_t_fit_below c_t_fit_heaps_least c_t_fit_pieces_least c_t_fit_rows c_t_fit_surplus x1 x2 = some (r, zc_t_fit_unread, zc_t_fit_below, zc_t_fit_heaps_least, zc_t_fit_pieces_least, zc_t_fit_rows, zc_t_fit_surplus)) : Met l yX4_change wsX4_change rmX4_change (yP D (yT cI cJ cZ cW cR) [(h_t, oM A_t), (A_t 0, oW A_t_now c_t_now_knots c_t_now_flows c_t_now_readSet), (A_t_now 0, eI cI 10 c_t_now_from), (A_t_now 1, eI cI 10 c_t_now_to), (A_t_now 2, eI cI 10 c_t_now_reading), (A_t_now 3, eI cI 10 c_t_now_miss), (A_t 3, oF A_t_fit c_t_fit_unread c_t_fit_below), (A_t_fit 0, oG A_t_fit_heaps), (A_t_fit_heaps 0, eI cI 6 c_t_fit_heaps_least), (A_t_fit 1, oG A_t_fit_pieces), (A_t_fit_pieces 0, eI cI 6 c_t_fit_pieces_least), (A_t_fit 3, eQ cR 6 A_t_fit_rows), (A_t_fit_rows 0, eJ cJ 7 (c_t_fit_rows 0)), (A_t_fit_rows 1, eJ cJ 7 (c_t_fit_rows 1)), (A_t_fit_rows 2, eJ cJ 7 (c_t_fit_rows 2)), (A_t_fit_rows 3, eJ cJ 7 (c_t_fit_rows 3)), (A_t_fit_rows 4, eJ cJ 7 (c_t_fit_rows 4)), (A_t_fit_rows 5, eJ cJ 7 (c_t_fit_rows 5)), (A_t_fit 4, eJ cJ 6 c_t_fit_surplus)] sz [.ref h_t, .int x1, .int x2]) (yQl D (yT cI cJ cZ cW cR) r [(h_t, oM A_t), (A_t 0, oW A_t_now c_t_now_knots c_t_now_flows c_t_now_readSet), (A_t_now 0, eI cI 10 c_t_now_from), (A_t_now 1, eI cI 10 c_t_now_to), (A_t_now 2, eI cI 10 c_t_now_reading), (A_t_now 3, eI cI 10 c_t_now_miss), (A_t 3, oF A_t_fit zc_t_fit_unread zc_t_fit_below), (A_t_fit 0, oG A_t_fit_heaps), (A_t_fit_heaps 0, eI cI 6 zc_t_fit_heaps_least), (A_t_fit 1, oG A_t_fit_pieces), (A_t_fit_pieces 0, eI cI 6 zc_t_fit_pieces_least), (A_t_fit 3, eQ cR 6 A_t_fit_rows), (A_t_fit_rows 0, eJ cJ 7 (zc_t_fit_rows 0)), (A_t_fit_rows 1, eJ cJ 7 (zc_t_fit_rows 1)), (A_t_fit_rows 2, eJ cJ 7 (zc_t_fit_rows 2)), (A_t_fit_rows 3, eJ cJ 7 (zc_t_fit_rows 3)), (A_t_fit_rows 4, eJ cJ 7 (zc_t_fit_rows 4)), (A_t_fit_rows 5, eJ cJ 7 (zc_t_fit_rows 5)), (A_t_fit 4, eJ cJ 6 zc_t_fit_surplus)] (va_A [(h_t, oM A_t), (A_t 0, oW A_t_now c_t_now_knots c_t_now_flows c_t_now_readSet), (A_t_now 0, eI cI 10 c_t_now_from), (A_t_now 1, eI cI 10 c_t_now_to), (A_t_now 2, eI cI 10 c_t_now_reading), (A_t_now 3, eI cI 10 c_t_now_miss), (A_t 3, oF A_t_fit c_t_fit_unread c_t_fit_below), (A_t_fit 0, oG A_t_fit_heaps), (A_t_fit_heaps 0, eI cI 6 c_t_fit_heaps_least), (A_t_fit 1, oG A_t_fit_pieces), (A_t_fit_pieces 0, eI cI 6 c_t_fit_pieces_least), (A_t_fit 3, eQ cR 6 A_t_fit_rows), (A_t_fit_rows 0, eJ cJ 7 (c_t_fit_rows 0)), (A_t_fit_rows 1, eJ cJ 7 (c_t_fit_rows 1)), (A_t_fit_rows 2, eJ cJ 7 (c_t_fit_rows 2)), (A_t_fit_rows 3, eJ cJ 7 (c_t_fit_rows 3)), (A_t_fit_rows 4, eJ cJ 7 (c_t_fit_rows 4)), (A_t_fit_rows 5, eJ cJ 7 (c_t_fit_rows 5)), (A_t_fit 4, eJ cJ 6 c_t_fit_surplus)] sz)) 0 0 (va_A [(h_t, oM A_t), (A_t 0, oW A_t_now c_t_now_knots c_t_now_flows c_t_now_readSet), (A_t_now 0, eI cI 10 c_t_now_from), (A_t_now 1, eI cI 10 c_t_now_to), (A_t_now 2, eI cI 10 c_t_now_reading), (A_t_now 3, eI cI 10 c_t_now_miss), (A_t 3, oF A_t_fit c_t_fit_unread c_t_fit_below), (A_t_fit 0, oG A_t_fit_heaps), (A_t_fit_heaps 0, eI cI 6 c_t_fit_heaps_least), (A_t_fit 1, oG A_t_fit_pieces), (A_t_fit_pieces 0, eI cI 6 c_t_fit_pieces_least), (A_t_fit 3, eQ cR 6 A_t_fit_rows), (A_t_fit_rows 0, eJ cJ 7 (c_t_fit_rows 0)), (A_t_fit_rows 1, eJ cJ 7 (c_t_fit_rows 1)), (A_t_fit_rows 2, eJ cJ 7 (c_t_fit_rows 2)), (A_t_fit_rows 3, eJ cJ 7 (c_t_fit_rows 3)), (A_t_fit_rows 4, eJ cJ 7 (c_t_fit_rows 4)), (A_t_fit_rows 5, eJ cJ 7 (c_t_fit_rows 5)), (A_t_fit 4, eJ cJ 6 c_t_fit_surplus)] sz) := by
  refine yM (cc := cX4_change) (maxL := 3) (ret := (some .long)) RX4 (by decide) rfl rfl (Nat.le_of_ble_eq_true rfl) ?_
  intro p e s m below meth c Γ hr
  show yG p l e (headSpec wsX4_change rmX4_change).room s m (List.toArray [.ref h_t, .int x1, .int x2]) below meth c D (va_A [(h_t, oM A_t), (A_t 0, oW A_t_now c_t_now_knots c_t_now_flows c_t_now_readSet), (A_t_now 0, eI cI 10 c_t_now_from), (A_t_now 1, eI cI 10 c_t_now_to), (A_t_now 2, eI cI 10 c_t_now_reading), (A_t_now 3, eI cI 10 c_t_now_miss), (A_t 3, oF A_t_fit c_t_fit_unread c_t_fit_below), (A_t_fit 0, oG A_t_fit_heaps), (A_t_fit_heaps 0, eI cI 6 c_t_fit_heaps_least), (A_t_fit 1, oG A_t_fit_pieces), (A_t_fit_pieces 0, eI cI 6 c_t_fit_pieces_least), (A_t_fit 3, eQ cR 6 A_t_fit_rows), (A_t_fit_rows 0, eJ cJ 7 (c_t_fit_rows 0)), (A_t_fit_rows 1, eJ cJ 7 (c_t_fit_rows 1)), (A_t_fit_rows 2, eJ cJ 7 (c_t_fit_rows 2)), (A_t_fit_rows 3, eJ cJ 7 (c_t_fit_rows 3)), (A_t_fit_rows 4, eJ cJ 7 (c_t_fit_rows 4)), (A_t_fit_rows 5, eJ cJ 7 (c_t_fit_rows 5)), (A_t_fit 4, eJ cJ 6 c_t_fit_surplus)] sz) 3 0 0 (MQ below (yQl D (yT cI cJ cZ cW cR) r [(h_t, oM A_t), (A_t 0, oW A_t_now c_t_now_knots c_t_now_flows c_t_now_readSet), (A_t_now 0, eI cI 10 c_t_now_from), (A_t_now 1, eI cI 10 c_t_now_to), (A_t_now 2, eI cI 10 c_t_now_reading), (A_t_now 3, eI cI 10 c_t_now_miss), (A_t 3, oF A_t_fit zc_t_fit_unread zc_t_fit_below), (A_t_fit 0, oG A_t_fit_heaps), (A_t_fit_heaps 0, eI cI 6 zc_t_fit_heaps_least), (A_t_fit 1, oG A_t_fit_pieces), (A_t_fit_pieces 0, eI cI 6 zc_t_fit_pieces_least), (A_t_fit 3, eQ cR 6 A_t_fit_rows), (A_t_fit_rows 0, eJ cJ 7 (zc_t_fit_rows 0)), (A_t_fit_rows 1, eJ cJ 7 (zc_t_fit_rows 1)), (A_t_fit_rows 2, eJ cJ 7 (zc_t_fit_rows 2)), (A_t_fit_rows 3, eJ cJ 7 (zc_t_fit_rows 3)), (A_t_fit_rows 4, eJ cJ 7 (zc_t_fit_rows 4)), (A_t_fit_rows 5, eJ cJ 7 (zc_t_fit_rows 5)), (A_t_fit 4, eJ cJ 6 zc_t_fit_surplus)] (va_A [(h_t, oM A_t), (A_t 0, oW A_t_now c_t_now_knots c_t_now_flows c_t_now_readSet), (A_t_now 0, eI cI 10 c_t_now_from), (A_t_now 1, eI cI 10 c_t_now_to), (A_t_now 2, eI cI 10 c_t_now_reading), (A_t_now 3, eI cI 10 c_t_now_miss), (A_t 3, oF A_t_fit c_t_fit_unread c_t_fit_below), (A_t_fit 0, oG A_t_fit_heaps), (A_t_fit_heaps 0, eI cI 6 c_t_fit_heaps_least), (A_t_fit 1, oG A_t_fit_pieces), (A_t_fit_pieces 0, eI cI 6 c_t_fit_pieces_least), (A_t_fit 3, eQ cR 6 A_t_fit_rows), (A_t_fit_rows 0, eJ cJ 7 (c_t_fit_rows 0)), (A_t_fit_rows 1, eJ cJ 7 (c_t_fit_rows 1)), (A_t_fit_rows 2, eJ cJ 7 (c_t_fit_rows 2)), (A_t_fit_rows 3, eJ cJ 7 (c_t_fit_rows 3)), (A_t_fit_rows 4, eJ cJ 7 (c_t_fit_rows 4)), (A_t_fit_rows 5, eJ cJ 7 (c_t_fit_rows 5)), (A_t_fit 4, eJ cJ 6 c_t_fit_surplus)] sz)) (List.toArray [.ref h_t, .int x1, .int x2]) s 0 0 (va_A [(h_t, oM A_t), (A_t 0, oW A_t_now c_t_now_knots c_t_now_flows c_t_now_readSet), (A_t_now 0, eI cI 10 c_t_now_from), (A_t_now 1, eI cI 10 c_t_now_to), (A_t_now 2, eI cI 10 c_t_now_reading), (A_t_now 3, eI cI 10 c_t_now_miss), (A_t 3, oF A_t_fit c_t_fit_unread c_t_fit_below), (A_t_fit 0, oG A_t_fit_heaps), (A_t_fit_heaps 0, eI cI 6 c_t_fit_heaps_least), (A_t_fit 1, oG A_t_fit_pieces), (A_t_fit_pieces 0, eI cI 6 c_t_fit_pieces_least), (A_t_fit 3, eQ cR 6 A_t_fit_rows), (A_t_fit_rows 0, eJ cJ 7 (c_t_fit_rows 0)), (A_t_fit_rows 1, eJ cJ 7 (c_t_fit_rows 1)), (A_t_fit_rows 2, eJ cJ 7 (c_t_fit_rows 2)), (A_t_fit_rows 3, eJ cJ 7 (c_t_fit_rows 3)), (A_t_fit_rows 4, eJ cJ 7 (c_t_fit_rows 4)), (A_t_fit_rows 5, eJ cJ 7 (c_t_fit_rows 5)), (A_t_fit 4, eJ cJ 6 c_t_fit_surplus)] sz)) 0 [(0, .ref h_t), (1, .int x1), (2, .int x2)] [] [(h_t, oM A_t), (A_t 0, oW A_t_now c_t_now_knots c_t_now_flows c_t_now_readSet), (A_t_now 0, eI cI 10 c_t_now_from), (A_t_now 1, eI cI 10 c_t_now_to), (A_t_now 2, eI cI 10 c_t_now_reading), (A_t_now 3, eI cI 10 c_t_now_miss), (A_t 3, oF A_t_fit c_t_fit_unread c_t_fit_below), (A_t_fit 0, oG A_t_fit_heaps), (A_t_fit_heaps 0, eI cI 6 c_t_fit_heaps_least), (A_t_fit 1, oG A_t_fit_pieces), (A_t_fit_pieces 0, eI cI 6 c_t_fit_pieces_least), (A_t_fit 3, eQ cR 6 A_t_fit_rows), (A_t_fit_rows 0, eJ cJ 7 (c_t_fit_rows 0)), (A_t_fit_rows 1, eJ cJ 7 (c_t_fit_rows 1)), (A_t_fit_rows 2, eJ cJ 7 (c_t_fit_rows 2)), (A_t_fit_rows 3, eJ cJ 7 (c_t_fit_rows 3)), (A_t_fit_rows 4, eJ cJ 7 (c_t_fit_rows 4)), (A_t_fit_rows 5, eJ cJ 7 (c_t_fit_rows 5)), (A_t_fit 4, eJ cJ 6 c_t_fit_surplus)]
  unfold fX4_change at hf
  refine g_aload_n Γ 0 dX4_change_0 rfl ?_
  refine g_iload_n Γ 1 dX4_change_1 rfl ?_
  obtain ⟨v1, e2, hf⟩ := ya_ob hf
  refine g_vi (q := (RX4, TX4, 7)) (wr := [(A_t_now 0, eI cI 10 c_t_now_from), (A_t_now 1, eI cI 10 c_t_now_to), (A_t_now 2, eI cI 10 c_t_now_reading), (A_t_now 3, eI cI 10 c_t_now_miss), (A_t 3, oF A_t_fit c_t_fit_unread c_t_fit_below), (A_t_fit 0, oG A_t_fit_heaps), (A_t_fit_heaps 0, eI cI 6 c_t_fit_heaps_least), (A_t_fit 1, oG A_t_fit_pieces), (A_t_fit_pieces 0, eI cI 6 c_t_fit_pieces_least), (A_t_fit 3, eQ cR 6 A_t_fit_rows), (A_t_fit_rows 0, eJ cJ 7 (c_t_fit_rows 0)), (A_t_fit_rows 1, eJ cJ 7 (c_t_fit_rows 1)), (A_t_fit_rows 2, eJ cJ 7 (c_t_fit_rows 2)), (A_t_fit_rows 3, eJ cJ 7 (c_t_fit_rows 3)), (A_t_fit_rows 4, eJ cJ 7 (c_t_fit_rows 4)), (A_t_fit_rows 5, eJ cJ 7 (c_t_fit_rows 5)), (A_t_fit 4, eJ cJ 6 c_t_fit_surplus)]) (ws' := [(A_t_now 0, eI cI 10 c_t_now_from), (A_t_now 1, eI cI 10 c_t_now_to), (A_t_now 2, eI cI 10 c_t_now_reading), (A_t_now 3, eI cI 10 c_t_now_miss), (A_t 3, oF A_t_fit c_t_fit_unread c_t_fit_below), (A_t_fit 0, oG A_t_fit_heaps), (A_t_fit_heaps 0, eI cI 6 c_t_fit_heaps_least), (A_t_fit 1, oG A_t_fit_pieces), (A_t_fit_pieces 0, eI cI 6 c_t_fit_pieces_least), (A_t_fit 3, eQ cR 6 A_t_fit_rows), (A_t_fit_rows 0, eJ cJ 7 (c_t_fit_rows 0)), (A_t_fit_rows 1, eJ cJ 7 (c_t_fit_rows 1)), (A_t_fit_rows 2, eJ cJ 7 (c_t_fit_rows 2)), (A_t_fit_rows 3, eJ cJ 7 (c_t_fit_rows 3)), (A_t_fit_rows 4, eJ cJ 7 (c_t_fit_rows 4)), (A_t_fit_rows 5, eJ cJ 7 (c_t_fit_rows 5)), (A_t_fit 4, eJ cJ 6 c_t_fit_surplus), (h_t, oM A_t), (A_t 0, oW A_t_now c_t_now_knots c_t_now_flows c_t_now_readSet)]) Γ (fun sz => mX4_isFlow (l := l) (D := D) (sz := sz) (cI := cI) (cJ := cJ) (cZ := cZ) (cW := cW) (cR := cR) (h_t := h_t) (A_t := A_t) (A_t_now := A_t_now) (hf := e2)) eX4_isFlow gX4_change_X4_isFlow rfl rfl 0 rfl rfl rfl (Nat.le_of_ble_eq_true rfl) ⟨Nat.le_of_ble_eq_true rfl, Nat.le_of_ble_eq_true rfl⟩ dX4_change_2 [0, 1] [2, 3, 4, 5, 6, 7, 8, 9, 10, 11, 12, 13, 14, 15, 16, 17, 18] rfl rfl rfl rfl (by decide) rfl ?_
  refine g_if_eq Γ 29 dX4_change_5 (by decide) (fun c3 => ?_) (fun c3 => ?_)
  · have hf := ya_if1 c3 hf
    refine g_ldc2 (v := (-1)) Γ dX4_change_29 (by decide +kernel) ?_
    cases hf
    exact g_lret Γ hr dX4_change_32 [17, 18, 0, 1, 2, 3, 4, 5, 6, 7, 8, 9, 10, 11, 12, 13, 14, 15, 16] rfl rfl
  · have hf := ya_if2 c3 hf
    refine g_iload_n Γ 2 dX4_change_8 rfl ?_
    obtain ⟨v4, e5, hf⟩ := ya_ob hf
    refine g_si (wr := [(A_t_now 0, eI cI 10 c_t_now_from), (A_t_now 1, eI cI 10 c_t_now_to), (A_t_now 2, eI cI 10 c_t_now_reading), (A_t_now 3, eI cI 10 c_t_now_miss), (A_t 3, oF A_t_fit c_t_fit_unread c_t_fit_below), (A_t_fit 0, oG A_t_fit_heaps), (A_t_fit_heaps 0, eI cI 6 c_t_fit_heaps_least), (A_t_fit 1, oG A_t_fit_pieces), (A_t_fit_pieces 0, eI cI 6 c_t_fit_pieces_least), (A_t_fit 3, eQ cR 6 A_t_fit_rows), (A_t_fit_rows 0, eJ cJ 7 (c_t_fit_rows 0)), (A_t_fit_rows 1, eJ cJ 7 (c_t_fit_rows 1)), (A_t_fit_rows 2, eJ cJ 7 (c_t_fit_rows 2)), (A_t_fit_rows 3, eJ cJ 7 (c_t_fit_rows 3)), (A_t_fit_rows 4, eJ cJ 7 (c_t_fit_rows 4)), (A_t_fit_rows 5, eJ cJ 7 (c_t_fit_rows 5)), (A_t_fit 4, eJ cJ 6 c_t_fit_surplus), (h_t, oM A_t), (A_t 0, oW A_t_now c_t_now_knots c_t_now_flows c_t_now_readSet)]) (ws' := [(A_t_now 0, eI cI 10 c_t_now_from), (A_t_now 1, eI cI 10 c_t_now_to), (A_t_now 2, eI cI 10 c_t_now_reading), (A_t_now 3, eI cI 10 c_t_now_miss), (A_t 3, oF A_t_fit c_t_fit_unread c_t_fit_below), (A_t_fit 0, oG A_t_fit_heaps), (A_t_fit_heaps 0, eI cI 6 c_t_fit_heaps_least), (A_t_fit 1, oG A_t_fit_pieces), (A_t_fit_pieces 0, eI cI 6 c_t_fit_pieces_least), (A_t_fit 3, eQ cR 6 A_t_fit_rows), (A_t_fit_rows 0, eJ cJ 7 (c_t_fit_rows 0)), (A_t_fit_rows 1, eJ cJ 7 (c_t_fit_rows 1)), (A_t_fit_rows 2, eJ cJ 7 (c_t_fit_rows 2)), (A_t_fit_rows 3, eJ cJ 7 (c_t_fit_rows 3)), (A_t_fit_rows 4, eJ cJ 7 (c_t_fit_rows 4)), (A_t_fit_rows 5, eJ cJ 7 (c_t_fit_rows 5)), (A_t_fit 4, eJ cJ 6 c_t_fit_surplus), (h_t, oM A_t), (A_t 0, oW A_t_now c_t_now_knots c_t_now_flows c_t_now_readSet)]) Γ (fun sz => mX4_isPart (l := l) (D := D) (sz := sz) (cI := cI) (cJ := cJ) (cZ := cZ) (cW := cW) (cR := cR)  (hf := e5)) eX4_isPart ggX4_change_X4_isPart (by decide +kernel) (by decide +kernel) (by decide +kernel) rfl rfl (Nat.le_of_ble_eq_true rfl) ⟨Nat.le_of_ble_eq_true rfl, Nat.le_of_ble_eq_true rfl⟩ dX4_change_9 [] [0, 1, 2, 3, 4, 5, 6, 7, 8, 9, 10, 11, 12, 13, 14, 15, 16, 17, 18] rfl rfl rfl rfl (by decide) rfl ?_
    refine g_if_eq Γ 29 dX4_change_12 (by decide) (fun c6 => ?_) (fun c6 => ?_)
    · have hf := ya_if1 c6 hf
      refine g_ldc2 (v := (-1)) Γ dX4_change_29 (by decide +kernel) ?_
      cases hf
      exact g_lret Γ hr dX4_change_32 [17, 18, 0, 1, 2, 3, 4, 5, 6, 7, 8, 9, 10, 11, 12, 13, 14, 15, 16] rfl rfl
    · have hf := ya_if2 c6 hf
      refine g_aload_n Γ 0 dX4_change_15 rfl ?_
      refine g_get Γ fX4_change_10 17 rfl rfl dX4_change_16 ?_
      refine g_get Γ fX4_change_75 18 rfl rfl dX4_change_19 ?_
      refine g_iload_n Γ 1 dX4_change_22 rfl ?_
      obtain ⟨v7, e8, hf⟩ := ya_ob hf
      refine g_si (wr := [(A_t_now 0, eI cI 10 c_t_now_from), (A_t_now 1, eI cI 10 c_t_now_to), (A_t_now 2, eI cI 10 c_t_now_reading), (A_t_now 3, eI cI 10 c_t_now_miss), (A_t 3, oF A_t_fit c_t_fit_unread c_t_fit_below), (A_t_fit 0, oG A_t_fit_heaps), (A_t_fit_heaps 0, eI cI 6 c_t_fit_heaps_least), (A_t_fit 1, oG A_t_fit_pieces), (A_t_fit_pieces 0, eI cI 6 c_t_fit_pieces_least), (A_t_fit 3, eQ cR 6 A_t_fit_rows), (A_t_fit_rows 0, eJ cJ 7 (c_t_fit_rows 0)), (A_t_fit_rows 1, eJ cJ 7 (c_t_fit_rows 1)), (A_t_fit_rows 2, eJ cJ 7 (c_t_fit_rows 2)), (A_t_fit_rows 3, eJ cJ 7 (c_t_fit_rows 3)), (A_t_fit_rows 4, eJ cJ 7 (c_t_fit_rows 4)), (A_t_fit_rows 5, eJ cJ 7 (c_t_fit_rows 5)), (A_t_fit 4, eJ cJ 6 c_t_fit_surplus), (h_t, oM A_t), (A_t 0, oW A_t_now c_t_now_knots c_t_now_flows c_t_now_readSet)]) (ws' := [(A_t_now 0, eI cI 10 c_t_now_from), (A_t_now 1, eI cI 10 c_t_now_to), (A_t_now 2, eI cI 10 c_t_now_reading), (A_t_now 3, eI cI 10 c_t_now_miss), (A_t 3, oF A_t_fit c_t_fit_unread c_t_fit_below), (A_t_fit 0, oG A_t_fit_heaps), (A_t_fit_heaps 0, eI cI 6 c_t_fit_heaps_least), (A_t_fit 1, oG A_t_fit_pieces), (A_t_fit_pieces 0, eI cI 6 c_t_fit_pieces_least), (A_t_fit 3, eQ cR 6 A_t_fit_rows), (A_t_fit_rows 0, eJ cJ 7 (c_t_fit_rows 0)), (A_t_fit_rows 1, eJ cJ 7 (c_t_fit_rows 1)), (A_t_fit_rows 2, eJ cJ 7 (c_t_fit_rows 2)), (A_t_fit_rows 3, eJ cJ 7 (c_t_fit_rows 3)), (A_t_fit_rows 4, eJ cJ 7 (c_t_fit_rows 4)), (A_t_fit_rows 5, eJ cJ 7 (c_t_fit_rows 5)), (A_t_fit 4, eJ cJ 6 c_t_fit_surplus), (h_t, oM A_t), (A_t 0, oW A_t_now c_t_now_knots c_t_now_flows c_t_now_readSet)]) Γ (fun sz => mX4_holds (l := l) (D := D) (sz := sz) (cI := cI) (cJ := cJ) (cZ := cZ) (cW := cW) (cR := cR)  (hf := e8)) eX4_holds ggX4_change_X4_holds (by decide +kernel) (by decide +kernel) (by decide +kernel) rfl rfl (Nat.le_of_ble_eq_true rfl) ⟨Nat.le_of_ble_eq_true rfl, Nat.le_of_ble_eq_true rfl⟩ dX4_change_23 [] [0, 1, 2, 3, 4, 5, 6, 7, 8, 9, 10, 11, 12, 13, 14, 15, 16, 17, 18] rfl rfl rfl rfl (by decide) rfl ?_
      refine g_if_ne Γ 33 dX4_change_26 (by decide) (fun c9 => ?_) (fun c9 => ?_)
      · have hf := ya_if2 c9 hf
        refine g_aload_n Γ 0 dX4_change_33 rfl ?_
        refine g_get Γ fX4_change_33 17 rfl rfl dX4_change_34 ?_
        refine g_aload_n Γ 0 dX4_change_37 rfl ?_
        refine g_get Γ fX4_change_10 17 rfl rfl dX4_change_38 ?_
        refine g_aload_n Γ 0 dX4_change_41 rfl ?_
        refine g_get Γ fX4_change_10 17 rfl rfl dX4_change_42 ?_
        obtain ⟨v10, e11, hf⟩ := ya_ob hf
        refine g_vi (q := (RX3, TX3, 11)) (wr := [(A_t_now 0, eI cI 10 c_t_now_from), (A_t_now 1, eI cI 10 c_t_now_to), (A_t_now 2, eI cI 10 c_t_now_reading), (A_t_now 3, eI cI 10 c_t_now_miss), (A_t 3, oF A_t_fit c_t_fit_unread c_t_fit_below), (A_t_fit 0, oG A_t_fit_heaps), (A_t_fit_heaps 0, eI cI 6 c_t_fit_heaps_least), (A_t_fit 1, oG A_t_fit_pieces), (A_t_fit_pieces 0, eI cI 6 c_t_fit_pieces_least), (A_t_fit 3, eQ cR 6 A_t_fit_rows), (A_t_fit_rows 0, eJ cJ 7 (c_t_fit_rows 0)), (A_t_fit_rows 1, eJ cJ 7 (c_t_fit_rows 1)), (A_t_fit_rows 2, eJ cJ 7 (c_t_fit_rows 2)), (A_t_fit_rows 3, eJ cJ 7 (c_t_fit_rows 3)), (A_t_fit_rows 4, eJ cJ 7 (c_t_fit_rows 4)), (A_t_fit_rows 5, eJ cJ 7 (c_t_fit_rows 5)), (A_t_fit 4, eJ cJ 6 c_t_fit_surplus), (h_t, oM A_t)]) (ws' := [(A_t_now 0, eI cI 10 c_t_now_from), (A_t_now 1, eI cI 10 c_t_now_to), (A_t_now 2, eI cI 10 c_t_now_reading), (A_t_now 3, eI cI 10 c_t_now_miss), (A_t 3, oF A_t_fit c_t_fit_unread c_t_fit_below), (A_t_fit 0, oG A_t_fit_heaps), (A_t_fit_heaps 0, eI cI 6 c_t_fit_heaps_least), (A_t_fit 1, oG A_t_fit_pieces), (A_t_fit_pieces 0, eI cI 6 c_t_fit_pieces_least), (A_t_fit 3, eQ cR 6 A_t_fit_rows), (A_t_fit_rows 0, eJ cJ 7 (c_t_fit_rows 0)), (A_t_fit_rows 1, eJ cJ 7 (c_t_fit_rows 1)), (A_t_fit_rows 2, eJ cJ 7 (c_t_fit_rows 2)), (A_t_fit_rows 3, eJ cJ 7 (c_t_fit_rows 3)), (A_t_fit_rows 4, eJ cJ 7 (c_t_fit_rows 4)), (A_t_fit_rows 5, eJ cJ 7 (c_t_fit_rows 5)), (A_t_fit 4, eJ cJ 6 c_t_fit_surplus), (h_t, oM A_t), (A_t 0, oW A_t_now c_t_now_knots c_t_now_flows c_t_now_readSet)]) Γ (fun sz => mX3_unreadSet (l := l) (D := D) (sz := sz) (cI := cI) (cJ := cJ) (cZ := cZ) (cW := cW) (cR := cR) (h_t := A_t 0) (A_t := A_t_now) (hf := e11)) eX3_unreadSet gX4_change_X3_unreadSet rfl rfl 0 rfl rfl rfl (Nat.le_of_ble_eq_true rfl) ⟨Nat.le_of_ble_eq_true rfl, Nat.le_of_ble_eq_true rfl⟩ dX4_change_45 [18] [0, 1, 2, 3, 4, 5, 6, 7, 8, 9, 10, 11, 12, 13, 14, 15, 16, 17] rfl rfl rfl rfl (by decide) rfl ?_
        obtain ⟨⟨v12, v13, v14, v15, v16, v17⟩, e18, hf⟩ := ya_ob hf
        refine g_vv (q := (RX0, TX0, 7)) (wr := [(h_t, oM A_t)]) (ws' := [(h_t, oM A_t), (A_t 3, oF A_t_fit v12 v13), (A_t_fit 0, oG A_t_fit_heaps), (A_t_fit_heaps 0, eI cI 6 v14), (A_t_fit 1, oG A_t_fit_pieces), (A_t_fit_pieces 0, eI cI 6 v15), (A_t_fit 3, eQ cR 6 A_t_fit_rows), (A_t_fit_rows 0, eJ cJ 7 (v16 0)), (A_t_fit_rows 1, eJ cJ 7 (v16 1)), (A_t_fit_rows 2, eJ cJ 7 (v16 2)), (A_t_fit_rows 3, eJ cJ 7 (v16 3)), (A_t_fit_rows 4, eJ cJ 7 (v16 4)), (A_t_fit_rows 5, eJ cJ 7 (v16 5)), (A_t_fit 4, eJ cJ 6 v17), (A_t 0, oW A_t_now c_t_now_knots c_t_now_flows c_t_now_readSet), (A_t_now 0, eI cI 10 c_t_now_from), (A_t_now 1, eI cI 10 c_t_now_to), (A_t_now 2, eI cI 10 c_t_now_reading), (A_t_now 3, eI cI 10 c_t_now_miss)]) Γ (fun sz => mX0_solve (l := l) (D := D) (sz := sz) (cI := cI) (cJ := cJ) (cZ := cZ) (cW := cW) (cR := cR) (h_t := A_t 3) (h_w := A_t 0) (A_t := A_t_fit) (A_t_heaps := A_t_fit_heaps) (A_t_pieces := A_t_fit_pieces) (A_t_rows := A_t_fit_rows) (A_w := A_t_now) (hf := e18)) eX0_solve gX4_change_X0_solve rfl rfl 0 rfl rfl rfl (Nat.le_of_ble_eq_true rfl) ⟨Nat.le_of_ble_eq_true rfl, Nat.le_of_ble_eq_true rfl⟩ dX4_change_48 [4, 5, 6, 7, 8, 9, 10, 11, 12, 13, 14, 15, 16, 18, 0, 1, 2, 3] [17] rfl rfl rfl rfl (by decide) rfl ?_
        refine g_aload_n Γ 0 dX4_change_51 rfl ?_
        refine g_get Γ fX4_change_33 0 rfl rfl dX4_change_52 ?_
        refine g_aload_n Γ 0 dX4_change_55 rfl ?_
        refine g_get Γ fX4_change_10 0 rfl rfl dX4_change_56 ?_
        refine g_iload_n Γ 1 dX4_change_59 rfl ?_
        obtain ⟨v19, e20, hf⟩ := ya_ob hf
        refine g_vl (q := (RX0, TX0, 7)) (wr := [(h_t, oM A_t), (A_t_fit 1, oG A_t_fit_pieces), (A_t_fit_pieces 0, eI cI 6 v15), (A_t_fit 4, eJ cJ 6 v17), (A_t_now 2, eI cI 10 c_t_now_reading)]) (ws' := [(h_t, oM A_t), (A_t_fit 1, oG A_t_fit_pieces), (A_t_fit_pieces 0, eI cI 6 v15), (A_t_fit 4, eJ cJ 6 v17), (A_t_now 2, eI cI 10 c_t_now_reading), (A_t 3, oF A_t_fit v12 v13), (A_t_fit 0, oG A_t_fit_heaps), (A_t_fit_heaps 0, eI cI 6 v14), (A_t_fit 3, eQ cR 6 A_t_fit_rows), (A_t_fit_rows 0, eJ cJ 7 (v16 0)), (A_t_fit_rows 1, eJ cJ 7 (v16 1)), (A_t_fit_rows 2, eJ cJ 7 (v16 2)), (A_t_fit_rows 3, eJ cJ 7 (v16 3)), (A_t_fit_rows 4, eJ cJ 7 (v16 4)), (A_t_fit_rows 5, eJ cJ 7 (v16 5)), (A_t 0, oW A_t_now c_t_now_knots c_t_now_flows c_t_now_readSet), (A_t_now 0, eI cI 10 c_t_now_from), (A_t_now 1, eI cI 10 c_t_now_to), (A_t_now 3, eI cI 10 c_t_now_miss)]) Γ (fun sz => mX0_changeAbove (l := l) (D := D) (sz := sz) (cI := cI) (cJ := cJ) (cZ := cZ) (cW := cW) (cR := cR) (h_t := A_t 3) (h_w := A_t 0) (A_t := A_t_fit) (A_t_heaps := A_t_fit_heaps) (A_t_rows := A_t_fit_rows) (A_w := A_t_now) (hf := e20)) eX0_changeAbove gX4_change_X0_changeAbove rfl rfl 0 rfl rfl rfl (Nat.le_of_ble_eq_true rfl) ⟨Nat.le_of_ble_eq_true rfl, Nat.le_of_ble_eq_true rfl⟩ dX4_change_60 [1, 2, 3, 6, 7, 8, 9, 10, 11, 12, 14, 15, 16, 18] [0, 4, 5, 13, 17] rfl rfl rfl rfl (by decide) rfl ?_
        refine g_aload_n Γ 0 dX4_change_63 rfl ?_
        refine g_get Γ fX4_change_33 0 rfl rfl dX4_change_64 ?_
        refine g_get Γ fX4_change_168 5 rfl rfl dX4_change_67 ?_
        refine g_iload_n Γ 2 dX4_change_70 rfl ?_
        obtain ⟨v21, e22, hf⟩ := ya_ob hf
        refine g_sl (wr := [(h_t, oM A_t), (A_t_fit 1, oG A_t_fit_pieces), (A_t_fit_pieces 0, eI cI 6 v15), (A_t_fit 4, eJ cJ 6 v17), (A_t_now 2, eI cI 10 c_t_now_reading), (A_t 3, oF A_t_fit v12 v13), (A_t_fit 0, oG A_t_fit_heaps), (A_t_fit_heaps 0, eI cI 6 v14), (A_t_fit 3, eQ cR 6 A_t_fit_rows), (A_t_fit_rows 0, eJ cJ 7 (v16 0)), (A_t_fit_rows 1, eJ cJ 7 (v16 1)), (A_t_fit_rows 2, eJ cJ 7 (v16 2)), (A_t_fit_rows 3, eJ cJ 7 (v16 3)), (A_t_fit_rows 4, eJ cJ 7 (v16 4)), (A_t_fit_rows 5, eJ cJ 7 (v16 5)), (A_t 0, oW A_t_now c_t_now_knots c_t_now_flows c_t_now_readSet), (A_t_now 0, eI cI 10 c_t_now_from), (A_t_now 1, eI cI 10 c_t_now_to), (A_t_now 3, eI cI 10 c_t_now_miss)]) (ws' := [(h_t, oM A_t), (A_t_fit 1, oG A_t_fit_pieces), (A_t_fit_pieces 0, eI cI 6 v15), (A_t_fit 4, eJ cJ 6 v17), (A_t_now 2, eI cI 10 c_t_now_reading), (A_t 3, oF A_t_fit v12 v13), (A_t_fit 0, oG A_t_fit_heaps), (A_t_fit_heaps 0, eI cI 6 v14), (A_t_fit 3, eQ cR 6 A_t_fit_rows), (A_t_fit_rows 0, eJ cJ 7 (v16 0)), (A_t_fit_rows 1, eJ cJ 7 (v16 1)), (A_t_fit_rows 2, eJ cJ 7 (v16 2)), (A_t_fit_rows 3, eJ cJ 7 (v16 3)), (A_t_fit_rows 4, eJ cJ 7 (v16 4)), (A_t_fit_rows 5, eJ cJ 7 (v16 5)), (A_t 0, oW A_t_now c_t_now_knots c_t_now_flows c_t_now_readSet), (A_t_now 0, eI cI 10 c_t_now_from), (A_t_now 1, eI cI 10 c_t_now_to), (A_t_now 3, eI cI 10 c_t_now_miss)]) Γ (fun sz => mX4_lowestTerms (l := l) (D := D) (sz := sz) (cI := cI) (cJ := cJ) (cZ := cZ) (cW := cW) (cR := cR)  (hf := e22)) eX4_lowestTerms ggX4_change_X4_lowestTerms (by decide +kernel) (by decide +kernel) (by decide +kernel) rfl rfl (Nat.le_of_ble_eq_true rfl) ⟨Nat.le_of_ble_eq_true rfl, Nat.le_of_ble_eq_true rfl⟩ dX4_change_71 [] [0, 1, 2, 3, 4, 5, 6, 7, 8, 9, 10, 11, 12, 13, 14, 15, 16, 17, 18] rfl rfl rfl rfl (by decide) rfl ?_
        cases hf
        exact g_lret Γ hr dX4_change_74 [0, 15, 16, 17, 4, 18, 5, 6, 7, 1, 2, 8, 9, 10, 11, 12, 13, 14, 3] rfl rfl
      · have hf := ya_if1 c9 hf
        refine g_ldc2 (v := (-1)) Γ dX4_change_29 (by decide +kernel) ?_
        cases hf
        exact g_lret Γ hr dX4_change_32 [17, 18, 0, 1, 2, 3, 4, 5, 6, 7, 8, 9, 10, 11, 12, 13, 14, 15, 16] rfl rfl

set_option maxRecDepth 20000 in
theorem ggX4_force_X4_isKnot : GoodIn wsX4_force wsX4_isKnot := goodIn_r _ [9, 3, 10, 106, 107, 108, 109, 110, 111, 112, 120, 121, 122, 123, 124, 125, 126, 127, 128, 129, 130] rfl (by decide +kernel)
set_option maxRecDepth 20000 in
theorem gX4_force_X4_isKnot : GoodIn wsX4_force (wsV RX4 56 RX4 yX4_isKnot wsX4_isKnot) := goodIn_app (goodIn_of _ (by decide +kernel)) ggX4_force_X4_isKnot
set_option maxRecDepth 20000 in
theorem ggX4_force_X4_isPart : GoodIn wsX4_force wsX4_isPart := goodIn_r _ [13] rfl (by decide +kernel)
set_option maxRecDepth 20000 in
theorem gX4_force_X4_isPart : GoodIn wsX4_force (va_wsS RX4 155 yX4_isPart wsX4_isPart) := goodIn_app (goodIn_of _ (by decide +kernel)) ggX4_force_X4_isPart
set_option maxRecDepth 20000 in
theorem ggX4_force_X3_unreadSet : GoodIn wsX4_force wsX3_unreadSet := goodIn_r _ [18, 19, 20, 21, 22, 17, 23, 24, 25, 8, 26, 120, 121, 122, 123, 124, 125, 126, 127, 128, 129, 130] rfl (by decide +kernel)
set_option maxRecDepth 20000 in
theorem gX4_force_X3_unreadSet : GoodIn wsX4_force (wsV RX4 120 RX3 yX3_unreadSet wsX3_unreadSet) := goodIn_app (goodIn_of _ (by decide +kernel)) ggX4_force_X3_unreadSet
set_option maxRecDepth 20000 in
theorem ggX4_force_X0_solve : GoodIn wsX4_force wsX0_solve := goodIn_r _ [31, 32, 33, 34, 35, 36, 37, 38, 39, 40, 41, 42, 43, 44, 45, 8, 46, 47, 48, 49, 50, 51, 52, 53, 54, 55, 56, 57, 58, 59, 60, 61, 62, 21, 22, 17, 23, 24, 25, 26, 63, 64, 65, 30, 66, 67, 68, 69, 70, 71, 72, 73, 74, 75, 76, 77, 78, 79, 80, 81, 82, 83, 84, 85, 86, 87, 88, 89, 90, 91, 92, 113, 114, 115, 116, 117, 118, 119, 120, 121, 122, 123, 124, 125, 126, 127, 128, 129, 130, 131] rfl (by decide +kernel)
set_option maxRecDepth 20000 in
theorem gX4_force_X0_solve : GoodIn wsX4_force (wsV RX4 160 RX0 yX0_solve wsX0_solve) := goodIn_app (goodIn_of _ (by decide +kernel)) ggX4_force_X0_solve
set_option maxRecDepth 20000 in
theorem ggX4_force_X0_forceAbove : GoodIn wsX4_force wsX0_forceAbove := goodIn_r _ [96, 67, 33, 70, 113, 114, 115, 116, 117, 118, 119, 131] rfl (by decide +kernel)
set_option maxRecDepth 20000 in
theorem gX4_force_X0_forceAbove : GoodIn wsX4_force (wsV RX4 179 RX0 yX0_forceAbove wsX0_forceAbove) := goodIn_app (goodIn_of _ (by decide +kernel)) ggX4_force_X0_forceAbove
set_option maxRecDepth 20000 in
theorem ggX4_force_X4_lowestTerms : GoodIn wsX4_force wsX4_lowestTerms := goodIn_r _ [99, 100, 101, 57, 102, 1, 103, 104, 8, 105] rfl (by decide +kernel)
set_option maxRecDepth 20000 in
theorem gX4_force_X4_lowestTerms : GoodIn wsX4_force (va_wsS RX4 172 yX4_lowestTerms wsX4_lowestTerms) := goodIn_app (goodIn_of _ (by decide +kernel)) ggX4_force_X4_lowestTerms
theorem dX4_force_0 : decode cX4_force 0 = .ok (.aload_n 0, 1) := by decide +kernel
theorem dX4_force_1 : decode cX4_force 1 = .ok (.iload_n 1, 1) := by decide +kernel
theorem dX4_force_2 : decode cX4_force 2 = .ok (.invokevirtual 56, 3) := by decide +kernel
theorem dX4_force_5 : decode cX4_force 5 = .ok (.ifCond .eq 10, 3) := by decide +kernel
theorem dX4_force_8 : decode cX4_force 8 = .ok (.iload_n 2, 1) := by decide +kernel
theorem dX4_force_9 : decode cX4_force 9 = .ok (.invokestatic 155, 3) := by decide +kernel
theorem dX4_force_12 : decode cX4_force 12 = .ok (.ifCond .ne 7, 3) := by decide +kernel
theorem dX4_force_15 : decode cX4_force 15 = .ok (.ldc2_w 158, 3) := by decide +kernel
theorem dX4_force_18 : decode cX4_force 18 = .ok (.lreturn, 1) := by decide +kernel
theorem dX4_force_19 : decode cX4_force 19 = .ok (.aload_n 0, 1) := by decide +kernel
theorem dX4_force_20 : decode cX4_force 20 = .ok (.getfield 33, 3) := by decide +kernel
theorem dX4_force_23 : decode cX4_force 23 = .ok (.aload_n 0, 1) := by decide +kernel
theorem dX4_force_24 : decode cX4_force 24 = .ok (.getfield 10, 3) := by decide +kernel
theorem dX4_force_27 : decode cX4_force 27 = .ok (.aload_n 0, 1) := by decide +kernel
theorem dX4_force_28 : decode cX4_force 28 = .ok (.getfield 10, 3) := by decide +kernel
theorem dX4_force_31 : decode cX4_force 31 = .ok (.invokevirtual 120, 3) := by decide +kernel
theorem dX4_force_34 : decode cX4_force 34 = .ok (.invokevirtual 160, 3) := by decide +kernel
theorem dX4_force_37 : decode cX4_force 37 = .ok (.aload_n 0, 1) := by decide +kernel
theorem dX4_force_38 : decode cX4_force 38 = .ok (.getfield 33, 3) := by decide +kernel
theorem dX4_force_41 : decode cX4_force 41 = .ok (.iload_n 1, 1) := by decide +kernel
theorem dX4_force_42 : decode cX4_force 42 = .ok (.invokevirtual 179, 3) := by decide +kernel
theorem dX4_force_45 : decode cX4_force 45 = .ok (.aload_n 0, 1) := by decide +kernel
theorem dX4_force_46 : decode cX4_force 46 = .ok (.getfield 33, 3) := by decide +kernel
theorem dX4_force_49 : decode cX4_force 49 = .ok (.getfield 168, 3) := by decide +kernel
theorem dX4_force_52 : decode cX4_force 52 = .ok (.iload_n 2, 1) := by decide +kernel
theorem dX4_force_53 : decode cX4_force 53 = .ok (.invokestatic 172, 3) := by decide +kernel
theorem dX4_force_56 : decode cX4_force 56 = .ok (.lreturn, 1) := by decide +kernel
/-! ===== FlowMeters.force(II)J ===== -/
def fX4_force (N : Nat) (c_t_now_knots : Int32) (c_t_now_flows : Int32) (c_t_now_readSet : Int32) (c_t_now_from : Nat → Int32) (c_t_now_to : Nat → Int32) (c_t_now_reading : Nat → Int32) (c_t_now_miss : Nat → Int32) (c_t_fit_unread : Int32) (c_t_fit_below : Int64) (c_t_fit_heaps_least : Nat → Int32) (c_t_fit_pieces_least : Nat → Int32) (c_t_fit_rows : Nat → Nat → Int64) (c_t_fit_surplus : Nat → Int64) (x1 : Int32) (x2 : Int32) : Option (Int64 × Int32 × Int64 × (Nat → Int32) × (Nat → Int32) × (Nat → Nat → Int64) × (Nat → Int64)) :=
  (fX4_isKnot c_t_now_knots x1).bind fun v1 =>
  (if v1 = 0 then
    some ((-1), c_t_fit_unread, c_t_fit_below, c_t_fit_heaps_least, c_t_fit_pieces_least, c_t_fit_rows, c_t_fit_surplus)
  else
    (fX4_isPart x2).bind fun v4 =>
    (if v4 = 0 then
      some ((-1), c_t_fit_unread, c_t_fit_below, c_t_fit_heaps_least, c_t_fit_pieces_least, c_t_fit_rows, c_t_fit_surplus)
    else
      (fX3_unreadSet c_t_now_flows c_t_now_readSet).bind fun v7 =>
      (fX0_solve N c_t_fit_unread c_t_fit_below c_t_fit_heaps_least c_t_fit_pieces_least c_t_fit_rows c_t_fit_surplus c_t_now_knots c_t_now_flows c_t_now_from c_t_now_to c_t_now_reading c_t_now_miss v7).bind fun (v9, v10, v11, v12, v13, v14) =>
      (fX0_forceAbove v11 v13 x1).bind fun v16 =>
      (fX4_lowestTerms N v16 v10 x2).bind fun v18 =>
      some (v18, v9, v10, v11, v12, v13, v14)))
theorem fX4_force_33 : yF wsX4_force RX4 33 4 3 RX4 TX4 7 := ⟨rfl, by decide, by decide +kernel, by decide +kernel⟩
theorem fX4_force_10 : yF wsX4_force RX4 10 4 0 RX4 TX4 7 := ⟨rfl, by decide, by decide +kernel, by decide +kernel⟩
theorem fX4_force_168 : yF wsX4_force RX4 168 0 6 RX0 TX0 7 := ⟨rfl, by decide, by decide +kernel, by decide +kernel⟩
abbrev rmX4_force : Room := { frames := 4, cells := 0, slots := 0, locals := 119 }
theorem eX4_force : yY yX4_force wsX4_force cX4_force 3 (some .long) rmX4_force 2 := ⟨⟨_, rfl⟩, rfl, rfl, by decide, by decide, by decide +kernel⟩
set_option maxHeartbeats 4000000 in
set_option maxRecDepth 100000 in
theorem mX4_force {l : Launch} {D : va_G} {sz : Nat} {cI cJ cZ cW cR : ClassId} {N : Nat} {h_t : Nat} {A_t : Nat → Nat} {A_t_now : Nat → Nat} {A_t_fit : Nat → Nat} {A_t_fit_heaps : Nat → Nat} {A_t_fit_pieces : Nat → Nat} {A_t_fit_rows : Nat → Nat} {c_t_now_knots : Int32} {c_t_now_flows : Int32} {c_t_now_readSet : Int32} {c_t_now_from : Nat → Int32} {c_t_now_to : Nat → Int32} {c_t_now_reading : Nat → Int32} {c_t_now_miss : Nat → Int32} {c_t_fit_unread : Int32} {c_t_fit_below : Int64} {c_t_fit_heaps_least : Nat → Int32} {c_t_fit_pieces_least : Nat → Int32} {c_t_fit_rows : Nat → Nat → Int64} {c_t_fit_surplus : Nat → Int64} {x1 : Int32} {x2 : Int32} {r : Int64} {zc_t_fit_unread : Int32} {zc_t_fit_below : Int64} {zc_t_fit_heaps_least : Nat → Int32} {zc_t_fit_pieces_least : Nat → Int32} {zc_t_fit_rows : Nat → Nat → Int64} {zc_t_fit_surplus : Nat → Int64} (hf : fX4_force N c_t_now_knots c_t_now_flows c_t_now_readSet c_t_now_from c_t_now_to c_t_now_reading c_t_now_miss c_t_fit_unread c_t_fit_below c_t_fit_heaps_least c_t_fit_pieces_least c_t_fit_rows c_t_fit_surplus x1 x2 = some (r, zc_t_fit_unread, zc_t_fit_below, zc_t_fit_heaps_least, zc_t_fit_pieces_least, zc_t_fit_rows, zc_t_fit_surplus)) : Met l yX4_force wsX4_force rmX4_force (yP D (yT cI cJ cZ cW cR) [(h_t, oM A_t), (A_t 0, oW A_t_now c_t_now_knots c_t_now_flows c_t_now_readSet), (A_t_now 0, eI cI 10 c_t_now_from), (A_t_now 1, eI cI 10 c_t_now_to), (A_t_now 2, eI cI 10 c_t_now_reading), (A_t_now 3, eI cI 10 c_t_now_miss), (A_t 3, oF A_t_fit c_t_fit_unread c_t_fit_below), (A_t_fit 0, oG A_t_fit_heaps), (A_t_fit_heaps 0, eI cI 6 c_t_fit_heaps_least), (A_t_fit 1, oG A_t_fit_pieces), (A_t_fit_pieces 0, eI cI 6 c_t_fit_pieces_least), (A_t_fit 3, eQ cR 6 A_t_fit_rows), (A_t_fit_rows 0, eJ cJ 7 (c_t_fit_rows 0)), (A_t_fit_rows 1, eJ cJ 7 (c_t_fit_rows 1)), (A_t_fit_rows 2, eJ cJ 7 (c_t_fit_rows 2)), (A_t_fit_rows 3, eJ cJ 7 (c_t_fit_rows 3)), (A_t_fit_rows 4, eJ cJ 7 (c_t_fit_rows 4)), (A_t_fit_rows 5, eJ cJ 7 (c_t_fit_rows 5)), (A_t_fit 4, eJ cJ 6 c_t_fit_surplus)] sz [.ref h_t, .int x1, .int x2]) (yQl D (yT cI cJ cZ cW cR) r [(h_t, oM A_t), (A_t 0, oW A_t_now c_t_now_knots c_t_now_flows c_t_now_readSet), (A_t_now 0, eI cI 10 c_t_now_from), (A_t_now 1, eI cI 10 c_t_now_to), (A_t_now 2, eI cI 10 c_t_now_reading), (A_t_now 3, eI cI 10 c_t_now_miss), (A_t 3, oF A_t_fit zc_t_fit_unread zc_t_fit_below), (A_t_fit 0, oG A_t_fit_heaps), (A_t_fit_heaps 0, eI cI 6 zc_t_fit_heaps_least), (A_t_fit 1, oG A_t_fit_pieces), (A_t_fit_pieces 0, eI cI 6 zc_t_fit_pieces_least), (A_t_fit 3, eQ cR 6 A_t_fit_rows), (A_t_fit_rows 0, eJ cJ 7 (zc_t_fit_rows 0)), (A_t_fit_rows 1, eJ cJ 7 (zc_t_fit_rows 1)), (A_t_fit_rows 2, eJ cJ 7 (zc_t_fit_rows 2)), (A_t_fit_rows 3, eJ cJ 7 (zc_t_fit_rows 3)), (A_t_fit_rows 4, eJ cJ 7 (zc_t_fit_rows 4)), (A_t_fit_rows 5, eJ cJ 7 (zc_t_fit_rows 5)), (A_t_fit 4, eJ cJ 6 zc_t_fit_surplus)] (va_A [(h_t, oM A_t), (A_t 0, oW A_t_now c_t_now_knots c_t_now_flows c_t_now_readSet), (A_t_now 0, eI cI 10 c_t_now_from), (A_t_now 1, eI cI 10 c_t_now_to), (A_t_now 2, eI cI 10 c_t_now_reading), (A_t_now 3, eI cI 10 c_t_now_miss), (A_t 3, oF A_t_fit c_t_fit_unread c_t_fit_below), (A_t_fit 0, oG A_t_fit_heaps), (A_t_fit_heaps 0, eI cI 6 c_t_fit_heaps_least), (A_t_fit 1, oG A_t_fit_pieces), (A_t_fit_pieces 0, eI cI 6 c_t_fit_pieces_least), (A_t_fit 3, eQ cR 6 A_t_fit_rows), (A_t_fit_rows 0, eJ cJ 7 (c_t_fit_rows 0)), (A_t_fit_rows 1, eJ cJ 7 (c_t_fit_rows 1)), (A_t_fit_rows 2, eJ cJ 7 (c_t_fit_rows 2)), (A_t_fit_rows 3, eJ cJ 7 (c_t_fit_rows 3)), (A_t_fit_rows 4, eJ cJ 7 (c_t_fit_rows 4)), (A_t_fit_rows 5, eJ cJ 7 (c_t_fit_rows 5)), (A_t_fit 4, eJ cJ 6 c_t_fit_surplus)] sz)) 0 0 (va_A [(h_t, oM A_t), (A_t 0, oW A_t_now c_t_now_knots c_t_now_flows c_t_now_readSet), (A_t_now 0, eI cI 10 c_t_now_from), (A_t_now 1, eI cI 10 c_t_now_to), (A_t_now 2, eI cI 10 c_t_now_reading), (A_t_now 3, eI cI 10 c_t_now_miss), (A_t 3, oF A_t_fit c_t_fit_unread c_t_fit_below), (A_t_fit 0, oG A_t_fit_heaps), (A_t_fit_heaps 0, eI cI 6 c_t_fit_heaps_least), (A_t_fit 1, oG A_t_fit_pieces), (A_t_fit_pieces 0, eI cI 6 c_t_fit_pieces_least), (A_t_fit 3, eQ cR 6 A_t_fit_rows), (A_t_fit_rows 0, eJ cJ 7 (c_t_fit_rows 0)), (A_t_fit_rows 1, eJ cJ 7 (c_t_fit_rows 1)), (A_t_fit_rows 2, eJ cJ 7 (c_t_fit_rows 2)), (A_t_fit_rows 3, eJ cJ 7 (c_t_fit_rows 3)), (A_t_fit_rows 4, eJ cJ 7 (c_t_fit_rows 4)), (A_t_fit_rows 5, eJ cJ 7 (c_t_fit_rows 5)), (A_t_fit 4, eJ cJ 6 c_t_fit_surplus)] sz) := by
  refine yM (cc := cX4_force) (maxL := 3) (ret := (some .long)) RX4 (by decide) rfl rfl (Nat.le_of_ble_eq_true rfl) ?_
  intro p e s m below meth c Γ hr
  show yG p l e (headSpec wsX4_force rmX4_force).room s m (List.toArray [.ref h_t, .int x1, .int x2]) below meth c D (va_A [(h_t, oM A_t), (A_t 0, oW A_t_now c_t_now_knots c_t_now_flows c_t_now_readSet), (A_t_now 0, eI cI 10 c_t_now_from), (A_t_now 1, eI cI 10 c_t_now_to), (A_t_now 2, eI cI 10 c_t_now_reading), (A_t_now 3, eI cI 10 c_t_now_miss), (A_t 3, oF A_t_fit c_t_fit_unread c_t_fit_below), (A_t_fit 0, oG A_t_fit_heaps), (A_t_fit_heaps 0, eI cI 6 c_t_fit_heaps_least), (A_t_fit 1, oG A_t_fit_pieces), (A_t_fit_pieces 0, eI cI 6 c_t_fit_pieces_least), (A_t_fit 3, eQ cR 6 A_t_fit_rows), (A_t_fit_rows 0, eJ cJ 7 (c_t_fit_rows 0)), (A_t_fit_rows 1, eJ cJ 7 (c_t_fit_rows 1)), (A_t_fit_rows 2, eJ cJ 7 (c_t_fit_rows 2)), (A_t_fit_rows 3, eJ cJ 7 (c_t_fit_rows 3)), (A_t_fit_rows 4, eJ cJ 7 (c_t_fit_rows 4)), (A_t_fit_rows 5, eJ cJ 7 (c_t_fit_rows 5)), (A_t_fit 4, eJ cJ 6 c_t_fit_surplus)] sz) 3 0 0 (MQ below (yQl D (yT cI cJ cZ cW cR) r [(h_t, oM A_t), (A_t 0, oW A_t_now c_t_now_knots c_t_now_flows c_t_now_readSet), (A_t_now 0, eI cI 10 c_t_now_from), (A_t_now 1, eI cI 10 c_t_now_to), (A_t_now 2, eI cI 10 c_t_now_reading), (A_t_now 3, eI cI 10 c_t_now_miss), (A_t 3, oF A_t_fit zc_t_fit_unread zc_t_fit_below), (A_t_fit 0, oG A_t_fit_heaps), (A_t_fit_heaps 0, eI cI 6 zc_t_fit_heaps_least), (A_t_fit 1, oG A_t_fit_pieces), (A_t_fit_pieces 0, eI cI 6 zc_t_fit_pieces_least), (A_t_fit 3, eQ cR 6 A_t_fit_rows), (A_t_fit_rows 0, eJ cJ 7 (zc_t_fit_rows 0)), (A_t_fit_rows 1, eJ cJ 7 (zc_t_fit_rows 1)), (A_t_fit_rows 2, eJ cJ 7 (zc_t_fit_rows 2)), (A_t_fit_rows 3, eJ cJ 7 (zc_t_fit_rows 3)), (A_t_fit_rows 4, eJ cJ 7 (zc_t_fit_rows 4)), (A_t_fit_rows 5, eJ cJ 7 (zc_t_fit_rows 5)), (A_t_fit 4, eJ cJ 6 zc_t_fit_surplus)] (va_A [(h_t, oM A_t), (A_t 0, oW A_t_now c_t_now_knots c_t_now_flows c_t_now_readSet), (A_t_now 0, eI cI 10 c_t_now_from), (A_t_now 1, eI cI 10 c_t_now_to), (A_t_now 2, eI cI 10 c_t_now_reading), (A_t_now 3, eI cI 10 c_t_now_miss), (A_t 3, oF A_t_fit c_t_fit_unread c_t_fit_below), (A_t_fit 0, oG A_t_fit_heaps), (A_t_fit_heaps 0, eI cI 6 c_t_fit_heaps_least), (A_t_fit 1, oG A_t_fit_pieces), (A_t_fit_pieces 0, eI cI 6 c_t_fit_pieces_least), (A_t_fit 3, eQ cR 6 A_t_fit_rows), (A_t_fit_rows 0, eJ cJ 7 (c_t_fit_rows 0)), (A_t_fit_rows 1, eJ cJ 7 (c_t_fit_rows 1)), (A_t_fit_rows 2, eJ cJ 7 (c_t_fit_rows 2)), (A_t_fit_rows 3, eJ cJ 7 (c_t_fit_rows 3)), (A_t_fit_rows 4, eJ cJ 7 (c_t_fit_rows 4)), (A_t_fit_rows 5, eJ cJ 7 (c_t_fit_rows 5)), (A_t_fit 4, eJ cJ 6 c_t_fit_surplus)] sz)) (List.toArray [.ref h_t, .int x1, .int x2]) s 0 0 (va_A [(h_t, oM A_t), (A_t 0, oW A_t_now c_t_now_knots c_t_now_flows c_t_now_readSet), (A_t_now 0, eI cI 10 c_t_now_from), (A_t_now 1, eI cI 10 c_t_now_to), (A_t_now 2, eI cI 10 c_t_now_reading), (A_t_now 3, eI cI 10 c_t_now_miss), (A_t 3, oF A_t_fit c_t_fit_unread c_t_fit_below), (A_t_fit 0, oG A_t_fit_heaps), (A_t_fit_heaps 0, eI cI 6 c_t_fit_heaps_least), (A_t_fit 1, oG A_t_fit_pieces), (A_t_fit_pieces 0, eI cI 6 c_t_fit_pieces_least), (A_t_fit 3, eQ cR 6 A_t_fit_rows), (A_t_fit_rows 0, eJ cJ 7 (c_t_fit_rows 0)), (A_t_fit_rows 1, eJ cJ 7 (c_t_fit_rows 1)), (A_t_fit_rows 2, eJ cJ 7 (c_t_fit_rows 2)), (A_t_fit_rows 3, eJ cJ 7 (c_t_fit_rows 3)), (A_t_fit_rows 4, eJ cJ 7 (c_t_fit_rows 4)), (A_t_fit_rows 5, eJ cJ 7 (c_t_fit_rows 5)), (A_t_fit 4, eJ cJ 6 c_t_fit_surplus)] sz)) 0 [(0, .ref h_t), (1, .int x1), (2, .int x2)] [] [(h_t, oM A_t), (A_t 0, oW A_t_now c_t_now_knots c_t_now_flows c_t_now_readSet), (A_t_now 0, eI cI 10 c_t_now_from), (A_t_now 1, eI cI 10 c_t_now_to), (A_t_now 2, eI cI 10 c_t_now_reading), (A_t_now 3, eI cI 10 c_t_now_miss), (A_t 3, oF A_t_fit c_t_fit_unread c_t_fit_below), (A_t_fit 0, oG A_t_fit_heaps), (A_t_fit_heaps 0, eI cI 6 c_t_fit_heaps_least), (A_t_fit 1, oG A_t_fit_pieces), (A_t_fit_pieces 0, eI cI 6 c_t_fit_pieces_least), (A_t_fit 3, eQ cR 6 A_t_fit_rows), (A_t_fit_rows 0, eJ cJ 7 (c_t_fit_rows 0)), (A_t_fit_rows 1, eJ cJ 7 (c_t_fit_rows 1)), (A_t_fit_rows 2, eJ cJ 7 (c_t_fit_rows 2)), (A_t_fit_rows 3, eJ cJ 7 (c_t_fit_rows 3)), (A_t_fit_rows 4, eJ cJ 7 (c_t_fit_rows 4)), (A_t_fit_rows 5, eJ cJ 7 (c_t_fit_rows 5)), (A_t_fit 4, eJ cJ 6 c_t_fit_surplus)]
  unfold fX4_force at hf
  refine g_aload_n Γ 0 dX4_force_0 rfl ?_
  refine g_iload_n Γ 1 dX4_force_1 rfl ?_
  obtain ⟨v1, e2, hf⟩ := ya_ob hf
  refine g_vi (q := (RX4, TX4, 7)) (wr := [(A_t_now 0, eI cI 10 c_t_now_from), (A_t_now 1, eI cI 10 c_t_now_to), (A_t_now 2, eI cI 10 c_t_now_reading), (A_t_now 3, eI cI 10 c_t_now_miss), (A_t 3, oF A_t_fit c_t_fit_unread c_t_fit_below), (A_t_fit 0, oG A_t_fit_heaps), (A_t_fit_heaps 0, eI cI 6 c_t_fit_heaps_least), (A_t_fit 1, oG A_t_fit_pieces), (A_t_fit_pieces 0, eI cI 6 c_t_fit_pieces_least), (A_t_fit 3, eQ cR 6 A_t_fit_rows), (A_t_fit_rows 0, eJ cJ 7 (c_t_fit_rows 0)), (A_t_fit_rows 1, eJ cJ 7 (c_t_fit_rows 1)), (A_t_fit_rows 2, eJ cJ 7 (c_t_fit_rows 2)), (A_t_fit_rows 3, eJ cJ 7 (c_t_fit_rows 3)), (A_t_fit_rows 4, eJ cJ 7 (c_t_fit_rows 4)), (A_t_fit_rows 5, eJ cJ 7 (c_t_fit_rows 5)), (A_t_fit 4, eJ cJ 6 c_t_fit_surplus)]) (ws' := [(A_t_now 0, eI cI 10 c_t_now_from), (A_t_now 1, eI cI 10 c_t_now_to), (A_t_now 2, eI cI 10 c_t_now_reading), (A_t_now 3, eI cI 10 c_t_now_miss), (A_t 3, oF A_t_fit c_t_fit_unread c_t_fit_below), (A_t_fit 0, oG A_t_fit_heaps), (A_t_fit_heaps 0, eI cI 6 c_t_fit_heaps_least), (A_t_fit 1, oG A_t_fit_pieces), (A_t_fit_pieces 0, eI cI 6 c_t_fit_pieces_least), (A_t_fit 3, eQ cR 6 A_t_fit_rows), (A_t_fit_rows 0, eJ cJ 7 (c_t_fit_rows 0)), (A_t_fit_rows 1, eJ cJ 7 (c_t_fit_rows 1)), (A_t_fit_rows 2, eJ cJ 7 (c_t_fit_rows 2)), (A_t_fit_rows 3, eJ cJ 7 (c_t_fit_rows 3)), (A_t_fit_rows 4, eJ cJ 7 (c_t_fit_rows 4)), (A_t_fit_rows 5, eJ cJ 7 (c_t_fit_rows 5)), (A_t_fit 4, eJ cJ 6 c_t_fit_surplus), (h_t, oM A_t), (A_t 0, oW A_t_now c_t_now_knots c_t_now_flows c_t_now_readSet)]) Γ (fun sz => mX4_isKnot (l := l) (D := D) (sz := sz) (cI := cI) (cJ := cJ) (cZ := cZ) (cW := cW) (cR := cR) (h_t := h_t) (A_t := A_t) (A_t_now := A_t_now) (hf := e2)) eX4_isKnot gX4_force_X4_isKnot rfl rfl 0 rfl rfl rfl (Nat.le_of_ble_eq_true rfl) ⟨Nat.le_of_ble_eq_true rfl, Nat.le_of_ble_eq_true rfl⟩ dX4_force_2 [0, 1] [2, 3, 4, 5, 6, 7, 8, 9, 10, 11, 12, 13, 14, 15, 16, 17, 18] rfl rfl rfl rfl (by decide) rfl ?_
  refine g_if_eq Γ 15 dX4_force_5 (by decide) (fun c3 => ?_) (fun c3 => ?_)
  · have hf := ya_if1 c3 hf
    refine g_ldc2 (v := (-1)) Γ dX4_force_15 (by decide +kernel) ?_
    cases hf
    exact g_lret Γ hr dX4_force_18 [17, 18, 0, 1, 2, 3, 4, 5, 6, 7, 8, 9, 10, 11, 12, 13, 14, 15, 16] rfl rfl
  · have hf := ya_if2 c3 hf
    refine g_iload_n Γ 2 dX4_force_8 rfl ?_
    obtain ⟨v4, e5, hf⟩ := ya_ob hf
    refine g_si (wr := [(A_t_now 0, eI cI 10 c_t_now_from), (A_t_now 1, eI cI 10 c_t_now_to), (A_t_now 2, eI cI 10 c_t_now_reading), (A_t_now 3, eI cI 10 c_t_now_miss), (A_t 3, oF A_t_fit c_t_fit_unread c_t_fit_below), (A_t_fit 0, oG A_t_fit_heaps), (A_t_fit_heaps 0, eI cI 6 c_t_fit_heaps_least), (A_t_fit 1, oG A_t_fit_pieces), (A_t_fit_pieces 0, eI cI 6 c_t_fit_pieces_least), (A_t_fit 3, eQ cR 6 A_t_fit_rows), (A_t_fit_rows 0, eJ cJ 7 (c_t_fit_rows 0)), (A_t_fit_rows 1, eJ cJ 7 (c_t_fit_rows 1)), (A_t_fit_rows 2, eJ cJ 7 (c_t_fit_rows 2)), (A_t_fit_rows 3, eJ cJ 7 (c_t_fit_rows 3)), (A_t_fit_rows 4, eJ cJ 7 (c_t_fit_rows 4)), (A_t_fit_rows 5, eJ cJ 7 (c_t_fit_rows 5)), (A_t_fit 4, eJ cJ 6 c_t_fit_surplus), (h_t, oM A_t), (A_t 0, oW A_t_now c_t_now_knots c_t_now_flows c_t_now_readSet)]) (ws' := [(A_t_now 0, eI cI 10 c_t_now_from), (A_t_now 1, eI cI 10 c_t_now_to), (A_t_now 2, eI cI 10 c_t_now_reading), (A_t_now 3, eI cI 10 c_t_now_miss), (A_t 3, oF A_t_fit c_t_fit_unread c_t_fit_below), (A_t_fit 0, oG A_t_fit_heaps), (A_t_fit_heaps 0, eI cI 6 c_t_fit_heaps_least), (A_t_fit 1, oG A_t_fit_pieces), (A_t_fit_pieces 0, eI cI 6 c_t_fit_pieces_least), (A_t_fit 3, eQ cR 6 A_t_fit_rows), (A_t_fit_rows 0, eJ cJ 7 (c_t_fit_rows 0)), (A_t_fit_rows 1, eJ cJ 7 (c_t_fit_rows 1)), (A_t_fit_rows 2, eJ cJ 7 (c_t_fit_rows 2)), (A_t_fit_rows 3, eJ cJ 7 (c_t_fit_rows 3)), (A_t_fit_rows 4, eJ cJ 7 (c_t_fit_rows 4)), (A_t_fit_rows 5, eJ cJ 7 (c_t_fit_rows 5)), (A_t_fit 4, eJ cJ 6 c_t_fit_surplus), (h_t, oM A_t), (A_t 0, oW A_t_now c_t_now_knots c_t_now_flows c_t_now_readSet)]) Γ (fun sz => mX4_isPart (l := l) (D := D) (sz := sz) (cI := cI) (cJ := cJ) (cZ := cZ) (cW := cW) (cR := cR)  (hf := e5)) eX4_isPart ggX4_force_X4_isPart (by decide +kernel) (by decide +kernel) (by decide +kernel) rfl rfl (Nat.le_of_ble_eq_true rfl) ⟨Nat.le_of_ble_eq_true rfl, Nat.le_of_ble_eq_true rfl⟩ dX4_force_9 [] [0, 1, 2, 3, 4, 5, 6, 7, 8, 9, 10, 11, 12, 13, 14, 15, 16, 17, 18] rfl rfl rfl rfl (by decide) rfl ?_
    refine g_if_ne Γ 19 dX4_force_12 (by decide) (fun c6 => ?_) (fun c6 => ?_)
    · have hf := ya_if2 c6 hf
      refine g_aload_n Γ 0 dX4_force_19 rfl ?_
      refine g_get Γ fX4_force_33 17 rfl rfl dX4_force_20 ?_
      refine g_aload_n Γ 0 dX4_force_23 rfl ?_
      refine g_get Γ fX4_force_10 17 rfl rfl dX4_force_24 ?_
      refine g_aload_n Γ 0 dX4_force_27 rfl ?_
      refine g_get Γ fX4_force_10 17 rfl rfl dX4_force_28 ?_
      obtain ⟨v7, e8, hf⟩ := ya_ob hf
      refine g_vi (q := (RX3, TX3, 11)) (wr := [(A_t_now 0, eI cI 10 c_t_now_from), (A_t_now 1, eI cI 10 c_t_now_to), (A_t_now 2, eI cI 10 c_t_now_reading), (A_t_now 3, eI cI 10 c_t_now_miss), (A_t 3, oF A_t_fit c_t_fit_unread c_t_fit_below), (A_t_fit 0, oG A_t_fit_heaps), (A_t_fit_heaps 0, eI cI 6 c_t_fit_heaps_least), (A_t_fit 1, oG A_t_fit_pieces), (A_t_fit_pieces 0, eI cI 6 c_t_fit_pieces_least), (A_t_fit 3, eQ cR 6 A_t_fit_rows), (A_t_fit_rows 0, eJ cJ 7 (c_t_fit_rows 0)), (A_t_fit_rows 1, eJ cJ 7 (c_t_fit_rows 1)), (A_t_fit_rows 2, eJ cJ 7 (c_t_fit_rows 2)), (A_t_fit_rows 3, eJ cJ 7 (c_t_fit_rows 3)), (A_t_fit_rows 4, eJ cJ 7 (c_t_fit_rows 4)), (A_t_fit_rows 5, eJ cJ 7 (c_t_fit_rows 5)), (A_t_fit 4, eJ cJ 6 c_t_fit_surplus), (h_t, oM A_t)]) (ws' := [(A_t_now 0, eI cI 10 c_t_now_from), (A_t_now 1, eI cI 10 c_t_now_to), (A_t_now 2, eI cI 10 c_t_now_reading), (A_t_now 3, eI cI 10 c_t_now_miss), (A_t 3, oF A_t_fit c_t_fit_unread c_t_fit_below), (A_t_fit 0, oG A_t_fit_heaps), (A_t_fit_heaps 0, eI cI 6 c_t_fit_heaps_least), (A_t_fit 1, oG A_t_fit_pieces), (A_t_fit_pieces 0, eI cI 6 c_t_fit_pieces_least), (A_t_fit 3, eQ cR 6 A_t_fit_rows), (A_t_fit_rows 0, eJ cJ 7 (c_t_fit_rows 0)), (A_t_fit_rows 1, eJ cJ 7 (c_t_fit_rows 1)), (A_t_fit_rows 2, eJ cJ 7 (c_t_fit_rows 2)), (A_t_fit_rows 3, eJ cJ 7 (c_t_fit_rows 3)), (A_t_fit_rows 4, eJ cJ 7 (c_t_fit_rows 4)), (A_t_fit_rows 5, eJ cJ 7 (c_t_fit_rows 5)), (A_t_fit 4, eJ cJ 6 c_t_fit_surplus), (h_t, oM A_t), (A_t 0, oW A_t_now c_t_now_knots c_t_now_flows c_t_now_readSet)]) Γ (fun sz => mX3_unreadSet (l := l) (D := D) (sz := sz) (cI := cI) (cJ := cJ) (cZ := cZ) (cW := cW) (cR := cR) (h_t := A_t 0) (A_t := A_t_now) (hf := e8)) eX3_unreadSet gX4_force_X3_unreadSet rfl rfl 0 rfl rfl rfl (Nat.le_of_ble_eq_true rfl) ⟨Nat.le_of_ble_eq_true rfl, Nat.le_of_ble_eq_true rfl⟩ dX4_force_31 [18] [0, 1, 2, 3, 4, 5, 6, 7, 8, 9, 10, 11, 12, 13, 14, 15, 16, 17] rfl rfl rfl rfl (by decide) rfl ?_
      obtain ⟨⟨v9, v10, v11, v12, v13, v14⟩, e15, hf⟩ := ya_ob hf
      refine g_vv (q := (RX0, TX0, 7)) (wr := [(h_t, oM A_t)]) (ws' := [(h_t, oM A_t), (A_t 3, oF A_t_fit v9 v10), (A_t_fit 0, oG A_t_fit_heaps), (A_t_fit_heaps 0, eI cI 6 v11), (A_t_fit 1, oG A_t_fit_pieces), (A_t_fit_pieces 0, eI cI 6 v12), (A_t_fit 3, eQ cR 6 A_t_fit_rows), (A_t_fit_rows 0, eJ cJ 7 (v13 0)), (A_t_fit_rows 1, eJ cJ 7 (v13 1)), (A_t_fit_rows 2, eJ cJ 7 (v13 2)), (A_t_fit_rows 3, eJ cJ 7 (v13 3)), (A_t_fit_rows 4, eJ cJ 7 (v13 4)), (A_t_fit_rows 5, eJ cJ 7 (v13 5)), (A_t_fit 4, eJ cJ 6 v14), (A_t 0, oW A_t_now c_t_now_knots c_t_now_flows c_t_now_readSet), (A_t_now 0, eI cI 10 c_t_now_from), (A_t_now 1, eI cI 10 c_t_now_to), (A_t_now 2, eI cI 10 c_t_now_reading), (A_t_now 3, eI cI 10 c_t_now_miss)]) Γ (fun sz => mX0_solve (l := l) (D := D) (sz := sz) (cI := cI) (cJ := cJ) (cZ := cZ) (cW := cW) (cR := cR) (h_t := A_t 3) (h_w := A_t 0) (A_t := A_t_fit) (A_t_heaps := A_t_fit_heaps) (A_t_pieces := A_t_fit_pieces) (A_t_rows := A_t_fit_rows) (A_w := A_t_now) (hf := e15)) eX0_solve gX4_force_X0_solve rfl rfl 0 rfl rfl rfl (Nat.le_of_ble_eq_true rfl) ⟨Nat.le_of_ble_eq_true rfl, Nat.le_of_ble_eq_true rfl⟩ dX4_force_34 [4, 5, 6, 7, 8, 9, 10, 11, 12, 13, 14, 15, 16, 18, 0, 1, 2, 3] [17] rfl rfl rfl rfl (by decide) rfl ?_
      refine g_aload_n Γ 0 dX4_force_37 rfl ?_
      refine g_get Γ fX4_force_33 0 rfl rfl dX4_force_38 ?_
      refine g_iload_n Γ 1 dX4_force_41 rfl ?_
      obtain ⟨v16, e17, hf⟩ := ya_ob hf
      refine g_vl (q := (RX0, TX0, 7)) (wr := [(h_t, oM A_t), (A_t_fit 1, oG A_t_fit_pieces), (A_t_fit_pieces 0, eI cI 6 v12), (A_t_fit 4, eJ cJ 6 v14), (A_t 0, oW A_t_now c_t_now_knots c_t_now_flows c_t_now_readSet), (A_t_now 0, eI cI 10 c_t_now_from), (A_t_now 1, eI cI 10 c_t_now_to), (A_t_now 2, eI cI 10 c_t_now_reading), (A_t_now 3, eI cI 10 c_t_now_miss)]) (ws' := [(h_t, oM A_t), (A_t_fit 1, oG A_t_fit_pieces), (A_t_fit_pieces 0, eI cI 6 v12), (A_t_fit 4, eJ cJ 6 v14), (A_t 0, oW A_t_now c_t_now_knots c_t_now_flows c_t_now_readSet), (A_t_now 0, eI cI 10 c_t_now_from), (A_t_now 1, eI cI 10 c_t_now_to), (A_t_now 2, eI cI 10 c_t_now_reading), (A_t_now 3, eI cI 10 c_t_now_miss), (A_t 3, oF A_t_fit v9 v10), (A_t_fit 0, oG A_t_fit_heaps), (A_t_fit_heaps 0, eI cI 6 v11), (A_t_fit 3, eQ cR 6 A_t_fit_rows), (A_t_fit_rows 0, eJ cJ 7 (v13 0)), (A_t_fit_rows 1, eJ cJ 7 (v13 1)), (A_t_fit_rows 2, eJ cJ 7 (v13 2)), (A_t_fit_rows 3, eJ cJ 7 (v13 3)), (A_t_fit_rows 4, eJ cJ 7 (v13 4)), (A_t_fit_rows 5, eJ cJ 7 (v13 5))]) Γ (fun sz => mX0_forceAbove (l := l) (D := D) (sz := sz) (cI := cI) (cJ := cJ) (cZ := cZ) (cW := cW) (cR := cR) (h_t := A_t 3) (A_t := A_t_fit) (A_t_heaps := A_t_fit_heaps) (A_t_rows := A_t_fit_rows) (hf := e17)) eX0_forceAbove gX4_force_X0_forceAbove rfl rfl 0 rfl rfl rfl (Nat.le_of_ble_eq_true rfl) ⟨Nat.le_of_ble_eq_true rfl, Nat.le_of_ble_eq_true rfl⟩ dX4_force_42 [1, 2, 3, 6, 7, 8, 9, 10, 11, 12] [0, 4, 5, 13, 14, 15, 16, 17, 18] rfl rfl rfl rfl (by decide) rfl ?_
      refine g_aload_n Γ 0 dX4_force_45 rfl ?_
      refine g_get Γ fX4_force_33 0 rfl rfl dX4_force_46 ?_
      refine g_get Γ fX4_force_168 9 rfl rfl dX4_force_49 ?_
      refine g_iload_n Γ 2 dX4_force_52 rfl ?_
      obtain ⟨v18, e19, hf⟩ := ya_ob hf
      refine g_sl (wr := [(h_t, oM A_t), (A_t_fit 1, oG A_t_fit_pieces), (A_t_fit_pieces 0, eI cI 6 v12), (A_t_fit 4, eJ cJ 6 v14), (A_t 0, oW A_t_now c_t_now_knots c_t_now_flows c_t_now_readSet), (A_t_now 0, eI cI 10 c_t_now_from), (A_t_now 1, eI cI 10 c_t_now_to), (A_t_now 2, eI cI 10 c_t_now_reading), (A_t_now 3, eI cI 10 c_t_now_miss), (A_t 3, oF A_t_fit v9 v10), (A_t_fit 0, oG A_t_fit_heaps), (A_t_fit_heaps 0, eI cI 6 v11), (A_t_fit 3, eQ cR 6 A_t_fit_rows), (A_t_fit_rows 0, eJ cJ 7 (v13 0)), (A_t_fit_rows 1, eJ cJ 7 (v13 1)), (A_t_fit_rows 2, eJ cJ 7 (v13 2)), (A_t_fit_rows 3, eJ cJ 7 (v13 3)), (A_t_fit_rows 4, eJ cJ 7 (v13 4)), (A_t_fit_rows 5, eJ cJ 7 (v13 5))]) (ws' := [(h_t, oM A_t), (A_t_fit 1, oG A_t_fit_pieces), (A_t_fit_pieces 0, eI cI 6 v12), (A_t_fit 4, eJ cJ 6 v14), (A_t 0, oW A_t_now c_t_now_knots c_t_now_flows c_t_now_readSet), (A_t_now 0, eI cI 10 c_t_now_from), (A_t_now 1, eI cI 10 c_t_now_to), (A_t_now 2, eI cI 10 c_t_now_reading), (A_t_now 3, eI cI 10 c_t_now_miss), (A_t 3, oF A_t_fit v9 v10), (A_t_fit 0, oG A_t_fit_heaps), (A_t_fit_heaps 0, eI cI 6 v11), (A_t_fit 3, eQ cR 6 A_t_fit_rows), (A_t_fit_rows 0, eJ cJ 7 (v13 0)), (A_t_fit_rows 1, eJ cJ 7 (v13 1)), (A_t_fit_rows 2, eJ cJ 7 (v13 2)), (A_t_fit_rows 3, eJ cJ 7 (v13 3)), (A_t_fit_rows 4, eJ cJ 7 (v13 4)), (A_t_fit_rows 5, eJ cJ 7 (v13 5))]) Γ (fun sz => mX4_lowestTerms (l := l) (D := D) (sz := sz) (cI := cI) (cJ := cJ) (cZ := cZ) (cW := cW) (cR := cR)  (hf := e19)) eX4_lowestTerms ggX4_force_X4_lowestTerms (by decide +kernel) (by decide +kernel) (by decide +kernel) rfl rfl (Nat.le_of_ble_eq_true rfl) ⟨Nat.le_of_ble_eq_true rfl, Nat.le_of_ble_eq_true rfl⟩ dX4_force_53 [] [0, 1, 2, 3, 4, 5, 6, 7, 8, 9, 10, 11, 12, 13, 14, 15, 16, 17, 18] rfl rfl rfl rfl (by decide) rfl ?_
      cases hf
      exact g_lret Γ hr dX4_force_56 [0, 4, 5, 6, 7, 8, 9, 10, 11, 1, 2, 12, 13, 14, 15, 16, 17, 18, 3] rfl rfl
    · have hf := ya_if1 c6 hf
      refine g_ldc2 (v := (-1)) Γ dX4_force_15 (by decide +kernel) ?_
      cases hf
      exact g_lret Γ hr dX4_force_18 [17, 18, 0, 1, 2, 3, 4, 5, 6, 7, 8, 9, 10, 11, 12, 13, 14, 15, 16] rfl rfl

set_option maxRecDepth 20000 in
theorem ggX4_test_X4_isPart : GoodIn wsX4_test wsX4_isPart := goodIn_r _ [9] rfl (by decide +kernel)
set_option maxRecDepth 20000 in
theorem gX4_test_X4_isPart : GoodIn wsX4_test (va_wsS RX4 155 yX4_isPart wsX4_isPart) := goodIn_app (goodIn_of _ (by decide +kernel)) ggX4_test_X4_isPart
set_option maxRecDepth 20000 in
theorem ggX4_test_X3_unreadSet : GoodIn wsX4_test wsX3_unreadSet := goodIn_r _ [14, 15, 16, 17, 18, 13, 19, 20, 21, 8, 22, 109, 110, 111, 112, 113, 114, 115, 116, 117, 118, 119] rfl (by decide +kernel)
set_option maxRecDepth 20000 in
theorem gX4_test_X3_unreadSet : GoodIn wsX4_test (wsV RX4 120 RX3 yX3_unreadSet wsX3_unreadSet) := goodIn_app (goodIn_of _ (by decide +kernel)) ggX4_test_X3_unreadSet
set_option maxRecDepth 20000 in
theorem ggX4_test_X0_solve : GoodIn wsX4_test wsX0_solve := goodIn_r _ [27, 28, 29, 30, 31, 32, 33, 34, 35, 36, 37, 38, 39, 40, 41, 8, 42, 43, 44, 45, 46, 47, 48, 49, 50, 51, 52, 53, 54, 55, 56, 57, 58, 17, 18, 13, 19, 20, 21, 22, 59, 60, 61, 26, 62, 63, 64, 65, 66, 67, 68, 69, 70, 71, 72, 73, 74, 75, 76, 77, 78, 79, 80, 81, 82, 83, 84, 85, 86, 87, 88, 120, 121, 122, 123, 124, 125, 126, 109, 110, 111, 112, 113, 114, 115, 116, 117, 118, 119, 127] rfl (by decide +kernel)
set_option maxRecDepth 20000 in
theorem gX4_test_X0_solve : GoodIn wsX4_test (wsV RX4 160 RX0 yX0_solve wsX0_solve) := goodIn_app (goodIn_of _ (by decide +kernel)) ggX4_test_X0_solve
set_option maxRecDepth 20000 in
theorem ggX4_test_X0_testAbove : GoodIn wsX4_test wsX0_testAbove := goodIn_r _ [92, 63, 64, 120, 121, 122, 123, 124, 125, 126] rfl (by decide +kernel)
set_option maxRecDepth 20000 in
theorem gX4_test_X0_testAbove : GoodIn wsX4_test (wsV RX4 183 RX0 yX0_testAbove wsX0_testAbove) := goodIn_app (goodIn_of _ (by decide +kernel)) ggX4_test_X0_testAbove
set_option maxRecDepth 20000 in
theorem ggX4_test_X4_lowestTerms : GoodIn wsX4_test wsX4_lowestTerms := goodIn_r _ [95, 96, 97, 53, 98, 1, 99, 100, 8, 101] rfl (by decide +kernel)
set_option maxRecDepth 20000 in
theorem gX4_test_X4_lowestTerms : GoodIn wsX4_test (va_wsS RX4 172 yX4_lowestTerms wsX4_lowestTerms) := goodIn_app (goodIn_of _ (by decide +kernel)) ggX4_test_X4_lowestTerms
theorem dX4_test_0 : decode cX4_test 0 = .ok (.iload_n 1, 1) := by decide +kernel
theorem dX4_test_1 : decode cX4_test 1 = .ok (.invokestatic 155, 3) := by decide +kernel
theorem dX4_test_4 : decode cX4_test 4 = .ok (.ifCond .ne 7, 3) := by decide +kernel
theorem dX4_test_7 : decode cX4_test 7 = .ok (.ldc2_w 158, 3) := by decide +kernel
theorem dX4_test_10 : decode cX4_test 10 = .ok (.lreturn, 1) := by decide +kernel
theorem dX4_test_11 : decode cX4_test 11 = .ok (.aload_n 0, 1) := by decide +kernel
theorem dX4_test_12 : decode cX4_test 12 = .ok (.getfield 33, 3) := by decide +kernel
theorem dX4_test_15 : decode cX4_test 15 = .ok (.aload_n 0, 1) := by decide +kernel
theorem dX4_test_16 : decode cX4_test 16 = .ok (.getfield 10, 3) := by decide +kernel
theorem dX4_test_19 : decode cX4_test 19 = .ok (.aload_n 0, 1) := by decide +kernel
theorem dX4_test_20 : decode cX4_test 20 = .ok (.getfield 10, 3) := by decide +kernel
theorem dX4_test_23 : decode cX4_test 23 = .ok (.invokevirtual 120, 3) := by decide +kernel
theorem dX4_test_26 : decode cX4_test 26 = .ok (.invokevirtual 160, 3) := by decide +kernel
theorem dX4_test_29 : decode cX4_test 29 = .ok (.aload_n 0, 1) := by decide +kernel
theorem dX4_test_30 : decode cX4_test 30 = .ok (.getfield 33, 3) := by decide +kernel
theorem dX4_test_33 : decode cX4_test 33 = .ok (.aload_n 0, 1) := by decide +kernel
theorem dX4_test_34 : decode cX4_test 34 = .ok (.getfield 10, 3) := by decide +kernel
theorem dX4_test_37 : decode cX4_test 37 = .ok (.getfield 117, 3) := by decide +kernel
theorem dX4_test_40 : decode cX4_test 40 = .ok (.invokevirtual 183, 3) := by decide +kernel
theorem dX4_test_43 : decode cX4_test 43 = .ok (.aload_n 0, 1) := by decide +kernel
theorem dX4_test_44 : decode cX4_test 44 = .ok (.getfield 33, 3) := by decide +kernel
theorem dX4_test_47 : decode cX4_test 47 = .ok (.getfield 168, 3) := by decide +kernel
theorem dX4_test_50 : decode cX4_test 50 = .ok (.iload_n 1, 1) := by decide +kernel
theorem dX4_test_51 : decode cX4_test 51 = .ok (.invokestatic 172, 3) := by decide +kernel
theorem dX4_test_54 : decode cX4_test 54 = .ok (.lreturn, 1) := by decide +kernel
/-! ===== FlowMeters.test(I)J ===== -/
def fX4_test (N : Nat) (c_t_now_knots : Int32) (c_t_now_flows : Int32) (c_t_now_readSet : Int32) (c_t_now_from : Nat → Int32) (c_t_now_to : Nat → Int32) (c_t_now_reading : Nat → Int32) (c_t_now_miss : Nat → Int32) (c_t_fit_unread : Int32) (c_t_fit_below : Int64) (c_t_fit_heaps_least : Nat → Int32) (c_t_fit_pieces_least : Nat → Int32) (c_t_fit_rows : Nat → Nat → Int64) (c_t_fit_surplus : Nat → Int64) (x1 : Int32) : Option (Int64 × Int32 × Int64 × (Nat → Int32) × (Nat → Int32) × (Nat → Nat → Int64) × (Nat → Int64)) :=
  (fX4_isPart x1).bind fun v1 =>
  (if v1 = 0 then
    some ((-1), c_t_fit_unread, c_t_fit_below, c_t_fit_heaps_least, c_t_fit_pieces_least, c_t_fit_rows, c_t_fit_surplus)
  else
    (fX3_unreadSet c_t_now_flows c_t_now_readSet).bind fun v4 =>
    (fX0_solve N c_t_fit_unread c_t_fit_below c_t_fit_heaps_least c_t_fit_pieces_least c_t_fit_rows c_t_fit_surplus c_t_now_knots c_t_now_flows c_t_now_from c_t_now_to c_t_now_reading c_t_now_miss v4).bind fun (v6, v7, v8, v9, v10, v11) =>
    (fX0_testAbove N v10 v11 c_t_now_knots).bind fun v13 =>
    (fX4_lowestTerms N v13 v7 x1).bind fun v15 =>
    some (v15, v6, v7, v8, v9, v10, v11))
theorem fX4_test_33 : yF wsX4_test RX4 33 4 3 RX4 TX4 7 := ⟨rfl, by decide, by decide +kernel, by decide +kernel⟩
theorem fX4_test_10 : yF wsX4_test RX4 10 4 0 RX4 TX4 7 := ⟨rfl, by decide, by decide +kernel, by decide +kernel⟩
theorem fX4_test_117 : yF wsX4_test RX4 117 3 0 RX3 TX3 11 := ⟨rfl, by decide, by decide +kernel, by decide +kernel⟩
theorem fX4_test_168 : yF wsX4_test RX4 168 0 6 RX0 TX0 7 := ⟨rfl, by decide, by decide +kernel, by decide +kernel⟩
abbrev rmX4_test : Room := { frames := 4, cells := 0, slots := 0, locals := 119 }
theorem eX4_test : yY yX4_test wsX4_test cX4_test 2 (some .long) rmX4_test 1 := ⟨⟨_, rfl⟩, rfl, rfl, by decide, by decide, by decide +kernel⟩
set_option maxHeartbeats 4000000 in
set_option maxRecDepth 100000 in
theorem mX4_test {l : Launch} {D : va_G} {sz : Nat} {cI cJ cZ cW cR : ClassId} {N : Nat} {h_t : Nat} {A_t : Nat → Nat} {A_t_now : Nat → Nat} {A_t_fit : Nat → Nat} {A_t_fit_heaps : Nat → Nat} {A_t_fit_pieces : Nat → Nat} {A_t_fit_rows : Nat → Nat} {c_t_now_knots : Int32} {c_t_now_flows : Int32} {c_t_now_readSet : Int32} {c_t_now_from : Nat → Int32} {c_t_now_to : Nat → Int32} {c_t_now_reading : Nat → Int32} {c_t_now_miss : Nat → Int32} {c_t_fit_unread : Int32} {c_t_fit_below : Int64} {c_t_fit_heaps_least : Nat → Int32} {c_t_fit_pieces_least : Nat → Int32} {c_t_fit_rows : Nat → Nat → Int64} {c_t_fit_surplus : Nat → Int64} {x1 : Int32} {r : Int64} {zc_t_fit_unread : Int32} {zc_t_fit_below : Int64} {zc_t_fit_heaps_least : Nat → Int32} {zc_t_fit_pieces_least : Nat → Int32} {zc_t_fit_rows : Nat → Nat → Int64} {zc_t_fit_surplus : Nat → Int64} (hf : fX4_test N c_t_now_knots c_t_now_flows c_t_now_readSet c_t_now_from c_t_now_to c_t_now_reading c_t_now_miss c_t_fit_unread c_t_fit_below c_t_fit_heaps_least c_t_fit_pieces_least c_t_fit_rows c_t_fit_surplus x1 = some (r, zc_t_fit_unread, zc_t_fit_below, zc_t_fit_heaps_least, zc_t_fit_pieces_least, zc_t_fit_rows, zc_t_fit_surplus)) : Met l yX4_test wsX4_test rmX4_test (yP D (yT cI cJ cZ cW cR) [(h_t, oM A_t), (A_t 0, oW A_t_now c_t_now_knots c_t_now_flows c_t_now_readSet), (A_t_now 0, eI cI 10 c_t_now_from), (A_t_now 1, eI cI 10 c_t_now_to), (A_t_now 2, eI cI 10 c_t_now_reading), (A_t_now 3, eI cI 10 c_t_now_miss), (A_t 3, oF A_t_fit c_t_fit_unread c_t_fit_below), (A_t_fit 0, oG A_t_fit_heaps), (A_t_fit_heaps 0, eI cI 6 c_t_fit_heaps_least), (A_t_fit 1, oG A_t_fit_pieces), (A_t_fit_pieces 0, eI cI 6 c_t_fit_pieces_least), (A_t_fit 3, eQ cR 6 A_t_fit_rows), (A_t_fit_rows 0, eJ cJ 7 (c_t_fit_rows 0)), (A_t_fit_rows 1, eJ cJ 7 (c_t_fit_rows 1)), (A_t_fit_rows 2, eJ cJ 7 (c_t_fit_rows 2)), (A_t_fit_rows 3, eJ cJ 7 (c_t_fit_rows 3)), (A_t_fit_rows 4, eJ cJ 7 (c_t_fit_rows 4)), (A_t_fit_rows 5, eJ cJ 7 (c_t_fit_rows 5)), (A_t_fit 4, eJ cJ 6 c_t_fit_surplus)] sz [.ref h_t, .int x1]) (yQl D (yT cI cJ cZ cW cR) r [(h_t, oM A_t), (A_t 0, oW A_t_now c_t_now_knots c_t_now_flows c_t_now_readSet), (A_t_now 0, eI cI 10 c_t_now_from), (A_t_now 1, eI cI 10 c_t_now_to), (A_t_now 2, eI cI 10 c_t_now_reading), (A_t_now 3, eI cI 10 c_t_now_miss), (A_t 3, oF A_t_fit zc_t_fit_unread zc_t_fit_below), (A_t_fit 0, oG A_t_fit_heaps), (A_t_fit_heaps 0, eI cI 6 zc_t_fit_heaps_least), (A_t_fit 1, oG A_t_fit_pieces), (A_t_fit_pieces 0, eI cI 6 zc_t_fit_pieces_least), (A_t_fit 3, eQ cR 6 A_t_fit_rows), (A_t_fit_rows 0, eJ cJ 7 (zc_t_fit_rows 0)), (A_t_fit_rows 1, eJ cJ 7 (zc_t_fit_rows 1)), (A_t_fit_rows 2, eJ cJ 7 (zc_t_fit_rows 2)), (A_t_fit_rows 3, eJ cJ 7 (zc_t_fit_rows 3)), (A_t_fit_rows 4, eJ cJ 7 (zc_t_fit_rows 4)), (A_t_fit_rows 5, eJ cJ 7 (zc_t_fit_rows 5)), (A_t_fit 4, eJ cJ 6 zc_t_fit_surplus)] (va_A [(h_t, oM A_t), (A_t 0, oW A_t_now c_t_now_knots c_t_now_flows c_t_now_readSet), (A_t_now 0, eI cI 10 c_t_now_from), (A_t_now 1, eI cI 10 c_t_now_to), (A_t_now 2, eI cI 10 c_t_now_reading), (A_t_now 3, eI cI 10 c_t_now_miss), (A_t 3, oF A_t_fit c_t_fit_unread c_t_fit_below), (A_t_fit 0, oG A_t_fit_heaps), (A_t_fit_heaps 0, eI cI 6 c_t_fit_heaps_least), (A_t_fit 1, oG A_t_fit_pieces), (A_t_fit_pieces 0, eI cI 6 c_t_fit_pieces_least), (A_t_fit 3, eQ cR 6 A_t_fit_rows), (A_t_fit_rows 0, eJ cJ 7 (c_t_fit_rows 0)), (A_t_fit_rows 1, eJ cJ 7 (c_t_fit_rows 1)), (A_t_fit_rows 2, eJ cJ 7 (c_t_fit_rows 2)), (A_t_fit_rows 3, eJ cJ 7 (c_t_fit_rows 3)), (A_t_fit_rows 4, eJ cJ 7 (c_t_fit_rows 4)), (A_t_fit_rows 5, eJ cJ 7 (c_t_fit_rows 5)), (A_t_fit 4, eJ cJ 6 c_t_fit_surplus)] sz)) 0 0 (va_A [(h_t, oM A_t), (A_t 0, oW A_t_now c_t_now_knots c_t_now_flows c_t_now_readSet), (A_t_now 0, eI cI 10 c_t_now_from), (A_t_now 1, eI cI 10 c_t_now_to), (A_t_now 2, eI cI 10 c_t_now_reading), (A_t_now 3, eI cI 10 c_t_now_miss), (A_t 3, oF A_t_fit c_t_fit_unread c_t_fit_below), (A_t_fit 0, oG A_t_fit_heaps), (A_t_fit_heaps 0, eI cI 6 c_t_fit_heaps_least), (A_t_fit 1, oG A_t_fit_pieces), (A_t_fit_pieces 0, eI cI 6 c_t_fit_pieces_least), (A_t_fit 3, eQ cR 6 A_t_fit_rows), (A_t_fit_rows 0, eJ cJ 7 (c_t_fit_rows 0)), (A_t_fit_rows 1, eJ cJ 7 (c_t_fit_rows 1)), (A_t_fit_rows 2, eJ cJ 7 (c_t_fit_rows 2)), (A_t_fit_rows 3, eJ cJ 7 (c_t_fit_rows 3)), (A_t_fit_rows 4, eJ cJ 7 (c_t_fit_rows 4)), (A_t_fit_rows 5, eJ cJ 7 (c_t_fit_rows 5)), (A_t_fit 4, eJ cJ 6 c_t_fit_surplus)] sz) := by
  refine yM (cc := cX4_test) (maxL := 2) (ret := (some .long)) RX4 (by decide) rfl rfl (Nat.le_of_ble_eq_true rfl) ?_
  intro p e s m below meth c Γ hr
  show yG p l e (headSpec wsX4_test rmX4_test).room s m (List.toArray [.ref h_t, .int x1]) below meth c D (va_A [(h_t, oM A_t), (A_t 0, oW A_t_now c_t_now_knots c_t_now_flows c_t_now_readSet), (A_t_now 0, eI cI 10 c_t_now_from), (A_t_now 1, eI cI 10 c_t_now_to), (A_t_now 2, eI cI 10 c_t_now_reading), (A_t_now 3, eI cI 10 c_t_now_miss), (A_t 3, oF A_t_fit c_t_fit_unread c_t_fit_below), (A_t_fit 0, oG A_t_fit_heaps), (A_t_fit_heaps 0, eI cI 6 c_t_fit_heaps_least), (A_t_fit 1, oG A_t_fit_pieces), (A_t_fit_pieces 0, eI cI 6 c_t_fit_pieces_least), (A_t_fit 3, eQ cR 6 A_t_fit_rows), (A_t_fit_rows 0, eJ cJ 7 (c_t_fit_rows 0)), (A_t_fit_rows 1, eJ cJ 7 (c_t_fit_rows 1)), (A_t_fit_rows 2, eJ cJ 7 (c_t_fit_rows 2)), (A_t_fit_rows 3, eJ cJ 7 (c_t_fit_rows 3)), (A_t_fit_rows 4, eJ cJ 7 (c_t_fit_rows 4)), (A_t_fit_rows 5, eJ cJ 7 (c_t_fit_rows 5)), (A_t_fit 4, eJ cJ 6 c_t_fit_surplus)] sz) 2 0 0 (MQ below (yQl D (yT cI cJ cZ cW cR) r [(h_t, oM A_t), (A_t 0, oW A_t_now c_t_now_knots c_t_now_flows c_t_now_readSet), (A_t_now 0, eI cI 10 c_t_now_from), (A_t_now 1, eI cI 10 c_t_now_to), (A_t_now 2, eI cI 10 c_t_now_reading), (A_t_now 3, eI cI 10 c_t_now_miss), (A_t 3, oF A_t_fit zc_t_fit_unread zc_t_fit_below), (A_t_fit 0, oG A_t_fit_heaps), (A_t_fit_heaps 0, eI cI 6 zc_t_fit_heaps_least), (A_t_fit 1, oG A_t_fit_pieces), (A_t_fit_pieces 0, eI cI 6 zc_t_fit_pieces_least), (A_t_fit 3, eQ cR 6 A_t_fit_rows), (A_t_fit_rows 0, eJ cJ 7 (zc_t_fit_rows 0)), (A_t_fit_rows 1, eJ cJ 7 (zc_t_fit_rows 1)), (A_t_fit_rows 2, eJ cJ 7 (zc_t_fit_rows 2)), (A_t_fit_rows 3, eJ cJ 7 (zc_t_fit_rows 3)), (A_t_fit_rows 4, eJ cJ 7 (zc_t_fit_rows 4)), (A_t_fit_rows 5, eJ cJ 7 (zc_t_fit_rows 5)), (A_t_fit 4, eJ cJ 6 zc_t_fit_surplus)] (va_A [(h_t, oM A_t), (A_t 0, oW A_t_now c_t_now_knots c_t_now_flows c_t_now_readSet), (A_t_now 0, eI cI 10 c_t_now_from), (A_t_now 1, eI cI 10 c_t_now_to), (A_t_now 2, eI cI 10 c_t_now_reading), (A_t_now 3, eI cI 10 c_t_now_miss), (A_t 3, oF A_t_fit c_t_fit_unread c_t_fit_below), (A_t_fit 0, oG A_t_fit_heaps), (A_t_fit_heaps 0, eI cI 6 c_t_fit_heaps_least), (A_t_fit 1, oG A_t_fit_pieces), (A_t_fit_pieces 0, eI cI 6 c_t_fit_pieces_least), (A_t_fit 3, eQ cR 6 A_t_fit_rows), (A_t_fit_rows 0, eJ cJ 7 (c_t_fit_rows 0)), (A_t_fit_rows 1, eJ cJ 7 (c_t_fit_rows 1)), (A_t_fit_rows 2, eJ cJ 7 (c_t_fit_rows 2)), (A_t_fit_rows 3, eJ cJ 7 (c_t_fit_rows 3)), (A_t_fit_rows 4, eJ cJ 7 (c_t_fit_rows 4)), (A_t_fit_rows 5, eJ cJ 7 (c_t_fit_rows 5)), (A_t_fit 4, eJ cJ 6 c_t_fit_surplus)] sz)) (List.toArray [.ref h_t, .int x1]) s 0 0 (va_A [(h_t, oM A_t), (A_t 0, oW A_t_now c_t_now_knots c_t_now_flows c_t_now_readSet), (A_t_now 0, eI cI 10 c_t_now_from), (A_t_now 1, eI cI 10 c_t_now_to), (A_t_now 2, eI cI 10 c_t_now_reading), (A_t_now 3, eI cI 10 c_t_now_miss), (A_t 3, oF A_t_fit c_t_fit_unread c_t_fit_below), (A_t_fit 0, oG A_t_fit_heaps), (A_t_fit_heaps 0, eI cI 6 c_t_fit_heaps_least), (A_t_fit 1, oG A_t_fit_pieces), (A_t_fit_pieces 0, eI cI 6 c_t_fit_pieces_least), (A_t_fit 3, eQ cR 6 A_t_fit_rows), (A_t_fit_rows 0, eJ cJ 7 (c_t_fit_rows 0)), (A_t_fit_rows 1, eJ cJ 7 (c_t_fit_rows 1)), (A_t_fit_rows 2, eJ cJ 7 (c_t_fit_rows 2)), (A_t_fit_rows 3, eJ cJ 7 (c_t_fit_rows 3)), (A_t_fit_rows 4, eJ cJ 7 (c_t_fit_rows 4)), (A_t_fit_rows 5, eJ cJ 7 (c_t_fit_rows 5)), (A_t_fit 4, eJ cJ 6 c_t_fit_surplus)] sz)) 0 [(0, .ref h_t), (1, .int x1)] [] [(h_t, oM A_t), (A_t 0, oW A_t_now c_t_now_knots c_t_now_flows c_t_now_readSet), (A_t_now 0, eI cI 10 c_t_now_from), (A_t_now 1, eI cI 10 c_t_now_to), (A_t_now 2, eI cI 10 c_t_now_reading), (A_t_now 3, eI cI 10 c_t_now_miss), (A_t 3, oF A_t_fit c_t_fit_unread c_t_fit_below), (A_t_fit 0, oG A_t_fit_heaps), (A_t_fit_heaps 0, eI cI 6 c_t_fit_heaps_least), (A_t_fit 1, oG A_t_fit_pieces), (A_t_fit_pieces 0, eI cI 6 c_t_fit_pieces_least), (A_t_fit 3, eQ cR 6 A_t_fit_rows), (A_t_fit_rows 0, eJ cJ 7 (c_t_fit_rows 0)), (A_t_fit_rows 1, eJ cJ 7 (c_t_fit_rows 1)), (A_t_fit_rows 2, eJ cJ 7 (c_t_fit_rows 2)), (A_t_fit_rows 3, eJ cJ 7 (c_t_fit_rows 3)), (A_t_fit_rows 4, eJ cJ 7 (c_t_fit_rows 4)), (A_t_fit_rows 5, eJ cJ 7 (c_t_fit_rows 5)), (A_t_fit 4, eJ cJ 6 c_t_fit_surplus)]
  unfold fX4_test at hf
  refine g_iload_n Γ 1 dX4_test_0 rfl ?_
  obtain ⟨v1, e2, hf⟩ := ya_ob hf
  refine g_si (wr := [(h_t, oM A_t), (A_t 0, oW A_t_now c_t_now_knots c_t_now_flows c_t_now_readSet), (A_t_now 0, eI cI 10 c_t_now_from), (A_t_now 1, eI cI 10 c_t_now_to), (A_t_now 2, eI cI 10 c_t_now_reading), (A_t_now 3, eI cI 10 c_t_now_miss), (A_t 3, oF A_t_fit c_t_fit_unread c_t_fit_below), (A_t_fit 0, oG A_t_fit_heaps), (A_t_fit_heaps 0, eI cI 6 c_t_fit_heaps_least), (A_t_fit 1, oG A_t_fit_pieces), (A_t_fit_pieces 0, eI cI 6 c_t_fit_pieces_least), (A_t_fit 3, eQ cR 6 A_t_fit_rows), (A_t_fit_rows 0, eJ cJ 7 (c_t_fit_rows 0)), (A_t_fit_rows 1, eJ cJ 7 (c_t_fit_rows 1)), (A_t_fit_rows 2, eJ cJ 7 (c_t_fit_rows 2)), (A_t_fit_rows 3, eJ cJ 7 (c_t_fit_rows 3)), (A_t_fit_rows 4, eJ cJ 7 (c_t_fit_rows 4)), (A_t_fit_rows 5, eJ cJ 7 (c_t_fit_rows 5)), (A_t_fit 4, eJ cJ 6 c_t_fit_surplus)]) (ws' := [(h_t, oM A_t), (A_t 0, oW A_t_now c_t_now_knots c_t_now_flows c_t_now_readSet), (A_t_now 0, eI cI 10 c_t_now_from), (A_t_now 1, eI cI 10 c_t_now_to), (A_t_now 2, eI cI 10 c_t_now_reading), (A_t_now 3, eI cI 10 c_t_now_miss), (A_t 3, oF A_t_fit c_t_fit_unread c_t_fit_below), (A_t_fit 0, oG A_t_fit_heaps), (A_t_fit_heaps 0, eI cI 6 c_t_fit_heaps_least), (A_t_fit 1, oG A_t_fit_pieces), (A_t_fit_pieces 0, eI cI 6 c_t_fit_pieces_least), (A_t_fit 3, eQ cR 6 A_t_fit_rows), (A_t_fit_rows 0, eJ cJ 7 (c_t_fit_rows 0)), (A_t_fit_rows 1, eJ cJ 7 (c_t_fit_rows 1)), (A_t_fit_rows 2, eJ cJ 7 (c_t_fit_rows 2)), (A_t_fit_rows 3, eJ cJ 7 (c_t_fit_rows 3)), (A_t_fit_rows 4, eJ cJ 7 (c_t_fit_rows 4)), (A_t_fit_rows 5, eJ cJ 7 (c_t_fit_rows 5)), (A_t_fit 4, eJ cJ 6 c_t_fit_surplus)]) Γ (fun sz => mX4_isPart (l := l) (D := D) (sz := sz) (cI := cI) (cJ := cJ) (cZ := cZ) (cW := cW) (cR := cR)  (hf := e2)) eX4_isPart ggX4_test_X4_isPart (by decide +kernel) (by decide +kernel) (by decide +kernel) rfl rfl (Nat.le_of_ble_eq_true rfl) ⟨Nat.le_of_ble_eq_true rfl, Nat.le_of_ble_eq_true rfl⟩ dX4_test_1 [] [0, 1, 2, 3, 4, 5, 6, 7, 8, 9, 10, 11, 12, 13, 14, 15, 16, 17, 18] rfl rfl rfl rfl (by decide) rfl ?_
  refine g_if_ne Γ 11 dX4_test_4 (by decide) (fun c3 => ?_) (fun c3 => ?_)
  · have hf := ya_if2 c3 hf
    refine g_aload_n Γ 0 dX4_test_11 rfl ?_
    refine g_get Γ fX4_test_33 0 rfl rfl dX4_test_12 ?_
    refine g_aload_n Γ 0 dX4_test_15 rfl ?_
    refine g_get Γ fX4_test_10 0 rfl rfl dX4_test_16 ?_
    refine g_aload_n Γ 0 dX4_test_19 rfl ?_
    refine g_get Γ fX4_test_10 0 rfl rfl dX4_test_20 ?_
    obtain ⟨v4, e5, hf⟩ := ya_ob hf
    refine g_vi (q := (RX3, TX3, 11)) (wr := [(h_t, oM A_t), (A_t_now 0, eI cI 10 c_t_now_from), (A_t_now 1, eI cI 10 c_t_now_to), (A_t_now 2, eI cI 10 c_t_now_reading), (A_t_now 3, eI cI 10 c_t_now_miss), (A_t 3, oF A_t_fit c_t_fit_unread c_t_fit_below), (A_t_fit 0, oG A_t_fit_heaps), (A_t_fit_heaps 0, eI cI 6 c_t_fit_heaps_least), (A_t_fit 1, oG A_t_fit_pieces), (A_t_fit_pieces 0, eI cI 6 c_t_fit_pieces_least), (A_t_fit 3, eQ cR 6 A_t_fit_rows), (A_t_fit_rows 0, eJ cJ 7 (c_t_fit_rows 0)), (A_t_fit_rows 1, eJ cJ 7 (c_t_fit_rows 1)), (A_t_fit_rows 2, eJ cJ 7 (c_t_fit_rows 2)), (A_t_fit_rows 3, eJ cJ 7 (c_t_fit_rows 3)), (A_t_fit_rows 4, eJ cJ 7 (c_t_fit_rows 4)), (A_t_fit_rows 5, eJ cJ 7 (c_t_fit_rows 5)), (A_t_fit 4, eJ cJ 6 c_t_fit_surplus)]) (ws' := [(h_t, oM A_t), (A_t_now 0, eI cI 10 c_t_now_from), (A_t_now 1, eI cI 10 c_t_now_to), (A_t_now 2, eI cI 10 c_t_now_reading), (A_t_now 3, eI cI 10 c_t_now_miss), (A_t 3, oF A_t_fit c_t_fit_unread c_t_fit_below), (A_t_fit 0, oG A_t_fit_heaps), (A_t_fit_heaps 0, eI cI 6 c_t_fit_heaps_least), (A_t_fit 1, oG A_t_fit_pieces), (A_t_fit_pieces 0, eI cI 6 c_t_fit_pieces_least), (A_t_fit 3, eQ cR 6 A_t_fit_rows), (A_t_fit_rows 0, eJ cJ 7 (c_t_fit_rows 0)), (A_t_fit_rows 1, eJ cJ 7 (c_t_fit_rows 1)), (A_t_fit_rows 2, eJ cJ 7 (c_t_fit_rows 2)), (A_t_fit_rows 3, eJ cJ 7 (c_t_fit_rows 3)), (A_t_fit_rows 4, eJ cJ 7 (c_t_fit_rows 4)), (A_t_fit_rows 5, eJ cJ 7 (c_t_fit_rows 5)), (A_t_fit 4, eJ cJ 6 c_t_fit_surplus), (A_t 0, oW A_t_now c_t_now_knots c_t_now_flows c_t_now_readSet)]) Γ (fun sz => mX3_unreadSet (l := l) (D := D) (sz := sz) (cI := cI) (cJ := cJ) (cZ := cZ) (cW := cW) (cR := cR) (h_t := A_t 0) (A_t := A_t_now) (hf := e5)) eX3_unreadSet gX4_test_X3_unreadSet rfl rfl 0 rfl rfl rfl (Nat.le_of_ble_eq_true rfl) ⟨Nat.le_of_ble_eq_true rfl, Nat.le_of_ble_eq_true rfl⟩ dX4_test_23 [1] [0, 2, 3, 4, 5, 6, 7, 8, 9, 10, 11, 12, 13, 14, 15, 16, 17, 18] rfl rfl rfl rfl (by decide) rfl ?_
    obtain ⟨⟨v6, v7, v8, v9, v10, v11⟩, e12, hf⟩ := ya_ob hf
    refine g_vv (q := (RX0, TX0, 7)) (wr := [(h_t, oM A_t)]) (ws' := [(h_t, oM A_t), (A_t 3, oF A_t_fit v6 v7), (A_t_fit 0, oG A_t_fit_heaps), (A_t_fit_heaps 0, eI cI 6 v8), (A_t_fit 1, oG A_t_fit_pieces), (A_t_fit_pieces 0, eI cI 6 v9), (A_t_fit 3, eQ cR 6 A_t_fit_rows), (A_t_fit_rows 0, eJ cJ 7 (v10 0)), (A_t_fit_rows 1, eJ cJ 7 (v10 1)), (A_t_fit_rows 2, eJ cJ 7 (v10 2)), (A_t_fit_rows 3, eJ cJ 7 (v10 3)), (A_t_fit_rows 4, eJ cJ 7 (v10 4)), (A_t_fit_rows 5, eJ cJ 7 (v10 5)), (A_t_fit 4, eJ cJ 6 v11), (A_t 0, oW A_t_now c_t_now_knots c_t_now_flows c_t_now_readSet), (A_t_now 0, eI cI 10 c_t_now_from), (A_t_now 1, eI cI 10 c_t_now_to), (A_t_now 2, eI cI 10 c_t_now_reading), (A_t_now 3, eI cI 10 c_t_now_miss)]) Γ (fun sz => mX0_solve (l := l) (D := D) (sz := sz) (cI := cI) (cJ := cJ) (cZ := cZ) (cW := cW) (cR := cR) (h_t := A_t 3) (h_w := A_t 0) (A_t := A_t_fit) (A_t_heaps := A_t_fit_heaps) (A_t_pieces := A_t_fit_pieces) (A_t_rows := A_t_fit_rows) (A_w := A_t_now) (hf := e12)) eX0_solve gX4_test_X0_solve rfl rfl 0 rfl rfl rfl (Nat.le_of_ble_eq_true rfl) ⟨Nat.le_of_ble_eq_true rfl, Nat.le_of_ble_eq_true rfl⟩ dX4_test_26 [5, 6, 7, 8, 9, 10, 11, 12, 13, 14, 15, 16, 17, 18, 1, 2, 3, 4] [0] rfl rfl rfl rfl (by decide) rfl ?_
    refine g_aload_n Γ 0 dX4_test_29 rfl ?_
    refine g_get Γ fX4_test_33 0 rfl rfl dX4_test_30 ?_
    refine g_aload_n Γ 0 dX4_test_33 rfl ?_
    refine g_get Γ fX4_test_10 0 rfl rfl dX4_test_34 ?_
    refine g_get Γ fX4_test_117 14 rfl rfl dX4_test_37 ?_
    obtain ⟨v13, e14, hf⟩ := ya_ob hf
    refine g_vl (q := (RX0, TX0, 7)) (wr := [(h_t, oM A_t), (A_t_fit 0, oG A_t_fit_heaps), (A_t_fit_heaps 0, eI cI 6 v8), (A_t_fit 1, oG A_t_fit_pieces), (A_t_fit_pieces 0, eI cI 6 v9), (A_t 0, oW A_t_now c_t_now_knots c_t_now_flows c_t_now_readSet), (A_t_now 0, eI cI 10 c_t_now_from), (A_t_now 1, eI cI 10 c_t_now_to), (A_t_now 2, eI cI 10 c_t_now_reading), (A_t_now 3, eI cI 10 c_t_now_miss)]) (ws' := [(h_t, oM A_t), (A_t_fit 0, oG A_t_fit_heaps), (A_t_fit_heaps 0, eI cI 6 v8), (A_t_fit 1, oG A_t_fit_pieces), (A_t_fit_pieces 0, eI cI 6 v9), (A_t 0, oW A_t_now c_t_now_knots c_t_now_flows c_t_now_readSet), (A_t_now 0, eI cI 10 c_t_now_from), (A_t_now 1, eI cI 10 c_t_now_to), (A_t_now 2, eI cI 10 c_t_now_reading), (A_t_now 3, eI cI 10 c_t_now_miss), (A_t 3, oF A_t_fit v6 v7), (A_t_fit 3, eQ cR 6 A_t_fit_rows), (A_t_fit_rows 0, eJ cJ 7 (v10 0)), (A_t_fit_rows 1, eJ cJ 7 (v10 1)), (A_t_fit_rows 2, eJ cJ 7 (v10 2)), (A_t_fit_rows 3, eJ cJ 7 (v10 3)), (A_t_fit_rows 4, eJ cJ 7 (v10 4)), (A_t_fit_rows 5, eJ cJ 7 (v10 5)), (A_t_fit 4, eJ cJ 6 v11)]) Γ (fun sz => mX0_testAbove (l := l) (D := D) (sz := sz) (cI := cI) (cJ := cJ) (cZ := cZ) (cW := cW) (cR := cR) (h_t := A_t 3) (A_t := A_t_fit) (A_t_rows := A_t_fit_rows) (hf := e14)) eX0_testAbove gX4_test_X0_testAbove rfl rfl 0 rfl rfl rfl (Nat.le_of_ble_eq_true rfl) ⟨Nat.le_of_ble_eq_true rfl, Nat.le_of_ble_eq_true rfl⟩ dX4_test_40 [1, 6, 7, 8, 9, 10, 11, 12, 13] [0, 2, 3, 4, 5, 14, 15, 16, 17, 18] rfl rfl rfl rfl (by decide) rfl ?_
    refine g_aload_n Γ 0 dX4_test_43 rfl ?_
    refine g_get Γ fX4_test_33 0 rfl rfl dX4_test_44 ?_
    refine g_get Γ fX4_test_168 10 rfl rfl dX4_test_47 ?_
    refine g_iload_n Γ 1 dX4_test_50 rfl ?_
    obtain ⟨v15, e16, hf⟩ := ya_ob hf
    refine g_sl (wr := [(h_t, oM A_t), (A_t_fit 0, oG A_t_fit_heaps), (A_t_fit_heaps 0, eI cI 6 v8), (A_t_fit 1, oG A_t_fit_pieces), (A_t_fit_pieces 0, eI cI 6 v9), (A_t 0, oW A_t_now c_t_now_knots c_t_now_flows c_t_now_readSet), (A_t_now 0, eI cI 10 c_t_now_from), (A_t_now 1, eI cI 10 c_t_now_to), (A_t_now 2, eI cI 10 c_t_now_reading), (A_t_now 3, eI cI 10 c_t_now_miss), (A_t 3, oF A_t_fit v6 v7), (A_t_fit 3, eQ cR 6 A_t_fit_rows), (A_t_fit_rows 0, eJ cJ 7 (v10 0)), (A_t_fit_rows 1, eJ cJ 7 (v10 1)), (A_t_fit_rows 2, eJ cJ 7 (v10 2)), (A_t_fit_rows 3, eJ cJ 7 (v10 3)), (A_t_fit_rows 4, eJ cJ 7 (v10 4)), (A_t_fit_rows 5, eJ cJ 7 (v10 5)), (A_t_fit 4, eJ cJ 6 v11)]) (ws' := [(h_t, oM A_t), (A_t_fit 0, oG A_t_fit_heaps), (A_t_fit_heaps 0, eI cI 6 v8), (A_t_fit 1, oG A_t_fit_pieces), (A_t_fit_pieces 0, eI cI 6 v9), (A_t 0, oW A_t_now c_t_now_knots c_t_now_flows c_t_now_readSet), (A_t_now 0, eI cI 10 c_t_now_from), (A_t_now 1, eI cI 10 c_t_now_to), (A_t_now 2, eI cI 10 c_t_now_reading), (A_t_now 3, eI cI 10 c_t_now_miss), (A_t 3, oF A_t_fit v6 v7), (A_t_fit 3, eQ cR 6 A_t_fit_rows), (A_t_fit_rows 0, eJ cJ 7 (v10 0)), (A_t_fit_rows 1, eJ cJ 7 (v10 1)), (A_t_fit_rows 2, eJ cJ 7 (v10 2)), (A_t_fit_rows 3, eJ cJ 7 (v10 3)), (A_t_fit_rows 4, eJ cJ 7 (v10 4)), (A_t_fit_rows 5, eJ cJ 7 (v10 5)), (A_t_fit 4, eJ cJ 6 v11)]) Γ (fun sz => mX4_lowestTerms (l := l) (D := D) (sz := sz) (cI := cI) (cJ := cJ) (cZ := cZ) (cW := cW) (cR := cR)  (hf := e16)) eX4_lowestTerms ggX4_test_X4_lowestTerms (by decide +kernel) (by decide +kernel) (by decide +kernel) rfl rfl (Nat.le_of_ble_eq_true rfl) ⟨Nat.le_of_ble_eq_true rfl, Nat.le_of_ble_eq_true rfl⟩ dX4_test_51 [] [0, 1, 2, 3, 4, 5, 6, 7, 8, 9, 10, 11, 12, 13, 14, 15, 16, 17, 18] rfl rfl rfl rfl (by decide) rfl ?_
    cases hf
    exact g_lret Γ hr dX4_test_54 [0, 5, 6, 7, 8, 9, 10, 1, 2, 3, 4, 11, 12, 13, 14, 15, 16, 17, 18] rfl rfl
  · have hf := ya_if1 c3 hf
    refine g_ldc2 (v := (-1)) Γ dX4_test_7 (by decide +kernel) ?_
    cases hf
    exact g_lret Γ hr dX4_test_10 [0, 1, 2, 3, 4, 5, 6, 7, 8, 9, 10, 11, 12, 13, 14, 15, 16, 17, 18] rfl rfl

set_option maxRecDepth 20000 in
theorem ggX4_fall_X4_isFlow : GoodIn wsX4_fall wsX4_isFlow := goodIn_r _ [10, 3, 11, 121, 122, 123, 124, 125, 126, 127, 128, 129, 130, 131, 132, 133, 134, 135, 136, 137, 138] rfl (by decide +kernel)
set_option maxRecDepth 20000 in
theorem gX4_fall_X4_isFlow : GoodIn wsX4_fall (wsV RX4 68 RX4 yX4_isFlow wsX4_isFlow) := goodIn_app (goodIn_of _ (by decide +kernel)) ggX4_fall_X4_isFlow
set_option maxRecDepth 20000 in
theorem ggX4_fall_X4_isPart : GoodIn wsX4_fall wsX4_isPart := goodIn_r _ [14] rfl (by decide +kernel)
set_option maxRecDepth 20000 in
theorem gX4_fall_X4_isPart : GoodIn wsX4_fall (va_wsS RX4 155 yX4_isPart wsX4_isPart) := goodIn_app (goodIn_of _ (by decide +kernel)) ggX4_fall_X4_isPart
set_option maxRecDepth 20000 in
theorem ggX4_fall_X4_spareSet : GoodIn wsX4_fall wsX4_spareSet := goodIn_r _ [18, 19, 3, 11, 20, 21, 22, 23, 24, 25, 26, 27, 28, 29, 30, 31, 9, 32, 33, 34, 35, 36, 37, 38, 39, 40, 41, 42, 43, 44, 45, 46, 47, 48, 49, 50, 51, 52, 53, 54, 55, 56, 57, 58, 59, 60, 61, 62, 63, 64, 65, 66, 121, 122, 123, 124, 125, 126, 127, 128, 129, 130, 131, 132, 133, 134, 135, 136, 137, 138, 146] rfl (by decide +kernel)
set_option maxRecDepth 20000 in
theorem gX4_fall_X4_spareSet : GoodIn wsX4_fall (wsV RX4 134 RX4 yX4_spareSet wsX4_spareSet) := goodIn_app (goodIn_of _ (by decide +kernel)) ggX4_fall_X4_spareSet
set_option maxRecDepth 20000 in
theorem ggX4_fall_X4_holds : GoodIn wsX4_fall wsX4_holds := goodIn_r _ [43] rfl (by decide +kernel)
set_option maxRecDepth 20000 in
theorem gX4_fall_X4_holds : GoodIn wsX4_fall (va_wsS RX4 78 yX4_holds wsX4_holds) := goodIn_app (goodIn_of _ (by decide +kernel)) ggX4_fall_X4_holds
set_option maxRecDepth 20000 in
theorem ggX4_fall_X3_unreadSet : GoodIn wsX4_fall wsX3_unreadSet := goodIn_r _ [24, 25, 26, 27, 28, 23, 29, 30, 31, 9, 32, 128, 129, 130, 131, 132, 133, 134, 135, 136, 137, 138] rfl (by decide +kernel)
set_option maxRecDepth 20000 in
theorem gX4_fall_X3_unreadSet : GoodIn wsX4_fall (wsV RX4 120 RX3 yX3_unreadSet wsX3_unreadSet) := goodIn_app (goodIn_of _ (by decide +kernel)) ggX4_fall_X3_unreadSet
set_option maxRecDepth 20000 in
theorem ggX4_fall_X0_solve : GoodIn wsX4_fall wsX0_solve := goodIn_r _ [71, 72, 73, 74, 75, 76, 34, 35, 36, 37, 38, 39, 40, 41, 42, 9, 43, 44, 45, 46, 47, 48, 49, 50, 51, 52, 53, 54, 55, 56, 57, 58, 77, 27, 28, 23, 29, 30, 31, 32, 78, 79, 80, 70, 81, 82, 83, 84, 85, 86, 87, 88, 89, 90, 91, 92, 93, 94, 95, 96, 97, 98, 99, 100, 101, 102, 103, 104, 105, 106, 107, 139, 140, 141, 142, 143, 144, 145, 128, 129, 130, 131, 132, 133, 134, 135, 136, 137, 138, 146] rfl (by decide +kernel)
set_option maxRecDepth 20000 in
theorem gX4_fall_X0_solve : GoodIn wsX4_fall (wsV RX4 160 RX0 yX0_solve wsX0_solve) := goodIn_app (goodIn_of _ (by decide +kernel)) ggX4_fall_X0_solve
set_option maxRecDepth 20000 in
theorem ggX4_fall_X0_testAbove : GoodIn wsX4_fall wsX0_testAbove := goodIn_r _ [111, 82, 83, 139, 140, 141, 142, 143, 144, 145] rfl (by decide +kernel)
set_option maxRecDepth 20000 in
theorem gX4_fall_X0_testAbove : GoodIn wsX4_fall (wsV RX4 183 RX0 yX0_testAbove wsX0_testAbove) := goodIn_app (goodIn_of _ (by decide +kernel)) ggX4_fall_X0_testAbove
set_option maxRecDepth 20000 in
theorem ggX4_fall_X4_bit : GoodIn wsX4_fall wsX4_bit := goodIn_r _ [32] rfl (by decide +kernel)
set_option maxRecDepth 20000 in
theorem gX4_fall_X4_bit : GoodIn wsX4_fall (va_wsS RX4 185 yX4_bit wsX4_bit) := goodIn_app (goodIn_of _ (by decide +kernel)) ggX4_fall_X4_bit
set_option maxRecDepth 20000 in
theorem ggX4_fall_X4_lowestTerms : GoodIn wsX4_fall wsX4_lowestTerms := goodIn_r _ [114, 115, 116, 54, 117, 1, 118, 119, 9, 120] rfl (by decide +kernel)
set_option maxRecDepth 20000 in
theorem gX4_fall_X4_lowestTerms : GoodIn wsX4_fall (va_wsS RX4 172 yX4_lowestTerms wsX4_lowestTerms) := goodIn_app (goodIn_of _ (by decide +kernel)) ggX4_fall_X4_lowestTerms
theorem dX4_fall_0 : decode cX4_fall 0 = .ok (.aload_n 0, 1) := by decide +kernel
theorem dX4_fall_1 : decode cX4_fall 1 = .ok (.iload_n 1, 1) := by decide +kernel
theorem dX4_fall_2 : decode cX4_fall 2 = .ok (.invokevirtual 68, 3) := by decide +kernel
theorem dX4_fall_5 : decode cX4_fall 5 = .ok (.ifCond .eq 21, 3) := by decide +kernel
theorem dX4_fall_8 : decode cX4_fall 8 = .ok (.iload_n 2, 1) := by decide +kernel
theorem dX4_fall_9 : decode cX4_fall 9 = .ok (.invokestatic 155, 3) := by decide +kernel
theorem dX4_fall_12 : decode cX4_fall 12 = .ok (.ifCond .eq 14, 3) := by decide +kernel
theorem dX4_fall_15 : decode cX4_fall 15 = .ok (.aload_n 0, 1) := by decide +kernel
theorem dX4_fall_16 : decode cX4_fall 16 = .ok (.invokevirtual 134, 3) := by decide +kernel
theorem dX4_fall_19 : decode cX4_fall 19 = .ok (.iload_n 1, 1) := by decide +kernel
theorem dX4_fall_20 : decode cX4_fall 20 = .ok (.invokestatic 78, 3) := by decide +kernel
theorem dX4_fall_23 : decode cX4_fall 23 = .ok (.ifCond .ne 7, 3) := by decide +kernel
theorem dX4_fall_26 : decode cX4_fall 26 = .ok (.ldc2_w 158, 3) := by decide +kernel
theorem dX4_fall_29 : decode cX4_fall 29 = .ok (.lreturn, 1) := by decide +kernel
theorem dX4_fall_30 : decode cX4_fall 30 = .ok (.aload_n 0, 1) := by decide +kernel
theorem dX4_fall_31 : decode cX4_fall 31 = .ok (.getfield 33, 3) := by decide +kernel
theorem dX4_fall_34 : decode cX4_fall 34 = .ok (.aload_n 0, 1) := by decide +kernel
theorem dX4_fall_35 : decode cX4_fall 35 = .ok (.getfield 10, 3) := by decide +kernel
theorem dX4_fall_38 : decode cX4_fall 38 = .ok (.aload_n 0, 1) := by decide +kernel
theorem dX4_fall_39 : decode cX4_fall 39 = .ok (.getfield 10, 3) := by decide +kernel
theorem dX4_fall_42 : decode cX4_fall 42 = .ok (.invokevirtual 120, 3) := by decide +kernel
theorem dX4_fall_45 : decode cX4_fall 45 = .ok (.invokevirtual 160, 3) := by decide +kernel
theorem dX4_fall_48 : decode cX4_fall 48 = .ok (.aload_n 0, 1) := by decide +kernel
theorem dX4_fall_49 : decode cX4_fall 49 = .ok (.getfield 33, 3) := by decide +kernel
theorem dX4_fall_52 : decode cX4_fall 52 = .ok (.aload_n 0, 1) := by decide +kernel
theorem dX4_fall_53 : decode cX4_fall 53 = .ok (.getfield 10, 3) := by decide +kernel
theorem dX4_fall_56 : decode cX4_fall 56 = .ok (.getfield 117, 3) := by decide +kernel
theorem dX4_fall_59 : decode cX4_fall 59 = .ok (.invokevirtual 183, 3) := by decide +kernel
theorem dX4_fall_62 : decode cX4_fall 62 = .ok (.lstore_n 3, 1) := by decide +kernel
theorem dX4_fall_63 : decode cX4_fall 63 = .ok (.aload_n 0, 1) := by decide +kernel
theorem dX4_fall_64 : decode cX4_fall 64 = .ok (.getfield 33, 3) := by decide +kernel
theorem dX4_fall_67 : decode cX4_fall 67 = .ok (.getfield 168, 3) := by decide +kernel
theorem dX4_fall_70 : decode cX4_fall 70 = .ok (.lstore 5, 2) := by decide +kernel
theorem dX4_fall_72 : decode cX4_fall 72 = .ok (.aload_n 0, 1) := by decide +kernel
theorem dX4_fall_73 : decode cX4_fall 73 = .ok (.getfield 33, 3) := by decide +kernel
theorem dX4_fall_76 : decode cX4_fall 76 = .ok (.aload_n 0, 1) := by decide +kernel
theorem dX4_fall_77 : decode cX4_fall 77 = .ok (.getfield 10, 3) := by decide +kernel
theorem dX4_fall_80 : decode cX4_fall 80 = .ok (.aload_n 0, 1) := by decide +kernel
theorem dX4_fall_81 : decode cX4_fall 81 = .ok (.getfield 10, 3) := by decide +kernel
theorem dX4_fall_84 : decode cX4_fall 84 = .ok (.invokevirtual 120, 3) := by decide +kernel
theorem dX4_fall_87 : decode cX4_fall 87 = .ok (.iload_n 1, 1) := by decide +kernel
theorem dX4_fall_88 : decode cX4_fall 88 = .ok (.invokestatic 185, 3) := by decide +kernel
theorem dX4_fall_91 : decode cX4_fall 91 = .ok (.ior, 1) := by decide +kernel
theorem dX4_fall_92 : decode cX4_fall 92 = .ok (.invokevirtual 160, 3) := by decide +kernel
theorem dX4_fall_95 : decode cX4_fall 95 = .ok (.aload_n 0, 1) := by decide +kernel
theorem dX4_fall_96 : decode cX4_fall 96 = .ok (.getfield 33, 3) := by decide +kernel
theorem dX4_fall_99 : decode cX4_fall 99 = .ok (.aload_n 0, 1) := by decide +kernel
theorem dX4_fall_100 : decode cX4_fall 100 = .ok (.getfield 10, 3) := by decide +kernel
theorem dX4_fall_103 : decode cX4_fall 103 = .ok (.getfield 117, 3) := by decide +kernel
theorem dX4_fall_106 : decode cX4_fall 106 = .ok (.invokevirtual 183, 3) := by decide +kernel
theorem dX4_fall_109 : decode cX4_fall 109 = .ok (.lstore 7, 2) := by decide +kernel
theorem dX4_fall_111 : decode cX4_fall 111 = .ok (.lload_n 3, 1) := by decide +kernel
theorem dX4_fall_112 : decode cX4_fall 112 = .ok (.aload_n 0, 1) := by decide +kernel
theorem dX4_fall_113 : decode cX4_fall 113 = .ok (.getfield 33, 3) := by decide +kernel
theorem dX4_fall_116 : decode cX4_fall 116 = .ok (.getfield 168, 3) := by decide +kernel
theorem dX4_fall_119 : decode cX4_fall 119 = .ok (.lmul, 1) := by decide +kernel
theorem dX4_fall_120 : decode cX4_fall 120 = .ok (.lload 7, 2) := by decide +kernel
theorem dX4_fall_122 : decode cX4_fall 122 = .ok (.lload 5, 2) := by decide +kernel
theorem dX4_fall_124 : decode cX4_fall 124 = .ok (.lmul, 1) := by decide +kernel
theorem dX4_fall_125 : decode cX4_fall 125 = .ok (.lsub, 1) := by decide +kernel
theorem dX4_fall_126 : decode cX4_fall 126 = .ok (.lload 5, 2) := by decide +kernel
theorem dX4_fall_128 : decode cX4_fall 128 = .ok (.aload_n 0, 1) := by decide +kernel
theorem dX4_fall_129 : decode cX4_fall 129 = .ok (.getfield 33, 3) := by decide +kernel
theorem dX4_fall_132 : decode cX4_fall 132 = .ok (.getfield 168, 3) := by decide +kernel
theorem dX4_fall_135 : decode cX4_fall 135 = .ok (.lmul, 1) := by decide +kernel
theorem dX4_fall_136 : decode cX4_fall 136 = .ok (.iload_n 2, 1) := by decide +kernel
theorem dX4_fall_137 : decode cX4_fall 137 = .ok (.invokestatic 172, 3) := by decide +kernel
theorem dX4_fall_140 : decode cX4_fall 140 = .ok (.lreturn, 1) := by decide +kernel
/-! ===== FlowMeters.fall(II)J ===== -/
def fX4_fall (N : Nat) (c_t_now_knots : Int32) (c_t_now_flows : Int32) (c_t_now_readSet : Int32) (c_t_now_from : Nat → Int32) (c_t_now_to : Nat → Int32) (c_t_now_reading : Nat → Int32) (c_t_now_miss : Nat → Int32) (c_t_groups_least : Nat → Int32) (c_t_fit_unread : Int32) (c_t_fit_below : Int64) (c_t_fit_heaps_least : Nat → Int32) (c_t_fit_pieces_least : Nat → Int32) (c_t_fit_rows : Nat → Nat → Int64) (c_t_fit_surplus : Nat → Int64) (x1 : Int32) (x2 : Int32) : Option (Int64 × (Nat → Int32) × Int32 × Int64 × (Nat → Int32) × (Nat → Int32) × (Nat → Nat → Int64) × (Nat → Int64)) :=
  (fX4_isFlow c_t_now_flows x1).bind fun v1 =>
  (if v1 = 0 then
    some ((-1), c_t_groups_least, c_t_fit_unread, c_t_fit_below, c_t_fit_heaps_least, c_t_fit_pieces_least, c_t_fit_rows, c_t_fit_surplus)
  else
    (fX4_isPart x2).bind fun v4 =>
    (if v4 = 0 then
      some ((-1), c_t_groups_least, c_t_fit_unread, c_t_fit_below, c_t_fit_heaps_least, c_t_fit_pieces_least, c_t_fit_rows, c_t_fit_surplus)
    else
      (fX4_spareSet N c_t_now_flows c_t_now_readSet c_t_now_from c_t_now_to c_t_groups_least).bind fun (v7, v8) =>
      (fX4_holds v7 x1).bind fun v10 =>
      (if v10 = 0 then
        some ((-1), v8, c_t_fit_unread, c_t_fit_below, c_t_fit_heaps_least, c_t_fit_pieces_least, c_t_fit_rows, c_t_fit_surplus)
      else
        (fX3_unreadSet c_t_now_flows c_t_now_readSet).bind fun v13 =>
        (fX0_solve N c_t_fit_unread c_t_fit_below c_t_fit_heaps_least c_t_fit_pieces_least c_t_fit_rows c_t_fit_surplus c_t_now_knots c_t_now_flows c_t_now_from c_t_now_to c_t_now_reading c_t_now_miss v13).bind fun (v15, v16, v17, v18, v19, v20) =>
        (fX0_testAbove N v19 v20 c_t_now_knots).bind fun v22 =>
        (fX3_unreadSet c_t_now_flows c_t_now_readSet).bind fun v24 =>
        (fX4_bit x1).bind fun v26 =>
        (fX0_solve N v15 v16 v17 v18 v19 v20 c_t_now_knots c_t_now_flows c_t_now_from c_t_now_to c_t_now_reading c_t_now_miss (v24 ||| v26)).bind fun (v28, v29, v30, v31, v32, v33) =>
        (fX0_testAbove N v32 v33 c_t_now_knots).bind fun v35 =>
        (fX4_lowestTerms N ((v22 * v29) - (v35 * v16)) (v16 * v29) x2).bind fun v37 =>
        some (v37, v8, v28, v29, v30, v31, v32, v33))))
theorem fX4_fall_33 : yF wsX4_fall RX4 33 4 3 RX4 TX4 7 := ⟨rfl, by decide, by decide +kernel, by decide +kernel⟩
theorem fX4_fall_10 : yF wsX4_fall RX4 10 4 0 RX4 TX4 7 := ⟨rfl, by decide, by decide +kernel, by decide +kernel⟩
theorem fX4_fall_117 : yF wsX4_fall RX4 117 3 0 RX3 TX3 11 := ⟨rfl, by decide, by decide +kernel, by decide +kernel⟩
theorem fX4_fall_168 : yF wsX4_fall RX4 168 0 6 RX0 TX0 7 := ⟨rfl, by decide, by decide +kernel, by decide +kernel⟩
abbrev rmX4_fall : Room := { frames := 4, cells := 0, slots := 0, locals := 119 }
theorem eX4_fall : yY yX4_fall wsX4_fall cX4_fall 9 (some .long) rmX4_fall 2 := ⟨⟨_, rfl⟩, rfl, rfl, by decide, by decide, by decide +kernel⟩
set_option maxHeartbeats 4000000 in
set_option maxRecDepth 100000 in
theorem mX4_fall {l : Launch} {D : va_G} {sz : Nat} {cI cJ cZ cW cR : ClassId} {N : Nat} {h_t : Nat} {A_t : Nat → Nat} {A_t_now : Nat → Nat} {A_t_groups : Nat → Nat} {A_t_fit : Nat → Nat} {A_t_fit_heaps : Nat → Nat} {A_t_fit_pieces : Nat → Nat} {A_t_fit_rows : Nat → Nat} {c_t_now_knots : Int32} {c_t_now_flows : Int32} {c_t_now_readSet : Int32} {c_t_now_from : Nat → Int32} {c_t_now_to : Nat → Int32} {c_t_now_reading : Nat → Int32} {c_t_now_miss : Nat → Int32} {c_t_groups_least : Nat → Int32} {c_t_fit_unread : Int32} {c_t_fit_below : Int64} {c_t_fit_heaps_least : Nat → Int32} {c_t_fit_pieces_least : Nat → Int32} {c_t_fit_rows : Nat → Nat → Int64} {c_t_fit_surplus : Nat → Int64} {x1 : Int32} {x2 : Int32} {r : Int64} {zc_t_groups_least : Nat → Int32} {zc_t_fit_unread : Int32} {zc_t_fit_below : Int64} {zc_t_fit_heaps_least : Nat → Int32} {zc_t_fit_pieces_least : Nat → Int32} {zc_t_fit_rows : Nat → Nat → Int64} {zc_t_fit_surplus : Nat → Int64} (hf : fX4_fall N c_t_now_knots c_t_now_flows c_t_now_readSet c_t_now_from c_t_now_to c_t_now_reading c_t_now_miss c_t_groups_least c_t_fit_unread c_t_fit_below c_t_fit_heaps_least c_t_fit_pieces_least c_t_fit_rows c_t_fit_surplus x1 x2 = some (r, zc_t_groups_least, zc_t_fit_unread, zc_t_fit_below, zc_t_fit_heaps_least, zc_t_fit_pieces_least, zc_t_fit_rows, zc_t_fit_surplus)) : Met l yX4_fall wsX4_fall rmX4_fall (yP D (yT cI cJ cZ cW cR) [(h_t, oM A_t), (A_t 0, oW A_t_now c_t_now_knots c_t_now_flows c_t_now_readSet), (A_t_now 0, eI cI 10 c_t_now_from), (A_t_now 1, eI cI 10 c_t_now_to), (A_t_now 2, eI cI 10 c_t_now_reading), (A_t_now 3, eI cI 10 c_t_now_miss), (A_t 2, oG A_t_groups), (A_t_groups 0, eI cI 6 c_t_groups_least), (A_t 3, oF A_t_fit c_t_fit_unread c_t_fit_below), (A_t_fit 0, oG A_t_fit_heaps), (A_t_fit_heaps 0, eI cI 6 c_t_fit_heaps_least), (A_t_fit 1, oG A_t_fit_pieces), (A_t_fit_pieces 0, eI cI 6 c_t_fit_pieces_least), (A_t_fit 3, eQ cR 6 A_t_fit_rows), (A_t_fit_rows 0, eJ cJ 7 (c_t_fit_rows 0)), (A_t_fit_rows 1, eJ cJ 7 (c_t_fit_rows 1)), (A_t_fit_rows 2, eJ cJ 7 (c_t_fit_rows 2)), (A_t_fit_rows 3, eJ cJ 7 (c_t_fit_rows 3)), (A_t_fit_rows 4, eJ cJ 7 (c_t_fit_rows 4)), (A_t_fit_rows 5, eJ cJ 7 (c_t_fit_rows 5)), (A_t_fit 4, eJ cJ 6 c_t_fit_surplus)] sz [.ref h_t, .int x1, .int x2]) (yQl D (yT cI cJ cZ cW cR) r [(h_t, oM A_t), (A_t 0, oW A_t_now c_t_now_knots c_t_now_flows c_t_now_readSet), (A_t_now 0, eI cI 10 c_t_now_from), (A_t_now 1, eI cI 10 c_t_now_to), (A_t_now 2, eI cI 10 c_t_now_reading), (A_t_now 3, eI cI 10 c_t_now_miss), (A_t 2, oG A_t_groups), (A_t_groups 0, eI cI 6 zc_t_groups_least), (A_t 3, oF A_t_fit zc_t_fit_unread zc_t_fit_below), (A_t_fit 0, oG A_t_fit_heaps), (A_t_fit_heaps 0, eI cI 6 zc_t_fit_heaps_least), (A_t_fit 1, oG A_t_fit_pieces), (A_t_fit_pieces 0, eI cI 6 zc_t_fit_pieces_least), (A_t_fit 3, eQ cR 6 A_t_fit_rows), (A_t_fit_rows 0, eJ cJ 7 (zc_t_fit_rows 0)), (A_t_fit_rows 1, eJ cJ 7 (zc_t_fit_rows 1)), (A_t_fit_rows 2, eJ cJ 7 (zc_t_fit_rows 2)), (A_t_fit_rows 3, eJ cJ 7 (zc_t_fit_rows 3)), (A_t_fit_rows 4, eJ cJ 7 (zc_t_fit_rows 4)), (A_t_fit_rows 5, eJ cJ 7 (zc_t_fit_rows 5)), (A_t_fit 4, eJ cJ 6 zc_t_fit_surplus)] (va_A [(h_t, oM A_t), (A_t 0, oW A_t_now c_t_now_knots c_t_now_flows c_t_now_readSet), (A_t_now 0, eI cI 10 c_t_now_from), (A_t_now 1, eI cI 10 c_t_now_to), (A_t_now 2, eI cI 10 c_t_now_reading), (A_t_now 3, eI cI 10 c_t_now_miss), (A_t 2, oG A_t_groups), (A_t_groups 0, eI cI 6 c_t_groups_least), (A_t 3, oF A_t_fit c_t_fit_unread c_t_fit_below), (A_t_fit 0, oG A_t_fit_heaps), (A_t_fit_heaps 0, eI cI 6 c_t_fit_heaps_least), (A_t_fit 1, oG A_t_fit_pieces), (A_t_fit_pieces 0, eI cI 6 c_t_fit_pieces_least), (A_t_fit 3, eQ cR 6 A_t_fit_rows), (A_t_fit_rows 0, eJ cJ 7 (c_t_fit_rows 0)), (A_t_fit_rows 1, eJ cJ 7 (c_t_fit_rows 1)), (A_t_fit_rows 2, eJ cJ 7 (c_t_fit_rows 2)), (A_t_fit_rows 3, eJ cJ 7 (c_t_fit_rows 3)), (A_t_fit_rows 4, eJ cJ 7 (c_t_fit_rows 4)), (A_t_fit_rows 5, eJ cJ 7 (c_t_fit_rows 5)), (A_t_fit 4, eJ cJ 6 c_t_fit_surplus)] sz)) 0 0 (va_A [(h_t, oM A_t), (A_t 0, oW A_t_now c_t_now_knots c_t_now_flows c_t_now_readSet), (A_t_now 0, eI cI 10 c_t_now_from), (A_t_now 1, eI cI 10 c_t_now_to), (A_t_now 2, eI cI 10 c_t_now_reading), (A_t_now 3, eI cI 10 c_t_now_miss), (A_t 2, oG A_t_groups), (A_t_groups 0, eI cI 6 c_t_groups_least), (A_t 3, oF A_t_fit c_t_fit_unread c_t_fit_below), (A_t_fit 0, oG A_t_fit_heaps), (A_t_fit_heaps 0, eI cI 6 c_t_fit_heaps_least), (A_t_fit 1, oG A_t_fit_pieces), (A_t_fit_pieces 0, eI cI 6 c_t_fit_pieces_least), (A_t_fit 3, eQ cR 6 A_t_fit_rows), (A_t_fit_rows 0, eJ cJ 7 (c_t_fit_rows 0)), (A_t_fit_rows 1, eJ cJ 7 (c_t_fit_rows 1)), (A_t_fit_rows 2, eJ cJ 7 (c_t_fit_rows 2)), (A_t_fit_rows 3, eJ cJ 7 (c_t_fit_rows 3)), (A_t_fit_rows 4, eJ cJ 7 (c_t_fit_rows 4)), (A_t_fit_rows 5, eJ cJ 7 (c_t_fit_rows 5)), (A_t_fit 4, eJ cJ 6 c_t_fit_surplus)] sz) := by
  refine yM (cc := cX4_fall) (maxL := 9) (ret := (some .long)) RX4 (by decide) rfl rfl (Nat.le_of_ble_eq_true rfl) ?_
  intro p e s m below meth c Γ hr
  show yG p l e (headSpec wsX4_fall rmX4_fall).room s m (List.toArray [.ref h_t, .int x1, .int x2]) below meth c D (va_A [(h_t, oM A_t), (A_t 0, oW A_t_now c_t_now_knots c_t_now_flows c_t_now_readSet), (A_t_now 0, eI cI 10 c_t_now_from), (A_t_now 1, eI cI 10 c_t_now_to), (A_t_now 2, eI cI 10 c_t_now_reading), (A_t_now 3, eI cI 10 c_t_now_miss), (A_t 2, oG A_t_groups), (A_t_groups 0, eI cI 6 c_t_groups_least), (A_t 3, oF A_t_fit c_t_fit_unread c_t_fit_below), (A_t_fit 0, oG A_t_fit_heaps), (A_t_fit_heaps 0, eI cI 6 c_t_fit_heaps_least), (A_t_fit 1, oG A_t_fit_pieces), (A_t_fit_pieces 0, eI cI 6 c_t_fit_pieces_least), (A_t_fit 3, eQ cR 6 A_t_fit_rows), (A_t_fit_rows 0, eJ cJ 7 (c_t_fit_rows 0)), (A_t_fit_rows 1, eJ cJ 7 (c_t_fit_rows 1)), (A_t_fit_rows 2, eJ cJ 7 (c_t_fit_rows 2)), (A_t_fit_rows 3, eJ cJ 7 (c_t_fit_rows 3)), (A_t_fit_rows 4, eJ cJ 7 (c_t_fit_rows 4)), (A_t_fit_rows 5, eJ cJ 7 (c_t_fit_rows 5)), (A_t_fit 4, eJ cJ 6 c_t_fit_surplus)] sz) 9 0 0 (MQ below (yQl D (yT cI cJ cZ cW cR) r [(h_t, oM A_t), (A_t 0, oW A_t_now c_t_now_knots c_t_now_flows c_t_now_readSet), (A_t_now 0, eI cI 10 c_t_now_from), (A_t_now 1, eI cI 10 c_t_now_to), (A_t_now 2, eI cI 10 c_t_now_reading), (A_t_now 3, eI cI 10 c_t_now_miss), (A_t 2, oG A_t_groups), (A_t_groups 0, eI cI 6 zc_t_groups_least), (A_t 3, oF A_t_fit zc_t_fit_unread zc_t_fit_below), (A_t_fit 0, oG A_t_fit_heaps), (A_t_fit_heaps 0, eI cI 6 zc_t_fit_heaps_least), (A_t_fit 1, oG A_t_fit_pieces), (A_t_fit_pieces 0, eI cI 6 zc_t_fit_pieces_least), (A_t_fit 3, eQ cR 6 A_t_fit_rows), (A_t_fit_rows 0, eJ cJ 7 (zc_t_fit_rows 0)), (A_t_fit_rows 1, eJ cJ 7 (zc_t_fit_rows 1)), (A_t_fit_rows 2, eJ cJ 7 (zc_t_fit_rows 2)), (A_t_fit_rows 3, eJ cJ 7 (zc_t_fit_rows 3)), (A_t_fit_rows 4, eJ cJ 7 (zc_t_fit_rows 4)), (A_t_fit_rows 5, eJ cJ 7 (zc_t_fit_rows 5)), (A_t_fit 4, eJ cJ 6 zc_t_fit_surplus)] (va_A [(h_t, oM A_t), (A_t 0, oW A_t_now c_t_now_knots c_t_now_flows c_t_now_readSet), (A_t_now 0, eI cI 10 c_t_now_from), (A_t_now 1, eI cI 10 c_t_now_to), (A_t_now 2, eI cI 10 c_t_now_reading), (A_t_now 3, eI cI 10 c_t_now_miss), (A_t 2, oG A_t_groups), (A_t_groups 0, eI cI 6 c_t_groups_least), (A_t 3, oF A_t_fit c_t_fit_unread c_t_fit_below), (A_t_fit 0, oG A_t_fit_heaps), (A_t_fit_heaps 0, eI cI 6 c_t_fit_heaps_least), (A_t_fit 1, oG A_t_fit_pieces), (A_t_fit_pieces 0, eI cI 6 c_t_fit_pieces_least), (A_t_fit 3, eQ cR 6 A_t_fit_rows), (A_t_fit_rows 0, eJ cJ 7 (c_t_fit_rows 0)), (A_t_fit_rows 1, eJ cJ 7 (c_t_fit_rows 1)), (A_t_fit_rows 2, eJ cJ 7 (c_t_fit_rows 2)), (A_t_fit_rows 3, eJ cJ 7 (c_t_fit_rows 3)), (A_t_fit_rows 4, eJ cJ 7 (c_t_fit_rows 4)), (A_t_fit_rows 5, eJ cJ 7 (c_t_fit_rows 5)), (A_t_fit 4, eJ cJ 6 c_t_fit_surplus)] sz)) (List.toArray [.ref h_t, .int x1, .int x2]) s 0 0 (va_A [(h_t, oM A_t), (A_t 0, oW A_t_now c_t_now_knots c_t_now_flows c_t_now_readSet), (A_t_now 0, eI cI 10 c_t_now_from), (A_t_now 1, eI cI 10 c_t_now_to), (A_t_now 2, eI cI 10 c_t_now_reading), (A_t_now 3, eI cI 10 c_t_now_miss), (A_t 2, oG A_t_groups), (A_t_groups 0, eI cI 6 c_t_groups_least), (A_t 3, oF A_t_fit c_t_fit_unread c_t_fit_below), (A_t_fit 0, oG A_t_fit_heaps), (A_t_fit_heaps 0, eI cI 6 c_t_fit_heaps_least), (A_t_fit 1, oG A_t_fit_pieces), (A_t_fit_pieces 0, eI cI 6 c_t_fit_pieces_least), (A_t_fit 3, eQ cR 6 A_t_fit_rows), (A_t_fit_rows 0, eJ cJ 7 (c_t_fit_rows 0)), (A_t_fit_rows 1, eJ cJ 7 (c_t_fit_rows 1)), (A_t_fit_rows 2, eJ cJ 7 (c_t_fit_rows 2)), (A_t_fit_rows 3, eJ cJ 7 (c_t_fit_rows 3)), (A_t_fit_rows 4, eJ cJ 7 (c_t_fit_rows 4)), (A_t_fit_rows 5, eJ cJ 7 (c_t_fit_rows 5)), (A_t_fit 4, eJ cJ 6 c_t_fit_surplus)] sz)) 0 [(0, .ref h_t), (1, .int x1), (2, .int x2)] [] [(h_t, oM A_t), (A_t 0, oW A_t_now c_t_now_knots c_t_now_flows c_t_now_readSet), (A_t_now 0, eI cI 10 c_t_now_from), (A_t_now 1, eI cI 10 c_t_now_to), (A_t_now 2, eI cI 10 c_t_now_reading), (A_t_now 3, eI cI 10 c_t_now_miss), (A_t 2, oG A_t_groups), (A_t_groups 0, eI cI 6 c_t_groups_least), (A_t 3, oF A_t_fit c_t_fit_unread c_t_fit_below), (A_t_fit 0, oG A_t_fit_heaps), (A_t_fit_heaps 0, eI cI 6 c_t_fit_heaps_least), (A_t_fit 1, oG A_t_fit_pieces), (A_t_fit_pieces 0, eI cI 6 c_t_fit_pieces_least), (A_t_fit 3, eQ cR 6 A_t_fit_rows), (A_t_fit_rows 0, eJ cJ 7 (c_t_fit_rows 0)), (A_t_fit_rows 1, eJ cJ 7 (c_t_fit_rows 1)), (A_t_fit_rows 2, eJ cJ 7 (c_t_fit_rows 2)), (A_t_fit_rows 3, eJ cJ 7 (c_t_fit_rows 3)), (A_t_fit_rows 4, eJ cJ 7 (c_t_fit_rows 4)), (A_t_fit_rows 5, eJ cJ 7 (c_t_fit_rows 5)), (A_t_fit 4, eJ cJ 6 c_t_fit_surplus)]
  unfold fX4_fall at hf
  refine g_aload_n Γ 0 dX4_fall_0 rfl ?_
  refine g_iload_n Γ 1 dX4_fall_1 rfl ?_
  obtain ⟨v1, e2, hf⟩ := ya_ob hf
  refine g_vi (q := (RX4, TX4, 7)) (wr := [(A_t_now 0, eI cI 10 c_t_now_from), (A_t_now 1, eI cI 10 c_t_now_to), (A_t_now 2, eI cI 10 c_t_now_reading), (A_t_now 3, eI cI 10 c_t_now_miss), (A_t 2, oG A_t_groups), (A_t_groups 0, eI cI 6 c_t_groups_least), (A_t 3, oF A_t_fit c_t_fit_unread c_t_fit_below), (A_t_fit 0, oG A_t_fit_heaps), (A_t_fit_heaps 0, eI cI 6 c_t_fit_heaps_least), (A_t_fit 1, oG A_t_fit_pieces), (A_t_fit_pieces 0, eI cI 6 c_t_fit_pieces_least), (A_t_fit 3, eQ cR 6 A_t_fit_rows), (A_t_fit_rows 0, eJ cJ 7 (c_t_fit_rows 0)), (A_t_fit_rows 1, eJ cJ 7 (c_t_fit_rows 1)), (A_t_fit_rows 2, eJ cJ 7 (c_t_fit_rows 2)), (A_t_fit_rows 3, eJ cJ 7 (c_t_fit_rows 3)), (A_t_fit_rows 4, eJ cJ 7 (c_t_fit_rows 4)), (A_t_fit_rows 5, eJ cJ 7 (c_t_fit_rows 5)), (A_t_fit 4, eJ cJ 6 c_t_fit_surplus)]) (ws' := [(A_t_now 0, eI cI 10 c_t_now_from), (A_t_now 1, eI cI 10 c_t_now_to), (A_t_now 2, eI cI 10 c_t_now_reading), (A_t_now 3, eI cI 10 c_t_now_miss), (A_t 2, oG A_t_groups), (A_t_groups 0, eI cI 6 c_t_groups_least), (A_t 3, oF A_t_fit c_t_fit_unread c_t_fit_below), (A_t_fit 0, oG A_t_fit_heaps), (A_t_fit_heaps 0, eI cI 6 c_t_fit_heaps_least), (A_t_fit 1, oG A_t_fit_pieces), (A_t_fit_pieces 0, eI cI 6 c_t_fit_pieces_least), (A_t_fit 3, eQ cR 6 A_t_fit_rows), (A_t_fit_rows 0, eJ cJ 7 (c_t_fit_rows 0)), (A_t_fit_rows 1, eJ cJ 7 (c_t_fit_rows 1)), (A_t_fit_rows 2, eJ cJ 7 (c_t_fit_rows 2)), (A_t_fit_rows 3, eJ cJ 7 (c_t_fit_rows 3)), (A_t_fit_rows 4, eJ cJ 7 (c_t_fit_rows 4)), (A_t_fit_rows 5, eJ cJ 7 (c_t_fit_rows 5)), (A_t_fit 4, eJ cJ 6 c_t_fit_surplus), (h_t, oM A_t), (A_t 0, oW A_t_now c_t_now_knots c_t_now_flows c_t_now_readSet)]) Γ (fun sz => mX4_isFlow (l := l) (D := D) (sz := sz) (cI := cI) (cJ := cJ) (cZ := cZ) (cW := cW) (cR := cR) (h_t := h_t) (A_t := A_t) (A_t_now := A_t_now) (hf := e2)) eX4_isFlow gX4_fall_X4_isFlow rfl rfl 0 rfl rfl rfl (Nat.le_of_ble_eq_true rfl) ⟨Nat.le_of_ble_eq_true rfl, Nat.le_of_ble_eq_true rfl⟩ dX4_fall_2 [0, 1] [2, 3, 4, 5, 6, 7, 8, 9, 10, 11, 12, 13, 14, 15, 16, 17, 18, 19, 20] rfl rfl rfl rfl (by decide) rfl ?_
  refine g_if_eq Γ 26 dX4_fall_5 (by decide) (fun c3 => ?_) (fun c3 => ?_)
  · have hf := ya_if1 c3 hf
    refine g_ldc2 (v := (-1)) Γ dX4_fall_26 (by decide +kernel) ?_
    cases hf
    exact g_lret Γ hr dX4_fall_29 [19, 20, 0, 1, 2, 3, 4, 5, 6, 7, 8, 9, 10, 11, 12, 13, 14, 15, 16, 17, 18] rfl rfl
  · have hf := ya_if2 c3 hf
    refine g_iload_n Γ 2 dX4_fall_8 rfl ?_
    obtain ⟨v4, e5, hf⟩ := ya_ob hf
    refine g_si (wr := [(A_t_now 0, eI cI 10 c_t_now_from), (A_t_now 1, eI cI 10 c_t_now_to), (A_t_now 2, eI cI 10 c_t_now_reading), (A_t_now 3, eI cI 10 c_t_now_miss), (A_t 2, oG A_t_groups), (A_t_groups 0, eI cI 6 c_t_groups_least), (A_t 3, oF A_t_fit c_t_fit_unread c_t_fit_below), (A_t_fit 0, oG A_t_fit_heaps), (A_t_fit_heaps 0, eI cI 6 c_t_fit_heaps_least), (A_t_fit 1, oG A_t_fit_pieces), (A_t_fit_pieces 0, eI cI 6 c_t_fit_pieces_least), (A_t_fit 3, eQ cR 6 A_t_fit_rows), (A_t_fit_rows 0, eJ cJ 7 (c_t_fit_rows 0)), (A_t_fit_rows 1, eJ cJ 7 (c_t_fit_rows 1)), (A_t_fit_rows 2, eJ cJ 7 (c_t_fit_rows 2)), (A_t_fit_rows 3, eJ cJ 7 (c_t_fit_rows 3)), (A_t_fit_rows 4, eJ cJ 7 (c_t_fit_rows 4)), (A_t_fit_rows 5, eJ cJ 7 (c_t_fit_rows 5)), (A_t_fit 4, eJ cJ 6 c_t_fit_surplus), (h_t, oM A_t), (A_t 0, oW A_t_now c_t_now_knots c_t_now_flows c_t_now_readSet)]) (ws' := [(A_t_now 0, eI cI 10 c_t_now_from), (A_t_now 1, eI cI 10 c_t_now_to), (A_t_now 2, eI cI 10 c_t_now_reading), (A_t_now 3, eI cI 10 c_t_now_miss), (A_t 2, oG A_t_groups), (A_t_groups 0, eI cI 6 c_t_groups_least), (A_t 3, oF A_t_fit c_t_fit_unread c_t_fit_below), (A_t_fit 0, oG A_t_fit_heaps), (A_t_fit_heaps 0, eI cI 6 c_t_fit_heaps_least), (A_t_fit 1, oG A_t_fit_pieces), (A_t_fit_pieces 0, eI cI 6 c_t_fit_pieces_least), (A_t_fit 3, eQ cR 6 A_t_fit_rows), (A_t_fit_rows 0, eJ cJ 7 (c_t_fit_rows 0)), (A_t_fit_rows 1, eJ cJ 7 (c_t_fit_rows 1)), (A_t_fit_rows 2, eJ cJ 7 (c_t_fit_rows 2)), (A_t_fit_rows 3, eJ cJ 7 (c_t_fit_rows 3)), (A_t_fit_rows 4, eJ cJ 7 (c_t_fit_rows 4)), (A_t_fit_rows 5, eJ cJ 7 (c_t_fit_rows 5)), (A_t_fit 4, eJ cJ 6 c_t_fit_surplus), (h_t, oM A_t), (A_t 0, oW A_t_now c_t_now_knots c_t_now_flows c_t_now_readSet)]) Γ (fun sz => mX4_isPart (l := l) (D := D) (sz := sz) (cI := cI) (cJ := cJ) (cZ := cZ) (cW := cW) (cR := cR)  (hf := e5)) eX4_isPart ggX4_fall_X4_isPart (by decide +kernel) (by decide +kernel) (by decide +kernel) rfl rfl (Nat.le_of_ble_eq_true rfl) ⟨Nat.le_of_ble_eq_true rfl, Nat.le_of_ble_eq_true rfl⟩ dX4_fall_9 [] [0, 1, 2, 3, 4, 5, 6, 7, 8, 9, 10, 11, 12, 13, 14, 15, 16, 17, 18, 19, 20] rfl rfl rfl rfl (by decide) rfl ?_
    refine g_if_eq Γ 26 dX4_fall_12 (by decide) (fun c6 => ?_) (fun c6 => ?_)
    · have hf := ya_if1 c6 hf
      refine g_ldc2 (v := (-1)) Γ dX4_fall_26 (by decide +kernel) ?_
      cases hf
      exact g_lret Γ hr dX4_fall_29 [19, 20, 0, 1, 2, 3, 4, 5, 6, 7, 8, 9, 10, 11, 12, 13, 14, 15, 16, 17, 18] rfl rfl
    · have hf := ya_if2 c6 hf
      refine g_aload_n Γ 0 dX4_fall_15 rfl ?_
      obtain ⟨⟨v7, v8⟩, e9, hf⟩ := ya_ob hf
      refine g_vi (q := (RX4, TX4, 7)) (wr := [(A_t_now 2, eI cI 10 c_t_now_reading), (A_t_now 3, eI cI 10 c_t_now_miss), (A_t 3, oF A_t_fit c_t_fit_unread c_t_fit_below), (A_t_fit 0, oG A_t_fit_heaps), (A_t_fit_heaps 0, eI cI 6 c_t_fit_heaps_least), (A_t_fit 1, oG A_t_fit_pieces), (A_t_fit_pieces 0, eI cI 6 c_t_fit_pieces_least), (A_t_fit 3, eQ cR 6 A_t_fit_rows), (A_t_fit_rows 0, eJ cJ 7 (c_t_fit_rows 0)), (A_t_fit_rows 1, eJ cJ 7 (c_t_fit_rows 1)), (A_t_fit_rows 2, eJ cJ 7 (c_t_fit_rows 2)), (A_t_fit_rows 3, eJ cJ 7 (c_t_fit_rows 3)), (A_t_fit_rows 4, eJ cJ 7 (c_t_fit_rows 4)), (A_t_fit_rows 5, eJ cJ 7 (c_t_fit_rows 5)), (A_t_fit 4, eJ cJ 6 c_t_fit_surplus)]) (ws' := [(A_t_now 2, eI cI 10 c_t_now_reading), (A_t_now 3, eI cI 10 c_t_now_miss), (A_t 3, oF A_t_fit c_t_fit_unread c_t_fit_below), (A_t_fit 0, oG A_t_fit_heaps), (A_t_fit_heaps 0, eI cI 6 c_t_fit_heaps_least), (A_t_fit 1, oG A_t_fit_pieces), (A_t_fit_pieces 0, eI cI 6 c_t_fit_pieces_least), (A_t_fit 3, eQ cR 6 A_t_fit_rows), (A_t_fit_rows 0, eJ cJ 7 (c_t_fit_rows 0)), (A_t_fit_rows 1, eJ cJ 7 (c_t_fit_rows 1)), (A_t_fit_rows 2, eJ cJ 7 (c_t_fit_rows 2)), (A_t_fit_rows 3, eJ cJ 7 (c_t_fit_rows 3)), (A_t_fit_rows 4, eJ cJ 7 (c_t_fit_rows 4)), (A_t_fit_rows 5, eJ cJ 7 (c_t_fit_rows 5)), (A_t_fit 4, eJ cJ 6 c_t_fit_surplus), (h_t, oM A_t), (A_t 0, oW A_t_now c_t_now_knots c_t_now_flows c_t_now_readSet), (A_t_now 0, eI cI 10 c_t_now_from), (A_t_now 1, eI cI 10 c_t_now_to), (A_t 2, oG A_t_groups), (A_t_groups 0, eI cI 6 v8)]) Γ (fun sz => mX4_spareSet (l := l) (D := D) (sz := sz) (cI := cI) (cJ := cJ) (cZ := cZ) (cW := cW) (cR := cR) (h_t := h_t) (A_t := A_t) (A_t_now := A_t_now) (A_t_groups := A_t_groups) (hf := e9)) eX4_spareSet gX4_fall_X4_spareSet rfl rfl 0 rfl rfl rfl (Nat.le_of_ble_eq_true rfl) ⟨Nat.le_of_ble_eq_true rfl, Nat.le_of_ble_eq_true rfl⟩ dX4_fall_16 [19, 20, 0, 1, 4, 5] [2, 3, 6, 7, 8, 9, 10, 11, 12, 13, 14, 15, 16, 17, 18] rfl rfl rfl rfl (by decide) rfl ?_
      refine g_iload_n Γ 1 dX4_fall_19 rfl ?_
      obtain ⟨v10, e11, hf⟩ := ya_ob hf
      refine g_si (wr := [(A_t_now 2, eI cI 10 c_t_now_reading), (A_t_now 3, eI cI 10 c_t_now_miss), (A_t 3, oF A_t_fit c_t_fit_unread c_t_fit_below), (A_t_fit 0, oG A_t_fit_heaps), (A_t_fit_heaps 0, eI cI 6 c_t_fit_heaps_least), (A_t_fit 1, oG A_t_fit_pieces), (A_t_fit_pieces 0, eI cI 6 c_t_fit_pieces_least), (A_t_fit 3, eQ cR 6 A_t_fit_rows), (A_t_fit_rows 0, eJ cJ 7 (c_t_fit_rows 0)), (A_t_fit_rows 1, eJ cJ 7 (c_t_fit_rows 1)), (A_t_fit_rows 2, eJ cJ 7 (c_t_fit_rows 2)), (A_t_fit_rows 3, eJ cJ 7 (c_t_fit_rows 3)), (A_t_fit_rows 4, eJ cJ 7 (c_t_fit_rows 4)), (A_t_fit_rows 5, eJ cJ 7 (c_t_fit_rows 5)), (A_t_fit 4, eJ cJ 6 c_t_fit_surplus), (h_t, oM A_t), (A_t 0, oW A_t_now c_t_now_knots c_t_now_flows c_t_now_readSet), (A_t_now 0, eI cI 10 c_t_now_from), (A_t_now 1, eI cI 10 c_t_now_to), (A_t 2, oG A_t_groups), (A_t_groups 0, eI cI 6 v8)]) (ws' := [(A_t_now 2, eI cI 10 c_t_now_reading), (A_t_now 3, eI cI 10 c_t_now_miss), (A_t 3, oF A_t_fit c_t_fit_unread c_t_fit_below), (A_t_fit 0, oG A_t_fit_heaps), (A_t_fit_heaps 0, eI cI 6 c_t_fit_heaps_least), (A_t_fit 1, oG A_t_fit_pieces), (A_t_fit_pieces 0, eI cI 6 c_t_fit_pieces_least), (A_t_fit 3, eQ cR 6 A_t_fit_rows), (A_t_fit_rows 0, eJ cJ 7 (c_t_fit_rows 0)), (A_t_fit_rows 1, eJ cJ 7 (c_t_fit_rows 1)), (A_t_fit_rows 2, eJ cJ 7 (c_t_fit_rows 2)), (A_t_fit_rows 3, eJ cJ 7 (c_t_fit_rows 3)), (A_t_fit_rows 4, eJ cJ 7 (c_t_fit_rows 4)), (A_t_fit_rows 5, eJ cJ 7 (c_t_fit_rows 5)), (A_t_fit 4, eJ cJ 6 c_t_fit_surplus), (h_t, oM A_t), (A_t 0, oW A_t_now c_t_now_knots c_t_now_flows c_t_now_readSet), (A_t_now 0, eI cI 10 c_t_now_from), (A_t_now 1, eI cI 10 c_t_now_to), (A_t 2, oG A_t_groups), (A_t_groups 0, eI cI 6 v8)]) Γ (fun sz => mX4_holds (l := l) (D := D) (sz := sz) (cI := cI) (cJ := cJ) (cZ := cZ) (cW := cW) (cR := cR)  (hf := e11)) eX4_holds ggX4_fall_X4_holds (by decide +kernel) (by decide +kernel) (by decide +kernel) rfl rfl (Nat.le_of_ble_eq_true rfl) ⟨Nat.le_of_ble_eq_true rfl, Nat.le_of_ble_eq_true rfl⟩ dX4_fall_20 [] [0, 1, 2, 3, 4, 5, 6, 7, 8, 9, 10, 11, 12, 13, 14, 15, 16, 17, 18, 19, 20] rfl rfl rfl rfl (by decide) rfl ?_
      refine g_if_ne Γ 30 dX4_fall_23 (by decide) (fun c12 => ?_) (fun c12 => ?_)
      · have hf := ya_if2 c12 hf
        refine g_aload_n Γ 0 dX4_fall_30 rfl ?_
        refine g_get Γ fX4_fall_33 15 rfl rfl dX4_fall_31 ?_
        refine g_aload_n Γ 0 dX4_fall_34 rfl ?_
        refine g_get Γ fX4_fall_10 15 rfl rfl dX4_fall_35 ?_
        refine g_aload_n Γ 0 dX4_fall_38 rfl ?_
        refine g_get Γ fX4_fall_10 15 rfl rfl dX4_fall_39 ?_
        obtain ⟨v13, e14, hf⟩ := ya_ob hf
        refine g_vi (q := (RX3, TX3, 11)) (wr := [(A_t_now 2, eI cI 10 c_t_now_reading), (A_t_now 3, eI cI 10 c_t_now_miss), (A_t 3, oF A_t_fit c_t_fit_unread c_t_fit_below), (A_t_fit 0, oG A_t_fit_heaps), (A_t_fit_heaps 0, eI cI 6 c_t_fit_heaps_least), (A_t_fit 1, oG A_t_fit_pieces), (A_t_fit_pieces 0, eI cI 6 c_t_fit_pieces_least), (A_t_fit 3, eQ cR 6 A_t_fit_rows), (A_t_fit_rows 0, eJ cJ 7 (c_t_fit_rows 0)), (A_t_fit_rows 1, eJ cJ 7 (c_t_fit_rows 1)), (A_t_fit_rows 2, eJ cJ 7 (c_t_fit_rows 2)), (A_t_fit_rows 3, eJ cJ 7 (c_t_fit_rows 3)), (A_t_fit_rows 4, eJ cJ 7 (c_t_fit_rows 4)), (A_t_fit_rows 5, eJ cJ 7 (c_t_fit_rows 5)), (A_t_fit 4, eJ cJ 6 c_t_fit_surplus), (h_t, oM A_t), (A_t_now 0, eI cI 10 c_t_now_from), (A_t_now 1, eI cI 10 c_t_now_to), (A_t 2, oG A_t_groups), (A_t_groups 0, eI cI 6 v8)]) (ws' := [(A_t_now 2, eI cI 10 c_t_now_reading), (A_t_now 3, eI cI 10 c_t_now_miss), (A_t 3, oF A_t_fit c_t_fit_unread c_t_fit_below), (A_t_fit 0, oG A_t_fit_heaps), (A_t_fit_heaps 0, eI cI 6 c_t_fit_heaps_least), (A_t_fit 1, oG A_t_fit_pieces), (A_t_fit_pieces 0, eI cI 6 c_t_fit_pieces_least), (A_t_fit 3, eQ cR 6 A_t_fit_rows), (A_t_fit_rows 0, eJ cJ 7 (c_t_fit_rows 0)), (A_t_fit_rows 1, eJ cJ 7 (c_t_fit_rows 1)), (A_t_fit_rows 2, eJ cJ 7 (c_t_fit_rows 2)), (A_t_fit_rows 3, eJ cJ 7 (c_t_fit_rows 3)), (A_t_fit_rows 4, eJ cJ 7 (c_t_fit_rows 4)), (A_t_fit_rows 5, eJ cJ 7 (c_t_fit_rows 5)), (A_t_fit 4, eJ cJ 6 c_t_fit_surplus), (h_t, oM A_t), (A_t_now 0, eI cI 10 c_t_now_from), (A_t_now 1, eI cI 10 c_t_now_to), (A_t 2, oG A_t_groups), (A_t_groups 0, eI cI 6 v8), (A_t 0, oW A_t_now c_t_now_knots c_t_now_flows c_t_now_readSet)]) Γ (fun sz => mX3_unreadSet (l := l) (D := D) (sz := sz) (cI := cI) (cJ := cJ) (cZ := cZ) (cW := cW) (cR := cR) (h_t := A_t 0) (A_t := A_t_now) (hf := e14)) eX3_unreadSet gX4_fall_X3_unreadSet rfl rfl 0 rfl rfl rfl (Nat.le_of_ble_eq_true rfl) ⟨Nat.le_of_ble_eq_true rfl, Nat.le_of_ble_eq_true rfl⟩ dX4_fall_42 [16] [0, 1, 2, 3, 4, 5, 6, 7, 8, 9, 10, 11, 12, 13, 14, 15, 17, 18, 19, 20] rfl rfl rfl rfl (by decide) rfl ?_
        obtain ⟨⟨v15, v16, v17, v18, v19, v20⟩, e21, hf⟩ := ya_ob hf
        refine g_vv (q := (RX0, TX0, 7)) (wr := [(h_t, oM A_t), (A_t 2, oG A_t_groups), (A_t_groups 0, eI cI 6 v8)]) (ws' := [(h_t, oM A_t), (A_t 2, oG A_t_groups), (A_t_groups 0, eI cI 6 v8), (A_t 3, oF A_t_fit v15 v16), (A_t_fit 0, oG A_t_fit_heaps), (A_t_fit_heaps 0, eI cI 6 v17), (A_t_fit 1, oG A_t_fit_pieces), (A_t_fit_pieces 0, eI cI 6 v18), (A_t_fit 3, eQ cR 6 A_t_fit_rows), (A_t_fit_rows 0, eJ cJ 7 (v19 0)), (A_t_fit_rows 1, eJ cJ 7 (v19 1)), (A_t_fit_rows 2, eJ cJ 7 (v19 2)), (A_t_fit_rows 3, eJ cJ 7 (v19 3)), (A_t_fit_rows 4, eJ cJ 7 (v19 4)), (A_t_fit_rows 5, eJ cJ 7 (v19 5)), (A_t_fit 4, eJ cJ 6 v20), (A_t 0, oW A_t_now c_t_now_knots c_t_now_flows c_t_now_readSet), (A_t_now 0, eI cI 10 c_t_now_from), (A_t_now 1, eI cI 10 c_t_now_to), (A_t_now 2, eI cI 10 c_t_now_reading), (A_t_now 3, eI cI 10 c_t_now_miss)]) Γ (fun sz => mX0_solve (l := l) (D := D) (sz := sz) (cI := cI) (cJ := cJ) (cZ := cZ) (cW := cW) (cR := cR) (h_t := A_t 3) (h_w := A_t 0) (A_t := A_t_fit) (A_t_heaps := A_t_fit_heaps) (A_t_pieces := A_t_fit_pieces) (A_t_rows := A_t_fit_rows) (A_w := A_t_now) (hf := e21)) eX0_solve gX4_fall_X0_solve rfl rfl 0 rfl rfl rfl (Nat.le_of_ble_eq_true rfl) ⟨Nat.le_of_ble_eq_true rfl, Nat.le_of_ble_eq_true rfl⟩ dX4_fall_45 [2, 3, 4, 5, 6, 7, 8, 9, 10, 11, 12, 13, 14, 20, 16, 17, 0, 1] [15, 18, 19] rfl rfl rfl rfl (by decide) rfl ?_
        refine g_aload_n Γ 0 dX4_fall_48 rfl ?_
        refine g_get Γ fX4_fall_33 0 rfl rfl dX4_fall_49 ?_
        refine g_aload_n Γ 0 dX4_fall_52 rfl ?_
        refine g_get Γ fX4_fall_10 0 rfl rfl dX4_fall_53 ?_
        refine g_get Γ fX4_fall_117 16 rfl rfl dX4_fall_56 ?_
        obtain ⟨v22, e23, hf⟩ := ya_ob hf
        refine g_vl (q := (RX0, TX0, 7)) (wr := [(h_t, oM A_t), (A_t 2, oG A_t_groups), (A_t_groups 0, eI cI 6 v8), (A_t_fit 0, oG A_t_fit_heaps), (A_t_fit_heaps 0, eI cI 6 v17), (A_t_fit 1, oG A_t_fit_pieces), (A_t_fit_pieces 0, eI cI 6 v18), (A_t 0, oW A_t_now c_t_now_knots c_t_now_flows c_t_now_readSet), (A_t_now 0, eI cI 10 c_t_now_from), (A_t_now 1, eI cI 10 c_t_now_to), (A_t_now 2, eI cI 10 c_t_now_reading), (A_t_now 3, eI cI 10 c_t_now_miss)]) (ws' := [(h_t, oM A_t), (A_t 2, oG A_t_groups), (A_t_groups 0, eI cI 6 v8), (A_t_fit 0, oG A_t_fit_heaps), (A_t_fit_heaps 0, eI cI 6 v17), (A_t_fit 1, oG A_t_fit_pieces), (A_t_fit_pieces 0, eI cI 6 v18), (A_t 0, oW A_t_now c_t_now_knots c_t_now_flows c_t_now_readSet), (A_t_now 0, eI cI 10 c_t_now_from), (A_t_now 1, eI cI 10 c_t_now_to), (A_t_now 2, eI cI 10 c_t_now_reading), (A_t_now 3, eI cI 10 c_t_now_miss), (A_t 3, oF A_t_fit v15 v16), (A_t_fit 3, eQ cR 6 A_t_fit_rows), (A_t_fit_rows 0, eJ cJ 7 (v19 0)), (A_t_fit_rows 1, eJ cJ 7 (v19 1)), (A_t_fit_rows 2, eJ cJ 7 (v19 2)), (A_t_fit_rows 3, eJ cJ 7 (v19 3)), (A_t_fit_rows 4, eJ cJ 7 (v19 4)), (A_t_fit_rows 5, eJ cJ 7 (v19 5)), (A_t_fit 4, eJ cJ 6 v20)]) Γ (fun sz => mX0_testAbove (l := l) (D := D) (sz := sz) (cI := cI) (cJ := cJ) (cZ := cZ) (cW := cW) (cR := cR) (h_t := A_t 3) (A_t := A_t_fit) (A_t_rows := A_t_fit_rows) (hf := e23)) eX0_testAbove gX4_fall_X0_testAbove rfl rfl 0 rfl rfl rfl (Nat.le_of_ble_eq_true rfl) ⟨Nat.le_of_ble_eq_true rfl, Nat.le_of_ble_eq_true rfl⟩ dX4_fall_59 [3, 8, 9, 10, 11, 12, 13, 14, 15] [0, 1, 2, 4, 5, 6, 7, 16, 17, 18, 19, 20] rfl rfl rfl rfl (by decide) rfl ?_
        refine g_lstore_n (lv' := [(3, .long v22), (0, .ref h_t), (1, .int x1), (2, .int x2)]) Γ dX4_fall_62 (by decide) rfl ?_
        refine g_aload_n Γ 1 dX4_fall_63 rfl ?_
        refine g_get Γ fX4_fall_33 0 rfl rfl dX4_fall_64 ?_
        refine g_get Γ fX4_fall_168 12 rfl rfl dX4_fall_67 ?_
        refine g_lstore (lv' := [(5, .long v16), (3, .long v22), (0, .ref h_t), (1, .int x1), (2, .int x2)]) Γ dX4_fall_70 (by decide) rfl ?_
        refine g_aload_n Γ 2 dX4_fall_72 rfl ?_
        refine g_get Γ fX4_fall_33 0 rfl rfl dX4_fall_73 ?_
        refine g_aload_n Γ 2 dX4_fall_76 rfl ?_
        refine g_get Γ fX4_fall_10 0 rfl rfl dX4_fall_77 ?_
        refine g_aload_n Γ 2 dX4_fall_80 rfl ?_
        refine g_get Γ fX4_fall_10 0 rfl rfl dX4_fall_81 ?_
        obtain ⟨v24, e25, hf⟩ := ya_ob hf
        refine g_vi (q := (RX3, TX3, 11)) (wr := [(h_t, oM A_t), (A_t 2, oG A_t_groups), (A_t_groups 0, eI cI 6 v8), (A_t_fit 0, oG A_t_fit_heaps), (A_t_fit_heaps 0, eI cI 6 v17), (A_t_fit 1, oG A_t_fit_pieces), (A_t_fit_pieces 0, eI cI 6 v18), (A_t_now 0, eI cI 10 c_t_now_from), (A_t_now 1, eI cI 10 c_t_now_to), (A_t_now 2, eI cI 10 c_t_now_reading), (A_t_now 3, eI cI 10 c_t_now_miss), (A_t 3, oF A_t_fit v15 v16), (A_t_fit 3, eQ cR 6 A_t_fit_rows), (A_t_fit_rows 0, eJ cJ 7 (v19 0)), (A_t_fit_rows 1, eJ cJ 7 (v19 1)), (A_t_fit_rows 2, eJ cJ 7 (v19 2)), (A_t_fit_rows 3, eJ cJ 7 (v19 3)), (A_t_fit_rows 4, eJ cJ 7 (v19 4)), (A_t_fit_rows 5, eJ cJ 7 (v19 5)), (A_t_fit 4, eJ cJ 6 v20)]) (ws' := [(h_t, oM A_t), (A_t 2, oG A_t_groups), (A_t_groups 0, eI cI 6 v8), (A_t_fit 0, oG A_t_fit_heaps), (A_t_fit_heaps 0, eI cI 6 v17), (A_t_fit 1, oG A_t_fit_pieces), (A_t_fit_pieces 0, eI cI 6 v18), (A_t_now 0, eI cI 10 c_t_now_from), (A_t_now 1, eI cI 10 c_t_now_to), (A_t_now 2, eI cI 10 c_t_now_reading), (A_t_now 3, eI cI 10 c_t_now_miss), (A_t 3, oF A_t_fit v15 v16), (A_t_fit 3, eQ cR 6 A_t_fit_rows), (A_t_fit_rows 0, eJ cJ 7 (v19 0)), (A_t_fit_rows 1, eJ cJ 7 (v19 1)), (A_t_fit_rows 2, eJ cJ 7 (v19 2)), (A_t_fit_rows 3, eJ cJ 7 (v19 3)), (A_t_fit_rows 4, eJ cJ 7 (v19 4)), (A_t_fit_rows 5, eJ cJ 7 (v19 5)), (A_t_fit 4, eJ cJ 6 v20), (A_t 0, oW A_t_now c_t_now_knots c_t_now_flows c_t_now_readSet)]) Γ (fun sz => mX3_unreadSet (l := l) (D := D) (sz := sz) (cI := cI) (cJ := cJ) (cZ := cZ) (cW := cW) (cR := cR) (h_t := A_t 0) (A_t := A_t_now) (hf := e25)) eX3_unreadSet gX4_fall_X3_unreadSet rfl rfl 0 rfl rfl rfl (Nat.le_of_ble_eq_true rfl) ⟨Nat.le_of_ble_eq_true rfl, Nat.le_of_ble_eq_true rfl⟩ dX4_fall_84 [7] [0, 1, 2, 3, 4, 5, 6, 8, 9, 10, 11, 12, 13, 14, 15, 16, 17, 18, 19, 20] rfl rfl rfl rfl (by decide) rfl ?_
        refine g_iload_n Γ 3 dX4_fall_87 rfl ?_
        obtain ⟨v26, e27, hf⟩ := ya_ob hf
        refine g_si (wr := [(h_t, oM A_t), (A_t 2, oG A_t_groups), (A_t_groups 0, eI cI 6 v8), (A_t_fit 0, oG A_t_fit_heaps), (A_t_fit_heaps 0, eI cI 6 v17), (A_t_fit 1, oG A_t_fit_pieces), (A_t_fit_pieces 0, eI cI 6 v18), (A_t_now 0, eI cI 10 c_t_now_from), (A_t_now 1, eI cI 10 c_t_now_to), (A_t_now 2, eI cI 10 c_t_now_reading), (A_t_now 3, eI cI 10 c_t_now_miss), (A_t 3, oF A_t_fit v15 v16), (A_t_fit 3, eQ cR 6 A_t_fit_rows), (A_t_fit_rows 0, eJ cJ 7 (v19 0)), (A_t_fit_rows 1, eJ cJ 7 (v19 1)), (A_t_fit_rows 2, eJ cJ 7 (v19 2)), (A_t_fit_rows 3, eJ cJ 7 (v19 3)), (A_t_fit_rows 4, eJ cJ 7 (v19 4)), (A_t_fit_rows 5, eJ cJ 7 (v19 5)), (A_t_fit 4, eJ cJ 6 v20), (A_t 0, oW A_t_now c_t_now_knots c_t_now_flows c_t_now_readSet)]) (ws' := [(h_t, oM A_t), (A_t 2, oG A_t_groups), (A_t_groups 0, eI cI 6 v8), (A_t_fit 0, oG A_t_fit_heaps), (A_t_fit_heaps 0, eI cI 6 v17), (A_t_fit 1, oG A_t_fit_pieces), (A_t_fit_pieces 0, eI cI 6 v18), (A_t_now 0, eI cI 10 c_t_now_from), (A_t_now 1, eI cI 10 c_t_now_to), (A_t_now 2, eI cI 10 c_t_now_reading), (A_t_now 3, eI cI 10 c_t_now_miss), (A_t 3, oF A_t_fit v15 v16), (A_t_fit 3, eQ cR 6 A_t_fit_rows), (A_t_fit_rows 0, eJ cJ 7 (v19 0)), (A_t_fit_rows 1, eJ cJ 7 (v19 1)), (A_t_fit_rows 2, eJ cJ 7 (v19 2)), (A_t_fit_rows 3, eJ cJ 7 (v19 3)), (A_t_fit_rows 4, eJ cJ 7 (v19 4)), (A_t_fit_rows 5, eJ cJ 7 (v19 5)), (A_t_fit 4, eJ cJ 6 v20), (A_t 0, oW A_t_now c_t_now_knots c_t_now_flows c_t_now_readSet)]) Γ (fun sz => mX4_bit (l := l) (D := D) (sz := sz) (cI := cI) (cJ := cJ) (cZ := cZ) (cW := cW) (cR := cR)  (hf := e27)) eX4_bit ggX4_fall_X4_bit (by decide +kernel) (by decide +kernel) (by decide +kernel) rfl rfl (Nat.le_of_ble_eq_true rfl) ⟨Nat.le_of_ble_eq_true rfl, Nat.le_of_ble_eq_true rfl⟩ dX4_fall_88 [] [0, 1, 2, 3, 4, 5, 6, 7, 8, 9, 10, 11, 12, 13, 14, 15, 16, 17, 18, 19, 20] rfl rfl rfl rfl (by decide) rfl ?_
        refine g_ior Γ dX4_fall_91 ?_
        obtain ⟨⟨v28, v29, v30, v31, v32, v33⟩, e34, hf⟩ := ya_ob hf
        refine g_vv (q := (RX0, TX0, 7)) (wr := [(h_t, oM A_t), (A_t 2, oG A_t_groups), (A_t_groups 0, eI cI 6 v8)]) (ws' := [(h_t, oM A_t), (A_t 2, oG A_t_groups), (A_t_groups 0, eI cI 6 v8), (A_t 3, oF A_t_fit v28 v29), (A_t_fit 0, oG A_t_fit_heaps), (A_t_fit_heaps 0, eI cI 6 v30), (A_t_fit 1, oG A_t_fit_pieces), (A_t_fit_pieces 0, eI cI 6 v31), (A_t_fit 3, eQ cR 6 A_t_fit_rows), (A_t_fit_rows 0, eJ cJ 7 (v32 0)), (A_t_fit_rows 1, eJ cJ 7 (v32 1)), (A_t_fit_rows 2, eJ cJ 7 (v32 2)), (A_t_fit_rows 3, eJ cJ 7 (v32 3)), (A_t_fit_rows 4, eJ cJ 7 (v32 4)), (A_t_fit_rows 5, eJ cJ 7 (v32 5)), (A_t_fit 4, eJ cJ 6 v33), (A_t 0, oW A_t_now c_t_now_knots c_t_now_flows c_t_now_readSet), (A_t_now 0, eI cI 10 c_t_now_from), (A_t_now 1, eI cI 10 c_t_now_to), (A_t_now 2, eI cI 10 c_t_now_reading), (A_t_now 3, eI cI 10 c_t_now_miss)]) Γ (fun sz => mX0_solve (l := l) (D := D) (sz := sz) (cI := cI) (cJ := cJ) (cZ := cZ) (cW := cW) (cR := cR) (h_t := A_t 3) (h_w := A_t 0) (A_t := A_t_fit) (A_t_heaps := A_t_fit_heaps) (A_t_pieces := A_t_fit_pieces) (A_t_rows := A_t_fit_rows) (A_w := A_t_now) (hf := e34)) eX0_solve gX4_fall_X0_solve rfl rfl 0 rfl rfl rfl (Nat.le_of_ble_eq_true rfl) ⟨Nat.le_of_ble_eq_true rfl, Nat.le_of_ble_eq_true rfl⟩ dX4_fall_92 [11, 3, 4, 5, 6, 12, 13, 14, 15, 16, 17, 18, 19, 20, 7, 8, 9, 10] [0, 1, 2] rfl rfl rfl rfl (by decide) rfl ?_
        refine g_aload_n Γ 2 dX4_fall_95 rfl ?_
        refine g_get Γ fX4_fall_33 0 rfl rfl dX4_fall_96 ?_
        refine g_aload_n Γ 2 dX4_fall_99 rfl ?_
        refine g_get Γ fX4_fall_10 0 rfl rfl dX4_fall_100 ?_
        refine g_get Γ fX4_fall_117 16 rfl rfl dX4_fall_103 ?_
        obtain ⟨v35, e36, hf⟩ := ya_ob hf
        refine g_vl (q := (RX0, TX0, 7)) (wr := [(h_t, oM A_t), (A_t 2, oG A_t_groups), (A_t_groups 0, eI cI 6 v8), (A_t_fit 0, oG A_t_fit_heaps), (A_t_fit_heaps 0, eI cI 6 v30), (A_t_fit 1, oG A_t_fit_pieces), (A_t_fit_pieces 0, eI cI 6 v31), (A_t 0, oW A_t_now c_t_now_knots c_t_now_flows c_t_now_readSet), (A_t_now 0, eI cI 10 c_t_now_from), (A_t_now 1, eI cI 10 c_t_now_to), (A_t_now 2, eI cI 10 c_t_now_reading), (A_t_now 3, eI cI 10 c_t_now_miss)]) (ws' := [(h_t, oM A_t), (A_t 2, oG A_t_groups), (A_t_groups 0, eI cI 6 v8), (A_t_fit 0, oG A_t_fit_heaps), (A_t_fit_heaps 0, eI cI 6 v30), (A_t_fit 1, oG A_t_fit_pieces), (A_t_fit_pieces 0, eI cI 6 v31), (A_t 0, oW A_t_now c_t_now_knots c_t_now_flows c_t_now_readSet), (A_t_now 0, eI cI 10 c_t_now_from), (A_t_now 1, eI cI 10 c_t_now_to), (A_t_now 2, eI cI 10 c_t_now_reading), (A_t_now 3, eI cI 10 c_t_now_miss), (A_t 3, oF A_t_fit v28 v29), (A_t_fit 3, eQ cR 6 A_t_fit_rows), (A_t_fit_rows 0, eJ cJ 7 (v32 0)), (A_t_fit_rows 1, eJ cJ 7 (v32 1)), (A_t_fit_rows 2, eJ cJ 7 (v32 2)), (A_t_fit_rows 3, eJ cJ 7 (v32 3)), (A_t_fit_rows 4, eJ cJ 7 (v32 4)), (A_t_fit_rows 5, eJ cJ 7 (v32 5)), (A_t_fit 4, eJ cJ 6 v33)]) Γ (fun sz => mX0_testAbove (l := l) (D := D) (sz := sz) (cI := cI) (cJ := cJ) (cZ := cZ) (cW := cW) (cR := cR) (h_t := A_t 3) (A_t := A_t_fit) (A_t_rows := A_t_fit_rows) (hf := e36)) eX0_testAbove gX4_fall_X0_testAbove rfl rfl 0 rfl rfl rfl (Nat.le_of_ble_eq_true rfl) ⟨Nat.le_of_ble_eq_true rfl, Nat.le_of_ble_eq_true rfl⟩ dX4_fall_106 [3, 8, 9, 10, 11, 12, 13, 14, 15] [0, 1, 2, 4, 5, 6, 7, 16, 17, 18, 19, 20] rfl rfl rfl rfl (by decide) rfl ?_
        refine g_lstore (lv' := [(7, .long v35), (5, .long v16), (3, .long v22), (0, .ref h_t), (1, .int x1), (2, .int x2)]) Γ dX4_fall_109 (by decide) rfl ?_
        refine g_lload_n Γ 2 dX4_fall_111 rfl ?_
        refine g_aload_n Γ 3 dX4_fall_112 rfl ?_
        refine g_get Γ fX4_fall_33 0 rfl rfl dX4_fall_113 ?_
        refine g_get Γ fX4_fall_168 12 rfl rfl dX4_fall_116 ?_
        refine g_lmul Γ dX4_fall_119 ?_
        refine g_lload Γ 0 dX4_fall_120 rfl ?_
        refine g_lload Γ 1 dX4_fall_122 rfl ?_
        refine g_lmul Γ dX4_fall_124 ?_
        refine g_lsub Γ dX4_fall_125 ?_
        refine g_lload Γ 1 dX4_fall_126 rfl ?_
        refine g_aload_n Γ 3 dX4_fall_128 rfl ?_
        refine g_get Γ fX4_fall_33 0 rfl rfl dX4_fall_129 ?_
        refine g_get Γ fX4_fall_168 12 rfl rfl dX4_fall_132 ?_
        refine g_lmul Γ dX4_fall_135 ?_
        refine g_iload_n Γ 5 dX4_fall_136 rfl ?_
        obtain ⟨v37, e38, hf⟩ := ya_ob hf
        refine g_sl (wr := [(h_t, oM A_t), (A_t 2, oG A_t_groups), (A_t_groups 0, eI cI 6 v8), (A_t_fit 0, oG A_t_fit_heaps), (A_t_fit_heaps 0, eI cI 6 v30), (A_t_fit 1, oG A_t_fit_pieces), (A_t_fit_pieces 0, eI cI 6 v31), (A_t 0, oW A_t_now c_t_now_knots c_t_now_flows c_t_now_readSet), (A_t_now 0, eI cI 10 c_t_now_from), (A_t_now 1, eI cI 10 c_t_now_to), (A_t_now 2, eI cI 10 c_t_now_reading), (A_t_now 3, eI cI 10 c_t_now_miss), (A_t 3, oF A_t_fit v28 v29), (A_t_fit 3, eQ cR 6 A_t_fit_rows), (A_t_fit_rows 0, eJ cJ 7 (v32 0)), (A_t_fit_rows 1, eJ cJ 7 (v32 1)), (A_t_fit_rows 2, eJ cJ 7 (v32 2)), (A_t_fit_rows 3, eJ cJ 7 (v32 3)), (A_t_fit_rows 4, eJ cJ 7 (v32 4)), (A_t_fit_rows 5, eJ cJ 7 (v32 5)), (A_t_fit 4, eJ cJ 6 v33)]) (ws' := [(h_t, oM A_t), (A_t 2, oG A_t_groups), (A_t_groups 0, eI cI 6 v8), (A_t_fit 0, oG A_t_fit_heaps), (A_t_fit_heaps 0, eI cI 6 v30), (A_t_fit 1, oG A_t_fit_pieces), (A_t_fit_pieces 0, eI cI 6 v31), (A_t 0, oW A_t_now c_t_now_knots c_t_now_flows c_t_now_readSet), (A_t_now 0, eI cI 10 c_t_now_from), (A_t_now 1, eI cI 10 c_t_now_to), (A_t_now 2, eI cI 10 c_t_now_reading), (A_t_now 3, eI cI 10 c_t_now_miss), (A_t 3, oF A_t_fit v28 v29), (A_t_fit 3, eQ cR 6 A_t_fit_rows), (A_t_fit_rows 0, eJ cJ 7 (v32 0)), (A_t_fit_rows 1, eJ cJ 7 (v32 1)), (A_t_fit_rows 2, eJ cJ 7 (v32 2)), (A_t_fit_rows 3, eJ cJ 7 (v32 3)), (A_t_fit_rows 4, eJ cJ 7 (v32 4)), (A_t_fit_rows 5, eJ cJ 7 (v32 5)), (A_t_fit 4, eJ cJ 6 v33)]) Γ (fun sz => mX4_lowestTerms (l := l) (D := D) (sz := sz) (cI := cI) (cJ := cJ) (cZ := cZ) (cW := cW) (cR := cR)  (hf := e38)) eX4_lowestTerms ggX4_fall_X4_lowestTerms (by decide +kernel) (by decide +kernel) (by decide +kernel) rfl rfl (Nat.le_of_ble_eq_true rfl) ⟨Nat.le_of_ble_eq_true rfl, Nat.le_of_ble_eq_true rfl⟩ dX4_fall_137 [] [0, 1, 2, 3, 4, 5, 6, 7, 8, 9, 10, 11, 12, 13, 14, 15, 16, 17, 18, 19, 20] rfl rfl rfl rfl (by decide) rfl ?_
        cases hf
        exact g_lret Γ hr dX4_fall_140 [0, 7, 8, 9, 10, 11, 1, 2, 12, 3, 4, 5, 6, 13, 14, 15, 16, 17, 18, 19, 20] rfl rfl
      · have hf := ya_if1 c12 hf
        refine g_ldc2 (v := (-1)) Γ dX4_fall_26 (by decide +kernel) ?_
        cases hf
        exact g_lret Γ hr dX4_fall_29 [15, 16, 17, 18, 0, 1, 19, 20, 2, 3, 4, 5, 6, 7, 8, 9, 10, 11, 12, 13, 14] rfl rfl

set_option maxRecDepth 20000 in
theorem ggX4_lie_X4_isFlow : GoodIn wsX4_lie wsX4_isFlow := goodIn_r _ [10, 3, 11, 134, 135, 136, 137, 138, 139, 140, 141, 142, 143, 144, 145, 146, 147, 148, 149, 150, 151] rfl (by decide +kernel)
set_option maxRecDepth 20000 in
theorem gX4_lie_X4_isFlow : GoodIn wsX4_lie (wsV RX4 68 RX4 yX4_isFlow wsX4_isFlow) := goodIn_app (goodIn_of _ (by decide +kernel)) ggX4_lie_X4_isFlow
set_option maxRecDepth 20000 in
theorem ggX4_lie_X4_isPart : GoodIn wsX4_lie wsX4_isPart := goodIn_r _ [14] rfl (by decide +kernel)
set_option maxRecDepth 20000 in
theorem gX4_lie_X4_isPart : GoodIn wsX4_lie (va_wsS RX4 155 yX4_isPart wsX4_isPart) := goodIn_app (goodIn_of _ (by decide +kernel)) ggX4_lie_X4_isPart
set_option maxRecDepth 20000 in
theorem ggX4_lie_X4_spareSet : GoodIn wsX4_lie wsX4_spareSet := goodIn_r _ [18, 19, 3, 11, 20, 21, 22, 23, 24, 25, 26, 27, 28, 29, 30, 31, 9, 32, 33, 34, 35, 36, 37, 38, 39, 40, 41, 42, 43, 44, 45, 46, 47, 48, 49, 50, 51, 52, 53, 54, 55, 56, 57, 58, 59, 60, 61, 62, 63, 64, 65, 66, 134, 135, 136, 137, 138, 139, 140, 141, 142, 143, 144, 145, 146, 147, 148, 149, 150, 151, 159] rfl (by decide +kernel)
set_option maxRecDepth 20000 in
theorem gX4_lie_X4_spareSet : GoodIn wsX4_lie (wsV RX4 134 RX4 yX4_spareSet wsX4_spareSet) := goodIn_app (goodIn_of _ (by decide +kernel)) ggX4_lie_X4_spareSet
set_option maxRecDepth 20000 in
theorem ggX4_lie_X4_holds : GoodIn wsX4_lie wsX4_holds := goodIn_r _ [43] rfl (by decide +kernel)
set_option maxRecDepth 20000 in
theorem gX4_lie_X4_holds : GoodIn wsX4_lie (va_wsS RX4 78 yX4_holds wsX4_holds) := goodIn_app (goodIn_of _ (by decide +kernel)) ggX4_lie_X4_holds
set_option maxRecDepth 20000 in
theorem ggX4_lie_X3_unreadSet : GoodIn wsX4_lie wsX3_unreadSet := goodIn_r _ [24, 25, 26, 27, 28, 23, 29, 30, 31, 9, 32, 141, 142, 143, 144, 145, 146, 147, 148, 149, 150, 151] rfl (by decide +kernel)
set_option maxRecDepth 20000 in
theorem gX4_lie_X3_unreadSet : GoodIn wsX4_lie (wsV RX4 120 RX3 yX3_unreadSet wsX3_unreadSet) := goodIn_app (goodIn_of _ (by decide +kernel)) ggX4_lie_X3_unreadSet
set_option maxRecDepth 20000 in
theorem ggX4_lie_X4_bit : GoodIn wsX4_lie wsX4_bit := goodIn_r _ [32] rfl (by decide +kernel)
set_option maxRecDepth 20000 in
theorem gX4_lie_X4_bit : GoodIn wsX4_lie (va_wsS RX4 185 yX4_bit wsX4_bit) := goodIn_app (goodIn_of _ (by decide +kernel)) ggX4_lie_X4_bit
set_option maxRecDepth 20000 in
theorem ggX4_lie_X0_solve : GoodIn wsX4_lie wsX0_solve := goodIn_r _ [71, 72, 73, 74, 75, 76, 34, 35, 36, 37, 38, 39, 40, 41, 42, 9, 43, 44, 45, 46, 47, 48, 49, 50, 51, 52, 53, 54, 55, 56, 57, 58, 77, 27, 28, 23, 29, 30, 31, 32, 78, 79, 80, 70, 81, 82, 83, 84, 85, 86, 87, 88, 89, 90, 91, 92, 93, 94, 95, 96, 97, 98, 99, 100, 101, 102, 103, 104, 105, 106, 107, 152, 153, 154, 155, 156, 157, 158, 141, 142, 143, 144, 145, 146, 147, 148, 149, 150, 151, 159] rfl (by decide +kernel)
set_option maxRecDepth 20000 in
theorem gX4_lie_X0_solve : GoodIn wsX4_lie (wsV RX4 160 RX0 yX0_solve wsX0_solve) := goodIn_app (goodIn_of _ (by decide +kernel)) ggX4_lie_X0_solve
set_option maxRecDepth 20000 in
theorem ggX4_lie_X0_valueAbove : GoodIn wsX4_lie wsX0_valueAbove := goodIn_r _ [111, 72, 112, 85, 86, 84, 87, 42, 9, 43, 113, 114, 115, 70, 116, 89, 103, 117, 118, 119, 120, 88, 121, 122, 123, 124, 82, 73, 31, 32, 76, 34, 35, 36, 37, 38, 39, 40, 41, 44, 45, 46, 47, 48, 49, 50, 51, 52, 53, 54, 55, 56, 57, 58, 152, 153, 154, 155, 156, 157, 158, 159, 141, 142, 143, 144, 145, 146, 147, 148, 149, 150, 151] rfl (by decide +kernel)
set_option maxRecDepth 20000 in
theorem gX4_lie_X0_valueAbove : GoodIn wsX4_lie (wsV RX4 164 RX0 yX0_valueAbove wsX0_valueAbove) := goodIn_app (goodIn_of _ (by decide +kernel)) ggX4_lie_X0_valueAbove
set_option maxRecDepth 20000 in
theorem ggX4_lie_X4_lowestTerms : GoodIn wsX4_lie wsX4_lowestTerms := goodIn_r _ [127, 128, 129, 54, 130, 1, 131, 132, 9, 133] rfl (by decide +kernel)
set_option maxRecDepth 20000 in
theorem gX4_lie_X4_lowestTerms : GoodIn wsX4_lie (va_wsS RX4 172 yX4_lowestTerms wsX4_lowestTerms) := goodIn_app (goodIn_of _ (by decide +kernel)) ggX4_lie_X4_lowestTerms
theorem dX4_lie_0 : decode cX4_lie 0 = .ok (.aload_n 0, 1) := by decide +kernel
theorem dX4_lie_1 : decode cX4_lie 1 = .ok (.iload_n 1, 1) := by decide +kernel
theorem dX4_lie_2 : decode cX4_lie 2 = .ok (.invokevirtual 68, 3) := by decide +kernel
theorem dX4_lie_5 : decode cX4_lie 5 = .ok (.ifCond .eq 21, 3) := by decide +kernel
theorem dX4_lie_8 : decode cX4_lie 8 = .ok (.iload_n 2, 1) := by decide +kernel
theorem dX4_lie_9 : decode cX4_lie 9 = .ok (.invokestatic 155, 3) := by decide +kernel
theorem dX4_lie_12 : decode cX4_lie 12 = .ok (.ifCond .eq 14, 3) := by decide +kernel
theorem dX4_lie_15 : decode cX4_lie 15 = .ok (.aload_n 0, 1) := by decide +kernel
theorem dX4_lie_16 : decode cX4_lie 16 = .ok (.invokevirtual 134, 3) := by decide +kernel
theorem dX4_lie_19 : decode cX4_lie 19 = .ok (.iload_n 1, 1) := by decide +kernel
theorem dX4_lie_20 : decode cX4_lie 20 = .ok (.invokestatic 78, 3) := by decide +kernel
theorem dX4_lie_23 : decode cX4_lie 23 = .ok (.ifCond .ne 7, 3) := by decide +kernel
theorem dX4_lie_26 : decode cX4_lie 26 = .ok (.ldc2_w 158, 3) := by decide +kernel
theorem dX4_lie_29 : decode cX4_lie 29 = .ok (.lreturn, 1) := by decide +kernel
theorem dX4_lie_30 : decode cX4_lie 30 = .ok (.aload_n 0, 1) := by decide +kernel
theorem dX4_lie_31 : decode cX4_lie 31 = .ok (.getfield 33, 3) := by decide +kernel
theorem dX4_lie_34 : decode cX4_lie 34 = .ok (.aload_n 0, 1) := by decide +kernel
theorem dX4_lie_35 : decode cX4_lie 35 = .ok (.getfield 10, 3) := by decide +kernel
theorem dX4_lie_38 : decode cX4_lie 38 = .ok (.aload_n 0, 1) := by decide +kernel
theorem dX4_lie_39 : decode cX4_lie 39 = .ok (.getfield 10, 3) := by decide +kernel
theorem dX4_lie_42 : decode cX4_lie 42 = .ok (.invokevirtual 120, 3) := by decide +kernel
theorem dX4_lie_45 : decode cX4_lie 45 = .ok (.iload_n 1, 1) := by decide +kernel
theorem dX4_lie_46 : decode cX4_lie 46 = .ok (.invokestatic 185, 3) := by decide +kernel
theorem dX4_lie_49 : decode cX4_lie 49 = .ok (.ior, 1) := by decide +kernel
theorem dX4_lie_50 : decode cX4_lie 50 = .ok (.invokevirtual 160, 3) := by decide +kernel
theorem dX4_lie_53 : decode cX4_lie 53 = .ok (.aload_n 0, 1) := by decide +kernel
theorem dX4_lie_54 : decode cX4_lie 54 = .ok (.getfield 10, 3) := by decide +kernel
theorem dX4_lie_57 : decode cX4_lie 57 = .ok (.getfield 146, 3) := by decide +kernel
theorem dX4_lie_60 : decode cX4_lie 60 = .ok (.iload_n 1, 1) := by decide +kernel
theorem dX4_lie_61 : decode cX4_lie 61 = .ok (.iaload, 1) := by decide +kernel
theorem dX4_lie_62 : decode cX4_lie 62 = .ok (.i2l, 1) := by decide +kernel
theorem dX4_lie_63 : decode cX4_lie 63 = .ok (.aload_n 0, 1) := by decide +kernel
theorem dX4_lie_64 : decode cX4_lie 64 = .ok (.getfield 33, 3) := by decide +kernel
theorem dX4_lie_67 : decode cX4_lie 67 = .ok (.getfield 168, 3) := by decide +kernel
theorem dX4_lie_70 : decode cX4_lie 70 = .ok (.lmul, 1) := by decide +kernel
theorem dX4_lie_71 : decode cX4_lie 71 = .ok (.aload_n 0, 1) := by decide +kernel
theorem dX4_lie_72 : decode cX4_lie 72 = .ok (.getfield 33, 3) := by decide +kernel
theorem dX4_lie_75 : decode cX4_lie 75 = .ok (.aload_n 0, 1) := by decide +kernel
theorem dX4_lie_76 : decode cX4_lie 76 = .ok (.getfield 10, 3) := by decide +kernel
theorem dX4_lie_79 : decode cX4_lie 79 = .ok (.iload_n 1, 1) := by decide +kernel
theorem dX4_lie_80 : decode cX4_lie 80 = .ok (.invokevirtual 164, 3) := by decide +kernel
theorem dX4_lie_83 : decode cX4_lie 83 = .ok (.lsub, 1) := by decide +kernel
theorem dX4_lie_84 : decode cX4_lie 84 = .ok (.aload_n 0, 1) := by decide +kernel
theorem dX4_lie_85 : decode cX4_lie 85 = .ok (.getfield 33, 3) := by decide +kernel
theorem dX4_lie_88 : decode cX4_lie 88 = .ok (.getfield 168, 3) := by decide +kernel
theorem dX4_lie_91 : decode cX4_lie 91 = .ok (.iload_n 2, 1) := by decide +kernel
theorem dX4_lie_92 : decode cX4_lie 92 = .ok (.invokestatic 172, 3) := by decide +kernel
theorem dX4_lie_95 : decode cX4_lie 95 = .ok (.lreturn, 1) := by decide +kernel
/-! ===== FlowMeters.lie(II)J ===== -/
def fX4_lie (N : Nat) (c_t_now_knots : Int32) (c_t_now_flows : Int32) (c_t_now_readSet : Int32) (c_t_now_from : Nat → Int32) (c_t_now_to : Nat → Int32) (c_t_now_reading : Nat → Int32) (c_t_now_miss : Nat → Int32) (c_t_groups_least : Nat → Int32) (c_t_fit_unread : Int32) (c_t_fit_below : Int64) (c_t_fit_heaps_least : Nat → Int32) (c_t_fit_pieces_least : Nat → Int32) (c_t_fit_sides_least : Nat → Int32) (c_t_fit_rows : Nat → Nat → Int64) (c_t_fit_surplus : Nat → Int64) (x1 : Int32) (x2 : Int32) : Option (Int64 × (Nat → Int32) × Int32 × Int64 × (Nat → Int32) × (Nat → Int32) × (Nat → Int32) × (Nat → Nat → Int64) × (Nat → Int64)) :=
  (fX4_isFlow c_t_now_flows x1).bind fun v1 =>
  (if v1 = 0 then
    some ((-1), c_t_groups_least, c_t_fit_unread, c_t_fit_below, c_t_fit_heaps_least, c_t_fit_pieces_least, c_t_fit_sides_least, c_t_fit_rows, c_t_fit_surplus)
  else
    (fX4_isPart x2).bind fun v4 =>
    (if v4 = 0 then
      some ((-1), c_t_groups_least, c_t_fit_unread, c_t_fit_below, c_t_fit_heaps_least, c_t_fit_pieces_least, c_t_fit_sides_least, c_t_fit_rows, c_t_fit_surplus)
    else
      (fX4_spareSet N c_t_now_flows c_t_now_readSet c_t_now_from c_t_now_to c_t_groups_least).bind fun (v7, v8) =>
      (fX4_holds v7 x1).bind fun v10 =>
      (if v10 = 0 then
        some ((-1), v8, c_t_fit_unread, c_t_fit_below, c_t_fit_heaps_least, c_t_fit_pieces_least, c_t_fit_sides_least, c_t_fit_rows, c_t_fit_surplus)
      else
        (fX3_unreadSet c_t_now_flows c_t_now_readSet).bind fun v13 =>
        (fX4_bit x1).bind fun v15 =>
        (fX0_solve N c_t_fit_unread c_t_fit_below c_t_fit_heaps_least c_t_fit_pieces_least c_t_fit_rows c_t_fit_surplus c_t_now_knots c_t_now_flows c_t_now_from c_t_now_to c_t_now_reading c_t_now_miss (v13 ||| v15)).bind fun (v17, v18, v19, v20, v21, v22) =>
        (ya_rd c_t_now_reading 10 x1).bind fun v24 =>
        (fX0_valueAbove N v17 v18 v19 c_t_fit_sides_least v21 c_t_now_flows c_t_now_from c_t_now_to c_t_now_reading c_t_now_miss x1).bind fun (v26, v27) =>
        (fX4_lowestTerms N (((Int32.toInt64 v24) * v18) - v26) v18 x2).bind fun v29 =>
        some (v29, v8, v17, v18, v19, v20, v27, v21, v22))))
theorem fX4_lie_33 : yF wsX4_lie RX4 33 4 3 RX4 TX4 7 := ⟨rfl, by decide, by decide +kernel, by decide +kernel⟩
theorem fX4_lie_10 : yF wsX4_lie RX4 10 4 0 RX4 TX4 7 := ⟨rfl, by decide, by decide +kernel, by decide +kernel⟩
theorem fX4_lie_146 : yF wsX4_lie RX4 146 3 5 RX3 TX3 11 := ⟨rfl, by decide, by decide +kernel, by decide +kernel⟩
theorem fX4_lie_168 : yF wsX4_lie RX4 168 0 6 RX0 TX0 7 := ⟨rfl, by decide, by decide +kernel, by decide +kernel⟩
abbrev rmX4_lie : Room := { frames := 4, cells := 0, slots := 0, locals := 123 }
theorem eX4_lie : yY yX4_lie wsX4_lie cX4_lie 3 (some .long) rmX4_lie 2 := ⟨⟨_, rfl⟩, rfl, rfl, by decide, by decide, by decide +kernel⟩
set_option maxHeartbeats 4000000 in
set_option maxRecDepth 100000 in
theorem mX4_lie {l : Launch} {D : va_G} {sz : Nat} {cI cJ cZ cW cR : ClassId} {N : Nat} {h_t : Nat} {A_t : Nat → Nat} {A_t_now : Nat → Nat} {A_t_groups : Nat → Nat} {A_t_fit : Nat → Nat} {A_t_fit_heaps : Nat → Nat} {A_t_fit_pieces : Nat → Nat} {A_t_fit_sides : Nat → Nat} {A_t_fit_rows : Nat → Nat} {c_t_now_knots : Int32} {c_t_now_flows : Int32} {c_t_now_readSet : Int32} {c_t_now_from : Nat → Int32} {c_t_now_to : Nat → Int32} {c_t_now_reading : Nat → Int32} {c_t_now_miss : Nat → Int32} {c_t_groups_least : Nat → Int32} {c_t_fit_unread : Int32} {c_t_fit_below : Int64} {c_t_fit_heaps_least : Nat → Int32} {c_t_fit_pieces_least : Nat → Int32} {c_t_fit_sides_least : Nat → Int32} {c_t_fit_rows : Nat → Nat → Int64} {c_t_fit_surplus : Nat → Int64} {x1 : Int32} {x2 : Int32} {r : Int64} {zc_t_groups_least : Nat → Int32} {zc_t_fit_unread : Int32} {zc_t_fit_below : Int64} {zc_t_fit_heaps_least : Nat → Int32} {zc_t_fit_pieces_least : Nat → Int32} {zc_t_fit_sides_least : Nat → Int32} {zc_t_fit_rows : Nat → Nat → Int64} {zc_t_fit_surplus : Nat → Int64} (hf : fX4_lie N c_t_now_knots c_t_now_flows c_t_now_readSet c_t_now_from c_t_now_to c_t_now_reading c_t_now_miss c_t_groups_least c_t_fit_unread c_t_fit_below c_t_fit_heaps_least c_t_fit_pieces_least c_t_fit_sides_least c_t_fit_rows c_t_fit_surplus x1 x2 = some (r, zc_t_groups_least, zc_t_fit_unread, zc_t_fit_below, zc_t_fit_heaps_least, zc_t_fit_pieces_least, zc_t_fit_sides_least, zc_t_fit_rows, zc_t_fit_surplus)) : Met l yX4_lie wsX4_lie rmX4_lie (yP D (yT cI cJ cZ cW cR) [(h_t, oM A_t), (A_t 0, oW A_t_now c_t_now_knots c_t_now_flows c_t_now_readSet), (A_t_now 0, eI cI 10 c_t_now_from), (A_t_now 1, eI cI 10 c_t_now_to), (A_t_now 2, eI cI 10 c_t_now_reading), (A_t_now 3, eI cI 10 c_t_now_miss), (A_t 2, oG A_t_groups), (A_t_groups 0, eI cI 6 c_t_groups_least), (A_t 3, oF A_t_fit c_t_fit_unread c_t_fit_below), (A_t_fit 0, oG A_t_fit_heaps), (A_t_fit_heaps 0, eI cI 6 c_t_fit_heaps_least), (A_t_fit 1, oG A_t_fit_pieces), (A_t_fit_pieces 0, eI cI 6 c_t_fit_pieces_least), (A_t_fit 2, oG A_t_fit_sides), (A_t_fit_sides 0, eI cI 6 c_t_fit_sides_least), (A_t_fit 3, eQ cR 6 A_t_fit_rows), (A_t_fit_rows 0, eJ cJ 7 (c_t_fit_rows 0)), (A_t_fit_rows 1, eJ cJ 7 (c_t_fit_rows 1)), (A_t_fit_rows 2, eJ cJ 7 (c_t_fit_rows 2)), (A_t_fit_rows 3, eJ cJ 7 (c_t_fit_rows 3)), (A_t_fit_rows 4, eJ cJ 7 (c_t_fit_rows 4)), (A_t_fit_rows 5, eJ cJ 7 (c_t_fit_rows 5)), (A_t_fit 4, eJ cJ 6 c_t_fit_surplus)] sz [.ref h_t, .int x1, .int x2]) (yQl D (yT cI cJ cZ cW cR) r [(h_t, oM A_t), (A_t 0, oW A_t_now c_t_now_knots c_t_now_flows c_t_now_readSet), (A_t_now 0, eI cI 10 c_t_now_from), (A_t_now 1, eI cI 10 c_t_now_to), (A_t_now 2, eI cI 10 c_t_now_reading), (A_t_now 3, eI cI 10 c_t_now_miss), (A_t 2, oG A_t_groups), (A_t_groups 0, eI cI 6 zc_t_groups_least), (A_t 3, oF A_t_fit zc_t_fit_unread zc_t_fit_below), (A_t_fit 0, oG A_t_fit_heaps), (A_t_fit_heaps 0, eI cI 6 zc_t_fit_heaps_least), (A_t_fit 1, oG A_t_fit_pieces), (A_t_fit_pieces 0, eI cI 6 zc_t_fit_pieces_least), (A_t_fit 2, oG A_t_fit_sides), (A_t_fit_sides 0, eI cI 6 zc_t_fit_sides_least), (A_t_fit 3, eQ cR 6 A_t_fit_rows), (A_t_fit_rows 0, eJ cJ 7 (zc_t_fit_rows 0)), (A_t_fit_rows 1, eJ cJ 7 (zc_t_fit_rows 1)), (A_t_fit_rows 2, eJ cJ 7 (zc_t_fit_rows 2)), (A_t_fit_rows 3, eJ cJ 7 (zc_t_fit_rows 3)), (A_t_fit_rows 4, eJ cJ 7 (zc_t_fit_rows 4)), (A_t_fit_rows 5, eJ cJ 7 (zc_t_fit_rows 5)), (A_t_fit 4, eJ cJ 6 zc_t_fit_surplus)] (va_A [(h_t, oM A_t), (A_t 0, oW A_t_now c_t_now_knots c_t_now_flows c_t_now_readSet), (A_t_now 0, eI cI 10 c_t_now_from), (A_t_now 1, eI cI 10 c_t_now_to), (A_t_now 2, eI cI 10 c_t_now_reading), (A_t_now 3, eI cI 10 c_t_now_miss), (A_t 2, oG A_t_groups), (A_t_groups 0, eI cI 6 c_t_groups_least), (A_t 3, oF A_t_fit c_t_fit_unread c_t_fit_below), (A_t_fit 0, oG A_t_fit_heaps), (A_t_fit_heaps 0, eI cI 6 c_t_fit_heaps_least), (A_t_fit 1, oG A_t_fit_pieces), (A_t_fit_pieces 0, eI cI 6 c_t_fit_pieces_least), (A_t_fit 2, oG A_t_fit_sides), (A_t_fit_sides 0, eI cI 6 c_t_fit_sides_least), (A_t_fit 3, eQ cR 6 A_t_fit_rows), (A_t_fit_rows 0, eJ cJ 7 (c_t_fit_rows 0)), (A_t_fit_rows 1, eJ cJ 7 (c_t_fit_rows 1)), (A_t_fit_rows 2, eJ cJ 7 (c_t_fit_rows 2)), (A_t_fit_rows 3, eJ cJ 7 (c_t_fit_rows 3)), (A_t_fit_rows 4, eJ cJ 7 (c_t_fit_rows 4)), (A_t_fit_rows 5, eJ cJ 7 (c_t_fit_rows 5)), (A_t_fit 4, eJ cJ 6 c_t_fit_surplus)] sz)) 0 0 (va_A [(h_t, oM A_t), (A_t 0, oW A_t_now c_t_now_knots c_t_now_flows c_t_now_readSet), (A_t_now 0, eI cI 10 c_t_now_from), (A_t_now 1, eI cI 10 c_t_now_to), (A_t_now 2, eI cI 10 c_t_now_reading), (A_t_now 3, eI cI 10 c_t_now_miss), (A_t 2, oG A_t_groups), (A_t_groups 0, eI cI 6 c_t_groups_least), (A_t 3, oF A_t_fit c_t_fit_unread c_t_fit_below), (A_t_fit 0, oG A_t_fit_heaps), (A_t_fit_heaps 0, eI cI 6 c_t_fit_heaps_least), (A_t_fit 1, oG A_t_fit_pieces), (A_t_fit_pieces 0, eI cI 6 c_t_fit_pieces_least), (A_t_fit 2, oG A_t_fit_sides), (A_t_fit_sides 0, eI cI 6 c_t_fit_sides_least), (A_t_fit 3, eQ cR 6 A_t_fit_rows), (A_t_fit_rows 0, eJ cJ 7 (c_t_fit_rows 0)), (A_t_fit_rows 1, eJ cJ 7 (c_t_fit_rows 1)), (A_t_fit_rows 2, eJ cJ 7 (c_t_fit_rows 2)), (A_t_fit_rows 3, eJ cJ 7 (c_t_fit_rows 3)), (A_t_fit_rows 4, eJ cJ 7 (c_t_fit_rows 4)), (A_t_fit_rows 5, eJ cJ 7 (c_t_fit_rows 5)), (A_t_fit 4, eJ cJ 6 c_t_fit_surplus)] sz) := by
  refine yM (cc := cX4_lie) (maxL := 3) (ret := (some .long)) RX4 (by decide) rfl rfl (Nat.le_of_ble_eq_true rfl) ?_
  intro p e s m below meth c Γ hr
  show yG p l e (headSpec wsX4_lie rmX4_lie).room s m (List.toArray [.ref h_t, .int x1, .int x2]) below meth c D (va_A [(h_t, oM A_t), (A_t 0, oW A_t_now c_t_now_knots c_t_now_flows c_t_now_readSet), (A_t_now 0, eI cI 10 c_t_now_from), (A_t_now 1, eI cI 10 c_t_now_to), (A_t_now 2, eI cI 10 c_t_now_reading), (A_t_now 3, eI cI 10 c_t_now_miss), (A_t 2, oG A_t_groups), (A_t_groups 0, eI cI 6 c_t_groups_least), (A_t 3, oF A_t_fit c_t_fit_unread c_t_fit_below), (A_t_fit 0, oG A_t_fit_heaps), (A_t_fit_heaps 0, eI cI 6 c_t_fit_heaps_least), (A_t_fit 1, oG A_t_fit_pieces), (A_t_fit_pieces 0, eI cI 6 c_t_fit_pieces_least), (A_t_fit 2, oG A_t_fit_sides), (A_t_fit_sides 0, eI cI 6 c_t_fit_sides_least), (A_t_fit 3, eQ cR 6 A_t_fit_rows), (A_t_fit_rows 0, eJ cJ 7 (c_t_fit_rows 0)), (A_t_fit_rows 1, eJ cJ 7 (c_t_fit_rows 1)), (A_t_fit_rows 2, eJ cJ 7 (c_t_fit_rows 2)), (A_t_fit_rows 3, eJ cJ 7 (c_t_fit_rows 3)), (A_t_fit_rows 4, eJ cJ 7 (c_t_fit_rows 4)), (A_t_fit_rows 5, eJ cJ 7 (c_t_fit_rows 5)), (A_t_fit 4, eJ cJ 6 c_t_fit_surplus)] sz) 3 0 0 (MQ below (yQl D (yT cI cJ cZ cW cR) r [(h_t, oM A_t), (A_t 0, oW A_t_now c_t_now_knots c_t_now_flows c_t_now_readSet), (A_t_now 0, eI cI 10 c_t_now_from), (A_t_now 1, eI cI 10 c_t_now_to), (A_t_now 2, eI cI 10 c_t_now_reading), (A_t_now 3, eI cI 10 c_t_now_miss), (A_t 2, oG A_t_groups), (A_t_groups 0, eI cI 6 zc_t_groups_least), (A_t 3, oF A_t_fit zc_t_fit_unread zc_t_fit_below), (A_t_fit 0, oG A_t_fit_heaps), (A_t_fit_heaps 0, eI cI 6 zc_t_fit_heaps_least), (A_t_fit 1, oG A_t_fit_pieces), (A_t_fit_pieces 0, eI cI 6 zc_t_fit_pieces_least), (A_t_fit 2, oG A_t_fit_sides), (A_t_fit_sides 0, eI cI 6 zc_t_fit_sides_least), (A_t_fit 3, eQ cR 6 A_t_fit_rows), (A_t_fit_rows 0, eJ cJ 7 (zc_t_fit_rows 0)), (A_t_fit_rows 1, eJ cJ 7 (zc_t_fit_rows 1)), (A_t_fit_rows 2, eJ cJ 7 (zc_t_fit_rows 2)), (A_t_fit_rows 3, eJ cJ 7 (zc_t_fit_rows 3)), (A_t_fit_rows 4, eJ cJ 7 (zc_t_fit_rows 4)), (A_t_fit_rows 5, eJ cJ 7 (zc_t_fit_rows 5)), (A_t_fit 4, eJ cJ 6 zc_t_fit_surplus)] (va_A [(h_t, oM A_t), (A_t 0, oW A_t_now c_t_now_knots c_t_now_flows c_t_now_readSet), (A_t_now 0, eI cI 10 c_t_now_from), (A_t_now 1, eI cI 10 c_t_now_to), (A_t_now 2, eI cI 10 c_t_now_reading), (A_t_now 3, eI cI 10 c_t_now_miss), (A_t 2, oG A_t_groups), (A_t_groups 0, eI cI 6 c_t_groups_least), (A_t 3, oF A_t_fit c_t_fit_unread c_t_fit_below), (A_t_fit 0, oG A_t_fit_heaps), (A_t_fit_heaps 0, eI cI 6 c_t_fit_heaps_least), (A_t_fit 1, oG A_t_fit_pieces), (A_t_fit_pieces 0, eI cI 6 c_t_fit_pieces_least), (A_t_fit 2, oG A_t_fit_sides), (A_t_fit_sides 0, eI cI 6 c_t_fit_sides_least), (A_t_fit 3, eQ cR 6 A_t_fit_rows), (A_t_fit_rows 0, eJ cJ 7 (c_t_fit_rows 0)), (A_t_fit_rows 1, eJ cJ 7 (c_t_fit_rows 1)), (A_t_fit_rows 2, eJ cJ 7 (c_t_fit_rows 2)), (A_t_fit_rows 3, eJ cJ 7 (c_t_fit_rows 3)), (A_t_fit_rows 4, eJ cJ 7 (c_t_fit_rows 4)), (A_t_fit_rows 5, eJ cJ 7 (c_t_fit_rows 5)), (A_t_fit 4, eJ cJ 6 c_t_fit_surplus)] sz)) (List.toArray [.ref h_t, .int x1, .int x2]) s 0 0 (va_A [(h_t, oM A_t), (A_t 0, oW A_t_now c_t_now_knots c_t_now_flows c_t_now_readSet), (A_t_now 0, eI cI 10 c_t_now_from), (A_t_now 1, eI cI 10 c_t_now_to), (A_t_now 2, eI cI 10 c_t_now_reading), (A_t_now 3, eI cI 10 c_t_now_miss), (A_t 2, oG A_t_groups), (A_t_groups 0, eI cI 6 c_t_groups_least), (A_t 3, oF A_t_fit c_t_fit_unread c_t_fit_below), (A_t_fit 0, oG A_t_fit_heaps), (A_t_fit_heaps 0, eI cI 6 c_t_fit_heaps_least), (A_t_fit 1, oG A_t_fit_pieces), (A_t_fit_pieces 0, eI cI 6 c_t_fit_pieces_least), (A_t_fit 2, oG A_t_fit_sides), (A_t_fit_sides 0, eI cI 6 c_t_fit_sides_least), (A_t_fit 3, eQ cR 6 A_t_fit_rows), (A_t_fit_rows 0, eJ cJ 7 (c_t_fit_rows 0)), (A_t_fit_rows 1, eJ cJ 7 (c_t_fit_rows 1)), (A_t_fit_rows 2, eJ cJ 7 (c_t_fit_rows 2)), (A_t_fit_rows 3, eJ cJ 7 (c_t_fit_rows 3)), (A_t_fit_rows 4, eJ cJ 7 (c_t_fit_rows 4)), (A_t_fit_rows 5, eJ cJ 7 (c_t_fit_rows 5)), (A_t_fit 4, eJ cJ 6 c_t_fit_surplus)] sz)) 0 [(0, .ref h_t), (1, .int x1), (2, .int x2)] [] [(h_t, oM A_t), (A_t 0, oW A_t_now c_t_now_knots c_t_now_flows c_t_now_readSet), (A_t_now 0, eI cI 10 c_t_now_from), (A_t_now 1, eI cI 10 c_t_now_to), (A_t_now 2, eI cI 10 c_t_now_reading), (A_t_now 3, eI cI 10 c_t_now_miss), (A_t 2, oG A_t_groups), (A_t_groups 0, eI cI 6 c_t_groups_least), (A_t 3, oF A_t_fit c_t_fit_unread c_t_fit_below), (A_t_fit 0, oG A_t_fit_heaps), (A_t_fit_heaps 0, eI cI 6 c_t_fit_heaps_least), (A_t_fit 1, oG A_t_fit_pieces), (A_t_fit_pieces 0, eI cI 6 c_t_fit_pieces_least), (A_t_fit 2, oG A_t_fit_sides), (A_t_fit_sides 0, eI cI 6 c_t_fit_sides_least), (A_t_fit 3, eQ cR 6 A_t_fit_rows), (A_t_fit_rows 0, eJ cJ 7 (c_t_fit_rows 0)), (A_t_fit_rows 1, eJ cJ 7 (c_t_fit_rows 1)), (A_t_fit_rows 2, eJ cJ 7 (c_t_fit_rows 2)), (A_t_fit_rows 3, eJ cJ 7 (c_t_fit_rows 3)), (A_t_fit_rows 4, eJ cJ 7 (c_t_fit_rows 4)), (A_t_fit_rows 5, eJ cJ 7 (c_t_fit_rows 5)), (A_t_fit 4, eJ cJ 6 c_t_fit_surplus)]
  unfold fX4_lie at hf
  refine g_aload_n Γ 0 dX4_lie_0 rfl ?_
  refine g_iload_n Γ 1 dX4_lie_1 rfl ?_
  obtain ⟨v1, e2, hf⟩ := ya_ob hf
  refine g_vi (q := (RX4, TX4, 7)) (wr := [(A_t_now 0, eI cI 10 c_t_now_from), (A_t_now 1, eI cI 10 c_t_now_to), (A_t_now 2, eI cI 10 c_t_now_reading), (A_t_now 3, eI cI 10 c_t_now_miss), (A_t 2, oG A_t_groups), (A_t_groups 0, eI cI 6 c_t_groups_least), (A_t 3, oF A_t_fit c_t_fit_unread c_t_fit_below), (A_t_fit 0, oG A_t_fit_heaps), (A_t_fit_heaps 0, eI cI 6 c_t_fit_heaps_least), (A_t_fit 1, oG A_t_fit_pieces), (A_t_fit_pieces 0, eI cI 6 c_t_fit_pieces_least), (A_t_fit 2, oG A_t_fit_sides), (A_t_fit_sides 0, eI cI 6 c_t_fit_sides_least), (A_t_fit 3, eQ cR 6 A_t_fit_rows), (A_t_fit_rows 0, eJ cJ 7 (c_t_fit_rows 0)), (A_t_fit_rows 1, eJ cJ 7 (c_t_fit_rows 1)), (A_t_fit_rows 2, eJ cJ 7 (c_t_fit_rows 2)), (A_t_fit_rows 3, eJ cJ 7 (c_t_fit_rows 3)), (A_t_fit_rows 4, eJ cJ 7 (c_t_fit_rows 4)), (A_t_fit_rows 5, eJ cJ 7 (c_t_fit_rows 5)), (A_t_fit 4, eJ cJ 6 c_t_fit_surplus)]) (ws' := [(A_t_now 0, eI cI 10 c_t_now_from), (A_t_now 1, eI cI 10 c_t_now_to), (A_t_now 2, eI cI 10 c_t_now_reading), (A_t_now 3, eI cI 10 c_t_now_miss), (A_t 2, oG A_t_groups), (A_t_groups 0, eI cI 6 c_t_groups_least), (A_t 3, oF A_t_fit c_t_fit_unread c_t_fit_below), (A_t_fit 0, oG A_t_fit_heaps), (A_t_fit_heaps 0, eI cI 6 c_t_fit_heaps_least), (A_t_fit 1, oG A_t_fit_pieces), (A_t_fit_pieces 0, eI cI 6 c_t_fit_pieces_least), (A_t_fit 2, oG A_t_fit_sides), (A_t_fit_sides 0, eI cI 6 c_t_fit_sides_least), (A_t_fit 3, eQ cR 6 A_t_fit_rows), (A_t_fit_rows 0, eJ cJ 7 (c_t_fit_rows 0)), (A_t_fit_rows 1, eJ cJ 7 (c_t_fit_rows 1)), (A_t_fit_rows 2, eJ cJ 7 (c_t_fit_rows 2)), (A_t_fit_rows 3, eJ cJ 7 (c_t_fit_rows 3)), (A_t_fit_rows 4, eJ cJ 7 (c_t_fit_rows 4)), (A_t_fit_rows 5, eJ cJ 7 (c_t_fit_rows 5)), (A_t_fit 4, eJ cJ 6 c_t_fit_surplus), (h_t, oM A_t), (A_t 0, oW A_t_now c_t_now_knots c_t_now_flows c_t_now_readSet)]) Γ (fun sz => mX4_isFlow (l := l) (D := D) (sz := sz) (cI := cI) (cJ := cJ) (cZ := cZ) (cW := cW) (cR := cR) (h_t := h_t) (A_t := A_t) (A_t_now := A_t_now) (hf := e2)) eX4_isFlow gX4_lie_X4_isFlow rfl rfl 0 rfl rfl rfl (Nat.le_of_ble_eq_true rfl) ⟨Nat.le_of_ble_eq_true rfl, Nat.le_of_ble_eq_true rfl⟩ dX4_lie_2 [0, 1] [2, 3, 4, 5, 6, 7, 8, 9, 10, 11, 12, 13, 14, 15, 16, 17, 18, 19, 20, 21, 22] rfl rfl rfl rfl (by decide) rfl ?_
  refine g_if_eq Γ 26 dX4_lie_5 (by decide) (fun c3 => ?_) (fun c3 => ?_)
  · have hf := ya_if1 c3 hf
    refine g_ldc2 (v := (-1)) Γ dX4_lie_26 (by decide +kernel) ?_
    cases hf
    exact g_lret Γ hr dX4_lie_29 [21, 22, 0, 1, 2, 3, 4, 5, 6, 7, 8, 9, 10, 11, 12, 13, 14, 15, 16, 17, 18, 19, 20] rfl rfl
  · have hf := ya_if2 c3 hf
    refine g_iload_n Γ 2 dX4_lie_8 rfl ?_
    obtain ⟨v4, e5, hf⟩ := ya_ob hf
    refine g_si (wr := [(A_t_now 0, eI cI 10 c_t_now_from), (A_t_now 1, eI cI 10 c_t_now_to), (A_t_now 2, eI cI 10 c_t_now_reading), (A_t_now 3, eI cI 10 c_t_now_miss), (A_t 2, oG A_t_groups), (A_t_groups 0, eI cI 6 c_t_groups_least), (A_t 3, oF A_t_fit c_t_fit_unread c_t_fit_below), (A_t_fit 0, oG A_t_fit_heaps), (A_t_fit_heaps 0, eI cI 6 c_t_fit_heaps_least), (A_t_fit 1, oG A_t_fit_pieces), (A_t_fit_pieces 0, eI cI 6 c_t_fit_pieces_least), (A_t_fit 2, oG A_t_fit_sides), (A_t_fit_sides 0, eI cI 6 c_t_fit_sides_least), (A_t_fit 3, eQ cR 6 A_t_fit_rows), (A_t_fit_rows 0, eJ cJ 7 (c_t_fit_rows 0)), (A_t_fit_rows 1, eJ cJ 7 (c_t_fit_rows 1)), (A_t_fit_rows 2, eJ cJ 7 (c_t_fit_rows 2)), (A_t_fit_rows 3, eJ cJ 7 (c_t_fit_rows 3)), (A_t_fit_rows 4, eJ cJ 7 (c_t_fit_rows 4)), (A_t_fit_rows 5, eJ cJ 7 (c_t_fit_rows 5)), (A_t_fit 4, eJ cJ 6 c_t_fit_surplus), (h_t, oM A_t), (A_t 0, oW A_t_now c_t_now_knots c_t_now_flows c_t_now_readSet)]) (ws' := [(A_t_now 0, eI cI 10 c_t_now_from), (A_t_now 1, eI cI 10 c_t_now_to), (A_t_now 2, eI cI 10 c_t_now_reading), (A_t_now 3, eI cI 10 c_t_now_miss), (A_t 2, oG A_t_groups), (A_t_groups 0, eI cI 6 c_t_groups_least), (A_t 3, oF A_t_fit c_t_fit_unread c_t_fit_below), (A_t_fit 0, oG A_t_fit_heaps), (A_t_fit_heaps 0, eI cI 6 c_t_fit_heaps_least), (A_t_fit 1, oG A_t_fit_pieces), (A_t_fit_pieces 0, eI cI 6 c_t_fit_pieces_least), (A_t_fit 2, oG A_t_fit_sides), (A_t_fit_sides 0, eI cI 6 c_t_fit_sides_least), (A_t_fit 3, eQ cR 6 A_t_fit_rows), (A_t_fit_rows 0, eJ cJ 7 (c_t_fit_rows 0)), (A_t_fit_rows 1, eJ cJ 7 (c_t_fit_rows 1)), (A_t_fit_rows 2, eJ cJ 7 (c_t_fit_rows 2)), (A_t_fit_rows 3, eJ cJ 7 (c_t_fit_rows 3)), (A_t_fit_rows 4, eJ cJ 7 (c_t_fit_rows 4)), (A_t_fit_rows 5, eJ cJ 7 (c_t_fit_rows 5)), (A_t_fit 4, eJ cJ 6 c_t_fit_surplus), (h_t, oM A_t), (A_t 0, oW A_t_now c_t_now_knots c_t_now_flows c_t_now_readSet)]) Γ (fun sz => mX4_isPart (l := l) (D := D) (sz := sz) (cI := cI) (cJ := cJ) (cZ := cZ) (cW := cW) (cR := cR)  (hf := e5)) eX4_isPart ggX4_lie_X4_isPart (by decide +kernel) (by decide +kernel) (by decide +kernel) rfl rfl (Nat.le_of_ble_eq_true rfl) ⟨Nat.le_of_ble_eq_true rfl, Nat.le_of_ble_eq_true rfl⟩ dX4_lie_9 [] [0, 1, 2, 3, 4, 5, 6, 7, 8, 9, 10, 11, 12, 13, 14, 15, 16, 17, 18, 19, 20, 21, 22] rfl rfl rfl rfl (by decide) rfl ?_
    refine g_if_eq Γ 26 dX4_lie_12 (by decide) (fun c6 => ?_) (fun c6 => ?_)
    · have hf := ya_if1 c6 hf
      refine g_ldc2 (v := (-1)) Γ dX4_lie_26 (by decide +kernel) ?_
      cases hf
      exact g_lret Γ hr dX4_lie_29 [21, 22, 0, 1, 2, 3, 4, 5, 6, 7, 8, 9, 10, 11, 12, 13, 14, 15, 16, 17, 18, 19, 20] rfl rfl
    · have hf := ya_if2 c6 hf
      refine g_aload_n Γ 0 dX4_lie_15 rfl ?_
      obtain ⟨⟨v7, v8⟩, e9, hf⟩ := ya_ob hf
      refine g_vi (q := (RX4, TX4, 7)) (wr := [(A_t_now 2, eI cI 10 c_t_now_reading), (A_t_now 3, eI cI 10 c_t_now_miss), (A_t 3, oF A_t_fit c_t_fit_unread c_t_fit_below), (A_t_fit 0, oG A_t_fit_heaps), (A_t_fit_heaps 0, eI cI 6 c_t_fit_heaps_least), (A_t_fit 1, oG A_t_fit_pieces), (A_t_fit_pieces 0, eI cI 6 c_t_fit_pieces_least), (A_t_fit 2, oG A_t_fit_sides), (A_t_fit_sides 0, eI cI 6 c_t_fit_sides_least), (A_t_fit 3, eQ cR 6 A_t_fit_rows), (A_t_fit_rows 0, eJ cJ 7 (c_t_fit_rows 0)), (A_t_fit_rows 1, eJ cJ 7 (c_t_fit_rows 1)), (A_t_fit_rows 2, eJ cJ 7 (c_t_fit_rows 2)), (A_t_fit_rows 3, eJ cJ 7 (c_t_fit_rows 3)), (A_t_fit_rows 4, eJ cJ 7 (c_t_fit_rows 4)), (A_t_fit_rows 5, eJ cJ 7 (c_t_fit_rows 5)), (A_t_fit 4, eJ cJ 6 c_t_fit_surplus)]) (ws' := [(A_t_now 2, eI cI 10 c_t_now_reading), (A_t_now 3, eI cI 10 c_t_now_miss), (A_t 3, oF A_t_fit c_t_fit_unread c_t_fit_below), (A_t_fit 0, oG A_t_fit_heaps), (A_t_fit_heaps 0, eI cI 6 c_t_fit_heaps_least), (A_t_fit 1, oG A_t_fit_pieces), (A_t_fit_pieces 0, eI cI 6 c_t_fit_pieces_least), (A_t_fit 2, oG A_t_fit_sides), (A_t_fit_sides 0, eI cI 6 c_t_fit_sides_least), (A_t_fit 3, eQ cR 6 A_t_fit_rows), (A_t_fit_rows 0, eJ cJ 7 (c_t_fit_rows 0)), (A_t_fit_rows 1, eJ cJ 7 (c_t_fit_rows 1)), (A_t_fit_rows 2, eJ cJ 7 (c_t_fit_rows 2)), (A_t_fit_rows 3, eJ cJ 7 (c_t_fit_rows 3)), (A_t_fit_rows 4, eJ cJ 7 (c_t_fit_rows 4)), (A_t_fit_rows 5, eJ cJ 7 (c_t_fit_rows 5)), (A_t_fit 4, eJ cJ 6 c_t_fit_surplus), (h_t, oM A_t), (A_t 0, oW A_t_now c_t_now_knots c_t_now_flows c_t_now_readSet), (A_t_now 0, eI cI 10 c_t_now_from), (A_t_now 1, eI cI 10 c_t_now_to), (A_t 2, oG A_t_groups), (A_t_groups 0, eI cI 6 v8)]) Γ (fun sz => mX4_spareSet (l := l) (D := D) (sz := sz) (cI := cI) (cJ := cJ) (cZ := cZ) (cW := cW) (cR := cR) (h_t := h_t) (A_t := A_t) (A_t_now := A_t_now) (A_t_groups := A_t_groups) (hf := e9)) eX4_spareSet gX4_lie_X4_spareSet rfl rfl 0 rfl rfl rfl (Nat.le_of_ble_eq_true rfl) ⟨Nat.le_of_ble_eq_true rfl, Nat.le_of_ble_eq_true rfl⟩ dX4_lie_16 [21, 22, 0, 1, 4, 5] [2, 3, 6, 7, 8, 9, 10, 11, 12, 13, 14, 15, 16, 17, 18, 19, 20] rfl rfl rfl rfl (by decide) rfl ?_
      refine g_iload_n Γ 1 dX4_lie_19 rfl ?_
      obtain ⟨v10, e11, hf⟩ := ya_ob hf
      refine g_si (wr := [(A_t_now 2, eI cI 10 c_t_now_reading), (A_t_now 3, eI cI 10 c_t_now_miss), (A_t 3, oF A_t_fit c_t_fit_unread c_t_fit_below), (A_t_fit 0, oG A_t_fit_heaps), (A_t_fit_heaps 0, eI cI 6 c_t_fit_heaps_least), (A_t_fit 1, oG A_t_fit_pieces), (A_t_fit_pieces 0, eI cI 6 c_t_fit_pieces_least), (A_t_fit 2, oG A_t_fit_sides), (A_t_fit_sides 0, eI cI 6 c_t_fit_sides_least), (A_t_fit 3, eQ cR 6 A_t_fit_rows), (A_t_fit_rows 0, eJ cJ 7 (c_t_fit_rows 0)), (A_t_fit_rows 1, eJ cJ 7 (c_t_fit_rows 1)), (A_t_fit_rows 2, eJ cJ 7 (c_t_fit_rows 2)), (A_t_fit_rows 3, eJ cJ 7 (c_t_fit_rows 3)), (A_t_fit_rows 4, eJ cJ 7 (c_t_fit_rows 4)), (A_t_fit_rows 5, eJ cJ 7 (c_t_fit_rows 5)), (A_t_fit 4, eJ cJ 6 c_t_fit_surplus), (h_t, oM A_t), (A_t 0, oW A_t_now c_t_now_knots c_t_now_flows c_t_now_readSet), (A_t_now 0, eI cI 10 c_t_now_from), (A_t_now 1, eI cI 10 c_t_now_to), (A_t 2, oG A_t_groups), (A_t_groups 0, eI cI 6 v8)]) (ws' := [(A_t_now 2, eI cI 10 c_t_now_reading), (A_t_now 3, eI cI 10 c_t_now_miss), (A_t 3, oF A_t_fit c_t_fit_unread c_t_fit_below), (A_t_fit 0, oG A_t_fit_heaps), (A_t_fit_heaps 0, eI cI 6 c_t_fit_heaps_least), (A_t_fit 1, oG A_t_fit_pieces), (A_t_fit_pieces 0, eI cI 6 c_t_fit_pieces_least), (A_t_fit 2, oG A_t_fit_sides), (A_t_fit_sides 0, eI cI 6 c_t_fit_sides_least), (A_t_fit 3, eQ cR 6 A_t_fit_rows), (A_t_fit_rows 0, eJ cJ 7 (c_t_fit_rows 0)), (A_t_fit_rows 1, eJ cJ 7 (c_t_fit_rows 1)), (A_t_fit_rows 2, eJ cJ 7 (c_t_fit_rows 2)), (A_t_fit_rows 3, eJ cJ 7 (c_t_fit_rows 3)), (A_t_fit_rows 4, eJ cJ 7 (c_t_fit_rows 4)), (A_t_fit_rows 5, eJ cJ 7 (c_t_fit_rows 5)), (A_t_fit 4, eJ cJ 6 c_t_fit_surplus), (h_t, oM A_t), (A_t 0, oW A_t_now c_t_now_knots c_t_now_flows c_t_now_readSet), (A_t_now 0, eI cI 10 c_t_now_from), (A_t_now 1, eI cI 10 c_t_now_to), (A_t 2, oG A_t_groups), (A_t_groups 0, eI cI 6 v8)]) Γ (fun sz => mX4_holds (l := l) (D := D) (sz := sz) (cI := cI) (cJ := cJ) (cZ := cZ) (cW := cW) (cR := cR)  (hf := e11)) eX4_holds ggX4_lie_X4_holds (by decide +kernel) (by decide +kernel) (by decide +kernel) rfl rfl (Nat.le_of_ble_eq_true rfl) ⟨Nat.le_of_ble_eq_true rfl, Nat.le_of_ble_eq_true rfl⟩ dX4_lie_20 [] [0, 1, 2, 3, 4, 5, 6, 7, 8, 9, 10, 11, 12, 13, 14, 15, 16, 17, 18, 19, 20, 21, 22] rfl rfl rfl rfl (by decide) rfl ?_
      refine g_if_ne Γ 30 dX4_lie_23 (by decide) (fun c12 => ?_) (fun c12 => ?_)
      · have hf := ya_if2 c12 hf
        refine g_aload_n Γ 0 dX4_lie_30 rfl ?_
        refine g_get Γ fX4_lie_33 17 rfl rfl dX4_lie_31 ?_
        refine g_aload_n Γ 0 dX4_lie_34 rfl ?_
        refine g_get Γ fX4_lie_10 17 rfl rfl dX4_lie_35 ?_
        refine g_aload_n Γ 0 dX4_lie_38 rfl ?_
        refine g_get Γ fX4_lie_10 17 rfl rfl dX4_lie_39 ?_
        obtain ⟨v13, e14, hf⟩ := ya_ob hf
        refine g_vi (q := (RX3, TX3, 11)) (wr := [(A_t_now 2, eI cI 10 c_t_now_reading), (A_t_now 3, eI cI 10 c_t_now_miss), (A_t 3, oF A_t_fit c_t_fit_unread c_t_fit_below), (A_t_fit 0, oG A_t_fit_heaps), (A_t_fit_heaps 0, eI cI 6 c_t_fit_heaps_least), (A_t_fit 1, oG A_t_fit_pieces), (A_t_fit_pieces 0, eI cI 6 c_t_fit_pieces_least), (A_t_fit 2, oG A_t_fit_sides), (A_t_fit_sides 0, eI cI 6 c_t_fit_sides_least), (A_t_fit 3, eQ cR 6 A_t_fit_rows), (A_t_fit_rows 0, eJ cJ 7 (c_t_fit_rows 0)), (A_t_fit_rows 1, eJ cJ 7 (c_t_fit_rows 1)), (A_t_fit_rows 2, eJ cJ 7 (c_t_fit_rows 2)), (A_t_fit_rows 3, eJ cJ 7 (c_t_fit_rows 3)), (A_t_fit_rows 4, eJ cJ 7 (c_t_fit_rows 4)), (A_t_fit_rows 5, eJ cJ 7 (c_t_fit_rows 5)), (A_t_fit 4, eJ cJ 6 c_t_fit_surplus), (h_t, oM A_t), (A_t_now 0, eI cI 10 c_t_now_from), (A_t_now 1, eI cI 10 c_t_now_to), (A_t 2, oG A_t_groups), (A_t_groups 0, eI cI 6 v8)]) (ws' := [(A_t_now 2, eI cI 10 c_t_now_reading), (A_t_now 3, eI cI 10 c_t_now_miss), (A_t 3, oF A_t_fit c_t_fit_unread c_t_fit_below), (A_t_fit 0, oG A_t_fit_heaps), (A_t_fit_heaps 0, eI cI 6 c_t_fit_heaps_least), (A_t_fit 1, oG A_t_fit_pieces), (A_t_fit_pieces 0, eI cI 6 c_t_fit_pieces_least), (A_t_fit 2, oG A_t_fit_sides), (A_t_fit_sides 0, eI cI 6 c_t_fit_sides_least), (A_t_fit 3, eQ cR 6 A_t_fit_rows), (A_t_fit_rows 0, eJ cJ 7 (c_t_fit_rows 0)), (A_t_fit_rows 1, eJ cJ 7 (c_t_fit_rows 1)), (A_t_fit_rows 2, eJ cJ 7 (c_t_fit_rows 2)), (A_t_fit_rows 3, eJ cJ 7 (c_t_fit_rows 3)), (A_t_fit_rows 4, eJ cJ 7 (c_t_fit_rows 4)), (A_t_fit_rows 5, eJ cJ 7 (c_t_fit_rows 5)), (A_t_fit 4, eJ cJ 6 c_t_fit_surplus), (h_t, oM A_t), (A_t_now 0, eI cI 10 c_t_now_from), (A_t_now 1, eI cI 10 c_t_now_to), (A_t 2, oG A_t_groups), (A_t_groups 0, eI cI 6 v8), (A_t 0, oW A_t_now c_t_now_knots c_t_now_flows c_t_now_readSet)]) Γ (fun sz => mX3_unreadSet (l := l) (D := D) (sz := sz) (cI := cI) (cJ := cJ) (cZ := cZ) (cW := cW) (cR := cR) (h_t := A_t 0) (A_t := A_t_now) (hf := e14)) eX3_unreadSet gX4_lie_X3_unreadSet rfl rfl 0 rfl rfl rfl (Nat.le_of_ble_eq_true rfl) ⟨Nat.le_of_ble_eq_true rfl, Nat.le_of_ble_eq_true rfl⟩ dX4_lie_42 [18] [0, 1, 2, 3, 4, 5, 6, 7, 8, 9, 10, 11, 12, 13, 14, 15, 16, 17, 19, 20, 21, 22] rfl rfl rfl rfl (by decide) rfl ?_
        refine g_iload_n Γ 1 dX4_lie_45 rfl ?_
        obtain ⟨v15, e16, hf⟩ := ya_ob hf
        refine g_si (wr := [(A_t_now 2, eI cI 10 c_t_now_reading), (A_t_now 3, eI cI 10 c_t_now_miss), (A_t 3, oF A_t_fit c_t_fit_unread c_t_fit_below), (A_t_fit 0, oG A_t_fit_heaps), (A_t_fit_heaps 0, eI cI 6 c_t_fit_heaps_least), (A_t_fit 1, oG A_t_fit_pieces), (A_t_fit_pieces 0, eI cI 6 c_t_fit_pieces_least), (A_t_fit 2, oG A_t_fit_sides), (A_t_fit_sides 0, eI cI 6 c_t_fit_sides_least), (A_t_fit 3, eQ cR 6 A_t_fit_rows), (A_t_fit_rows 0, eJ cJ 7 (c_t_fit_rows 0)), (A_t_fit_rows 1, eJ cJ 7 (c_t_fit_rows 1)), (A_t_fit_rows 2, eJ cJ 7 (c_t_fit_rows 2)), (A_t_fit_rows 3, eJ cJ 7 (c_t_fit_rows 3)), (A_t_fit_rows 4, eJ cJ 7 (c_t_fit_rows 4)), (A_t_fit_rows 5, eJ cJ 7 (c_t_fit_rows 5)), (A_t_fit 4, eJ cJ 6 c_t_fit_surplus), (h_t, oM A_t), (A_t_now 0, eI cI 10 c_t_now_from), (A_t_now 1, eI cI 10 c_t_now_to), (A_t 2, oG A_t_groups), (A_t_groups 0, eI cI 6 v8), (A_t 0, oW A_t_now c_t_now_knots c_t_now_flows c_t_now_readSet)]) (ws' := [(A_t_now 2, eI cI 10 c_t_now_reading), (A_t_now 3, eI cI 10 c_t_now_miss), (A_t 3, oF A_t_fit c_t_fit_unread c_t_fit_below), (A_t_fit 0, oG A_t_fit_heaps), (A_t_fit_heaps 0, eI cI 6 c_t_fit_heaps_least), (A_t_fit 1, oG A_t_fit_pieces), (A_t_fit_pieces 0, eI cI 6 c_t_fit_pieces_least), (A_t_fit 2, oG A_t_fit_sides), (A_t_fit_sides 0, eI cI 6 c_t_fit_sides_least), (A_t_fit 3, eQ cR 6 A_t_fit_rows), (A_t_fit_rows 0, eJ cJ 7 (c_t_fit_rows 0)), (A_t_fit_rows 1, eJ cJ 7 (c_t_fit_rows 1)), (A_t_fit_rows 2, eJ cJ 7 (c_t_fit_rows 2)), (A_t_fit_rows 3, eJ cJ 7 (c_t_fit_rows 3)), (A_t_fit_rows 4, eJ cJ 7 (c_t_fit_rows 4)), (A_t_fit_rows 5, eJ cJ 7 (c_t_fit_rows 5)), (A_t_fit 4, eJ cJ 6 c_t_fit_surplus), (h_t, oM A_t), (A_t_now 0, eI cI 10 c_t_now_from), (A_t_now 1, eI cI 10 c_t_now_to), (A_t 2, oG A_t_groups), (A_t_groups 0, eI cI 6 v8), (A_t 0, oW A_t_now c_t_now_knots c_t_now_flows c_t_now_readSet)]) Γ (fun sz => mX4_bit (l := l) (D := D) (sz := sz) (cI := cI) (cJ := cJ) (cZ := cZ) (cW := cW) (cR := cR)  (hf := e16)) eX4_bit ggX4_lie_X4_bit (by decide +kernel) (by decide +kernel) (by decide +kernel) rfl rfl (Nat.le_of_ble_eq_true rfl) ⟨Nat.le_of_ble_eq_true rfl, Nat.le_of_ble_eq_true rfl⟩ dX4_lie_46 [] [0, 1, 2, 3, 4, 5, 6, 7, 8, 9, 10, 11, 12, 13, 14, 15, 16, 17, 18, 19, 20, 21, 22] rfl rfl rfl rfl (by decide) rfl ?_
        refine g_ior Γ dX4_lie_49 ?_
        obtain ⟨⟨v17, v18, v19, v20, v21, v22⟩, e23, hf⟩ := ya_ob hf
        refine g_vv (q := (RX0, TX0, 7)) (wr := [(A_t_fit 2, oG A_t_fit_sides), (A_t_fit_sides 0, eI cI 6 c_t_fit_sides_least), (h_t, oM A_t), (A_t 2, oG A_t_groups), (A_t_groups 0, eI cI 6 v8)]) (ws' := [(A_t_fit 2, oG A_t_fit_sides), (A_t_fit_sides 0, eI cI 6 c_t_fit_sides_least), (h_t, oM A_t), (A_t 2, oG A_t_groups), (A_t_groups 0, eI cI 6 v8), (A_t 3, oF A_t_fit v17 v18), (A_t_fit 0, oG A_t_fit_heaps), (A_t_fit_heaps 0, eI cI 6 v19), (A_t_fit 1, oG A_t_fit_pieces), (A_t_fit_pieces 0, eI cI 6 v20), (A_t_fit 3, eQ cR 6 A_t_fit_rows), (A_t_fit_rows 0, eJ cJ 7 (v21 0)), (A_t_fit_rows 1, eJ cJ 7 (v21 1)), (A_t_fit_rows 2, eJ cJ 7 (v21 2)), (A_t_fit_rows 3, eJ cJ 7 (v21 3)), (A_t_fit_rows 4, eJ cJ 7 (v21 4)), (A_t_fit_rows 5, eJ cJ 7 (v21 5)), (A_t_fit 4, eJ cJ 6 v22), (A_t 0, oW A_t_now c_t_now_knots c_t_now_flows c_t_now_readSet), (A_t_now 0, eI cI 10 c_t_now_from), (A_t_now 1, eI cI 10 c_t_now_to), (A_t_now 2, eI cI 10 c_t_now_reading), (A_t_now 3, eI cI 10 c_t_now_miss)]) Γ (fun sz => mX0_solve (l := l) (D := D) (sz := sz) (cI := cI) (cJ := cJ) (cZ := cZ) (cW := cW) (cR := cR) (h_t := A_t 3) (h_w := A_t 0) (A_t := A_t_fit) (A_t_heaps := A_t_fit_heaps) (A_t_pieces := A_t_fit_pieces) (A_t_rows := A_t_fit_rows) (A_w := A_t_now) (hf := e23)) eX0_solve gX4_lie_X0_solve rfl rfl 0 rfl rfl rfl (Nat.le_of_ble_eq_true rfl) ⟨Nat.le_of_ble_eq_true rfl, Nat.le_of_ble_eq_true rfl⟩ dX4_lie_50 [2, 3, 4, 5, 6, 9, 10, 11, 12, 13, 14, 15, 16, 22, 18, 19, 0, 1] [7, 8, 17, 20, 21] rfl rfl rfl rfl (by decide) rfl ?_
        refine g_aload_n Γ 0 dX4_lie_53 rfl ?_
        refine g_get Γ fX4_lie_10 2 rfl rfl dX4_lie_54 ?_
        refine g_get Γ fX4_lie_146 18 rfl rfl dX4_lie_57 ?_
        refine g_iload_n Γ 1 dX4_lie_60 rfl ?_
        obtain ⟨v24, e25, hf⟩ := ya_ob hf
        refine g_iald Γ e25 21 0 rfl rfl dX4_lie_61 ?_
        refine g_i2l Γ dX4_lie_62 ?_
        refine g_aload_n Γ 0 dX4_lie_63 rfl ?_
        refine g_get Γ fX4_lie_33 2 rfl rfl dX4_lie_64 ?_
        refine g_get Γ fX4_lie_168 5 rfl rfl dX4_lie_67 ?_
        refine g_lmul Γ dX4_lie_70 ?_
        refine g_aload_n Γ 0 dX4_lie_71 rfl ?_
        refine g_get Γ fX4_lie_33 2 rfl rfl dX4_lie_72 ?_
        refine g_aload_n Γ 0 dX4_lie_75 rfl ?_
        refine g_get Γ fX4_lie_10 2 rfl rfl dX4_lie_76 ?_
        refine g_iload_n Γ 1 dX4_lie_79 rfl ?_
        obtain ⟨⟨v26, v27⟩, e28, hf⟩ := ya_ob hf
        refine g_vl (q := (RX0, TX0, 7)) (wr := [(h_t, oM A_t), (A_t 2, oG A_t_groups), (A_t_groups 0, eI cI 6 v8), (A_t_fit 1, oG A_t_fit_pieces), (A_t_fit_pieces 0, eI cI 6 v20), (A_t_fit 4, eJ cJ 6 v22)]) (ws' := [(h_t, oM A_t), (A_t 2, oG A_t_groups), (A_t_groups 0, eI cI 6 v8), (A_t_fit 1, oG A_t_fit_pieces), (A_t_fit_pieces 0, eI cI 6 v20), (A_t_fit 4, eJ cJ 6 v22), (A_t 3, oF A_t_fit v17 v18), (A_t_fit 0, oG A_t_fit_heaps), (A_t_fit_heaps 0, eI cI 6 v19), (A_t_fit 2, oG A_t_fit_sides), (A_t_fit_sides 0, eI cI 6 v27), (A_t_fit 3, eQ cR 6 A_t_fit_rows), (A_t_fit_rows 0, eJ cJ 7 (v21 0)), (A_t_fit_rows 1, eJ cJ 7 (v21 1)), (A_t_fit_rows 2, eJ cJ 7 (v21 2)), (A_t_fit_rows 3, eJ cJ 7 (v21 3)), (A_t_fit_rows 4, eJ cJ 7 (v21 4)), (A_t_fit_rows 5, eJ cJ 7 (v21 5)), (A_t 0, oW A_t_now c_t_now_knots c_t_now_flows c_t_now_readSet), (A_t_now 0, eI cI 10 c_t_now_from), (A_t_now 1, eI cI 10 c_t_now_to), (A_t_now 2, eI cI 10 c_t_now_reading), (A_t_now 3, eI cI 10 c_t_now_miss)]) Γ (fun sz => mX0_valueAbove (l := l) (D := D) (sz := sz) (cI := cI) (cJ := cJ) (cZ := cZ) (cW := cW) (cR := cR) (h_t := A_t 3) (h_w := A_t 0) (A_t := A_t_fit) (A_t_heaps := A_t_fit_heaps) (A_t_sides := A_t_fit_sides) (A_t_rows := A_t_fit_rows) (A_w := A_t_now) (hf := e28)) eX0_valueAbove gX4_lie_X0_valueAbove rfl rfl 0 rfl rfl rfl (Nat.le_of_ble_eq_true rfl) ⟨Nat.le_of_ble_eq_true rfl, Nat.le_of_ble_eq_true rfl⟩ dX4_lie_80 [5, 6, 7, 0, 1, 10, 11, 12, 13, 14, 15, 16, 18, 19, 20, 21, 22] [2, 3, 4, 8, 9, 17] rfl rfl rfl rfl (by decide) rfl ?_
        refine g_lsub Γ dX4_lie_83 ?_
        refine g_aload_n Γ 0 dX4_lie_84 rfl ?_
        refine g_get Γ fX4_lie_33 0 rfl rfl dX4_lie_85 ?_
        refine g_get Γ fX4_lie_168 6 rfl rfl dX4_lie_88 ?_
        refine g_iload_n Γ 2 dX4_lie_91 rfl ?_
        obtain ⟨v29, e30, hf⟩ := ya_ob hf
        refine g_sl (wr := [(h_t, oM A_t), (A_t 2, oG A_t_groups), (A_t_groups 0, eI cI 6 v8), (A_t_fit 1, oG A_t_fit_pieces), (A_t_fit_pieces 0, eI cI 6 v20), (A_t_fit 4, eJ cJ 6 v22), (A_t 3, oF A_t_fit v17 v18), (A_t_fit 0, oG A_t_fit_heaps), (A_t_fit_heaps 0, eI cI 6 v19), (A_t_fit 2, oG A_t_fit_sides), (A_t_fit_sides 0, eI cI 6 v27), (A_t_fit 3, eQ cR 6 A_t_fit_rows), (A_t_fit_rows 0, eJ cJ 7 (v21 0)), (A_t_fit_rows 1, eJ cJ 7 (v21 1)), (A_t_fit_rows 2, eJ cJ 7 (v21 2)), (A_t_fit_rows 3, eJ cJ 7 (v21 3)), (A_t_fit_rows 4, eJ cJ 7 (v21 4)), (A_t_fit_rows 5, eJ cJ 7 (v21 5)), (A_t 0, oW A_t_now c_t_now_knots c_t_now_flows c_t_now_readSet), (A_t_now 0, eI cI 10 c_t_now_from), (A_t_now 1, eI cI 10 c_t_now_to), (A_t_now 2, eI cI 10 c_t_now_reading), (A_t_now 3, eI cI 10 c_t_now_miss)]) (ws' := [(h_t, oM A_t), (A_t 2, oG A_t_groups), (A_t_groups 0, eI cI 6 v8), (A_t_fit 1, oG A_t_fit_pieces), (A_t_fit_pieces 0, eI cI 6 v20), (A_t_fit 4, eJ cJ 6 v22), (A_t 3, oF A_t_fit v17 v18), (A_t_fit 0, oG A_t_fit_heaps), (A_t_fit_heaps 0, eI cI 6 v19), (A_t_fit 2, oG A_t_fit_sides), (A_t_fit_sides 0, eI cI 6 v27), (A_t_fit 3, eQ cR 6 A_t_fit_rows), (A_t_fit_rows 0, eJ cJ 7 (v21 0)), (A_t_fit_rows 1, eJ cJ 7 (v21 1)), (A_t_fit_rows 2, eJ cJ 7 (v21 2)), (A_t_fit_rows 3, eJ cJ 7 (v21 3)), (A_t_fit_rows 4, eJ cJ 7 (v21 4)), (A_t_fit_rows 5, eJ cJ 7 (v21 5)), (A_t 0, oW A_t_now c_t_now_knots c_t_now_flows c_t_now_readSet), (A_t_now 0, eI cI 10 c_t_now_from), (A_t_now 1, eI cI 10 c_t_now_to), (A_t_now 2, eI cI 10 c_t_now_reading), (A_t_now 3, eI cI 10 c_t_now_miss)]) Γ (fun sz => mX4_lowestTerms (l := l) (D := D) (sz := sz) (cI := cI) (cJ := cJ) (cZ := cZ) (cW := cW) (cR := cR)  (hf := e30)) eX4_lowestTerms ggX4_lie_X4_lowestTerms (by decide +kernel) (by decide +kernel) (by decide +kernel) rfl rfl (Nat.le_of_ble_eq_true rfl) ⟨Nat.le_of_ble_eq_true rfl, Nat.le_of_ble_eq_true rfl⟩ dX4_lie_92 [] [0, 1, 2, 3, 4, 5, 6, 7, 8, 9, 10, 11, 12, 13, 14, 15, 16, 17, 18, 19, 20, 21, 22] rfl rfl rfl rfl (by decide) rfl ?_
        cases hf
        exact g_lret Γ hr dX4_lie_95 [0, 18, 19, 20, 21, 22, 1, 2, 6, 7, 8, 3, 4, 9, 10, 11, 12, 13, 14, 15, 16, 17, 5] rfl rfl
      · have hf := ya_if1 c12 hf
        refine g_ldc2 (v := (-1)) Γ dX4_lie_26 (by decide +kernel) ?_
        cases hf
        exact g_lret Γ hr dX4_lie_29 [17, 18, 19, 20, 0, 1, 21, 22, 2, 3, 4, 5, 6, 7, 8, 9, 10, 11, 12, 13, 14, 15, 16] rfl rfl

set_option maxRecDepth 20000 in
theorem ggX4_testWithoutEach_X4_holds : GoodIn wsX4_testWithoutEach wsX4_holds := goodIn_r _ [11] rfl (by decide +kernel)
set_option maxRecDepth 20000 in
theorem gX4_testWithoutEach_X4_holds : GoodIn wsX4_testWithoutEach (va_wsS RX4 78 yX4_holds wsX4_holds) := goodIn_app (goodIn_of _ (by decide +kernel)) ggX4_testWithoutEach_X4_holds
set_option maxRecDepth 20000 in
theorem ggX4_testWithoutEach_X3_unreadSet : GoodIn wsX4_testWithoutEach wsX3_unreadSet := goodIn_r _ [16, 17, 18, 19, 20, 15, 21, 22, 23, 10, 24, 101, 102, 103, 104, 105, 106, 107, 108, 109, 110, 111] rfl (by decide +kernel)
set_option maxRecDepth 20000 in
theorem gX4_testWithoutEach_X3_unreadSet : GoodIn wsX4_testWithoutEach (wsV RX4 120 RX3 yX3_unreadSet wsX3_unreadSet) := goodIn_app (goodIn_of _ (by decide +kernel)) ggX4_testWithoutEach_X3_unreadSet
set_option maxRecDepth 20000 in
theorem ggX4_testWithoutEach_X4_bit : GoodIn wsX4_testWithoutEach wsX4_bit := goodIn_r _ [24] rfl (by decide +kernel)
set_option maxRecDepth 20000 in
theorem gX4_testWithoutEach_X4_bit : GoodIn wsX4_testWithoutEach (va_wsS RX4 185 yX4_bit wsX4_bit) := goodIn_app (goodIn_of _ (by decide +kernel)) ggX4_testWithoutEach_X4_bit
set_option maxRecDepth 20000 in
theorem ggX4_testWithoutEach_X0_solve : GoodIn wsX4_testWithoutEach wsX0_solve := goodIn_r _ [30, 31, 32, 33, 34, 35, 36, 37, 38, 39, 40, 41, 42, 43, 9, 10, 11, 44, 45, 46, 47, 48, 49, 50, 51, 52, 53, 54, 55, 56, 57, 58, 59, 19, 20, 15, 21, 22, 23, 24, 60, 61, 62, 29, 63, 64, 65, 66, 67, 68, 69, 70, 71, 72, 73, 74, 75, 76, 77, 78, 79, 80, 81, 82, 83, 84, 85, 86, 87, 88, 89, 112, 113, 114, 115, 116, 117, 118, 101, 102, 103, 104, 105, 106, 107, 108, 109, 110, 111, 119] rfl (by decide +kernel)
set_option maxRecDepth 20000 in
theorem gX4_testWithoutEach_X0_solve : GoodIn wsX4_testWithoutEach (wsV RX4 160 RX0 yX0_solve wsX0_solve) := goodIn_app (goodIn_of _ (by decide +kernel)) ggX4_testWithoutEach_X0_solve
set_option maxRecDepth 20000 in
theorem ggX4_testWithoutEach_X0_testAbove : GoodIn wsX4_testWithoutEach wsX0_testAbove := goodIn_r _ [93, 64, 65, 112, 113, 114, 115, 116, 117, 118] rfl (by decide +kernel)
set_option maxRecDepth 20000 in
theorem gX4_testWithoutEach_X0_testAbove : GoodIn wsX4_testWithoutEach (wsV RX4 183 RX0 yX0_testAbove wsX0_testAbove) := goodIn_app (goodIn_of _ (by decide +kernel)) ggX4_testWithoutEach_X0_testAbove
theorem dX4_testWithoutEach_0 : decode cX4_testWithoutEach 0 = .ok (.iconst 0, 1) := by decide +kernel
theorem dX4_testWithoutEach_1 : decode cX4_testWithoutEach 1 = .ok (.istore_n 2, 1) := by decide +kernel
theorem dX4_testWithoutEach_2 : decode cX4_testWithoutEach 2 = .ok (.iload_n 2, 1) := by decide +kernel
theorem dX4_testWithoutEach_3 : decode cX4_testWithoutEach 3 = .ok (.aload_n 0, 1) := by decide +kernel
theorem dX4_testWithoutEach_4 : decode cX4_testWithoutEach 4 = .ok (.getfield 10, 3) := by decide +kernel
theorem dX4_testWithoutEach_7 : decode cX4_testWithoutEach 7 = .ok (.getfield 60, 3) := by decide +kernel
theorem dX4_testWithoutEach_10 : decode cX4_testWithoutEach 10 = .ok (.if_icmp .ge 73, 3) := by decide +kernel
theorem dX4_testWithoutEach_13 : decode cX4_testWithoutEach 13 = .ok (.iload_n 1, 1) := by decide +kernel
theorem dX4_testWithoutEach_14 : decode cX4_testWithoutEach 14 = .ok (.iload_n 2, 1) := by decide +kernel
theorem dX4_testWithoutEach_15 : decode cX4_testWithoutEach 15 = .ok (.invokestatic 78, 3) := by decide +kernel
theorem dX4_testWithoutEach_18 : decode cX4_testWithoutEach 18 = .ok (.ifCond .eq 59, 3) := by decide +kernel
theorem dX4_testWithoutEach_21 : decode cX4_testWithoutEach 21 = .ok (.aload_n 0, 1) := by decide +kernel
theorem dX4_testWithoutEach_22 : decode cX4_testWithoutEach 22 = .ok (.getfield 33, 3) := by decide +kernel
theorem dX4_testWithoutEach_25 : decode cX4_testWithoutEach 25 = .ok (.aload_n 0, 1) := by decide +kernel
theorem dX4_testWithoutEach_26 : decode cX4_testWithoutEach 26 = .ok (.getfield 10, 3) := by decide +kernel
theorem dX4_testWithoutEach_29 : decode cX4_testWithoutEach 29 = .ok (.aload_n 0, 1) := by decide +kernel
theorem dX4_testWithoutEach_30 : decode cX4_testWithoutEach 30 = .ok (.getfield 10, 3) := by decide +kernel
theorem dX4_testWithoutEach_33 : decode cX4_testWithoutEach 33 = .ok (.invokevirtual 120, 3) := by decide +kernel
theorem dX4_testWithoutEach_36 : decode cX4_testWithoutEach 36 = .ok (.iload_n 2, 1) := by decide +kernel
theorem dX4_testWithoutEach_37 : decode cX4_testWithoutEach 37 = .ok (.invokestatic 185, 3) := by decide +kernel
theorem dX4_testWithoutEach_40 : decode cX4_testWithoutEach 40 = .ok (.ior, 1) := by decide +kernel
theorem dX4_testWithoutEach_41 : decode cX4_testWithoutEach 41 = .ok (.invokevirtual 160, 3) := by decide +kernel
theorem dX4_testWithoutEach_44 : decode cX4_testWithoutEach 44 = .ok (.aload_n 0, 1) := by decide +kernel
theorem dX4_testWithoutEach_45 : decode cX4_testWithoutEach 45 = .ok (.getfield 41, 3) := by decide +kernel
theorem dX4_testWithoutEach_48 : decode cX4_testWithoutEach 48 = .ok (.iload_n 2, 1) := by decide +kernel
theorem dX4_testWithoutEach_49 : decode cX4_testWithoutEach 49 = .ok (.aload_n 0, 1) := by decide +kernel
theorem dX4_testWithoutEach_50 : decode cX4_testWithoutEach 50 = .ok (.getfield 33, 3) := by decide +kernel
theorem dX4_testWithoutEach_53 : decode cX4_testWithoutEach 53 = .ok (.aload_n 0, 1) := by decide +kernel
theorem dX4_testWithoutEach_54 : decode cX4_testWithoutEach 54 = .ok (.getfield 10, 3) := by decide +kernel
theorem dX4_testWithoutEach_57 : decode cX4_testWithoutEach 57 = .ok (.getfield 117, 3) := by decide +kernel
theorem dX4_testWithoutEach_60 : decode cX4_testWithoutEach 60 = .ok (.invokevirtual 183, 3) := by decide +kernel
theorem dX4_testWithoutEach_63 : decode cX4_testWithoutEach 63 = .ok (.lastore, 1) := by decide +kernel
theorem dX4_testWithoutEach_64 : decode cX4_testWithoutEach 64 = .ok (.aload_n 0, 1) := by decide +kernel
theorem dX4_testWithoutEach_65 : decode cX4_testWithoutEach 65 = .ok (.getfield 45, 3) := by decide +kernel
theorem dX4_testWithoutEach_68 : decode cX4_testWithoutEach 68 = .ok (.iload_n 2, 1) := by decide +kernel
theorem dX4_testWithoutEach_69 : decode cX4_testWithoutEach 69 = .ok (.aload_n 0, 1) := by decide +kernel
theorem dX4_testWithoutEach_70 : decode cX4_testWithoutEach 70 = .ok (.getfield 33, 3) := by decide +kernel
theorem dX4_testWithoutEach_73 : decode cX4_testWithoutEach 73 = .ok (.getfield 168, 3) := by decide +kernel
theorem dX4_testWithoutEach_76 : decode cX4_testWithoutEach 76 = .ok (.lastore, 1) := by decide +kernel
theorem dX4_testWithoutEach_77 : decode cX4_testWithoutEach 77 = .ok (.iinc 2 1, 3) := by decide +kernel
theorem dX4_testWithoutEach_80 : decode cX4_testWithoutEach 80 = .ok (.goto (-78), 3) := by decide +kernel
theorem dX4_testWithoutEach_83 : decode cX4_testWithoutEach 83 = .ok (.return_, 1) := by decide +kernel
/-! ===== FlowMeters.testWithoutEach(I)V ===== -/
def fX4_testWithoutEach_L2 (N : Nat) (n : Nat) (y1 : Int32) (y2 : Int32) (d_t_now_knots : Int32) (d_t_now_flows : Int32) (d_t_now_readSet : Int32) (d_t_now_from : Nat → Int32) (d_t_now_to : Nat → Int32) (d_t_now_reading : Nat → Int32) (d_t_now_miss : Nat → Int32) (d_t_fit_unread : Int32) (d_t_fit_below : Int64) (d_t_fit_heaps_least : Nat → Int32) (d_t_fit_pieces_least : Nat → Int32) (d_t_fit_rows : Nat → Nat → Int64) (d_t_fit_surplus : Nat → Int64) (d_t_testAbove : Nat → Int64) (d_t_testBelow : Nat → Int64) : Option (Int32 × Int64 × (Nat → Int32) × (Nat → Int32) × (Nat → Nat → Int64) × (Nat → Int64) × (Nat → Int64) × (Nat → Int64)) := match n with
  | 0 => none
  | n + 1 =>
    (if d_t_now_flows ≤ y2 then
        some (d_t_fit_unread, d_t_fit_below, d_t_fit_heaps_least, d_t_fit_pieces_least, d_t_fit_rows, d_t_fit_surplus, d_t_testAbove, d_t_testBelow)
      else
        (fX4_holds y1 y2).bind fun v2 =>
        (if v2 = 0 then
          ya_lt (y2 + 1) fun v5 =>
          fX4_testWithoutEach_L2 N n y1 v5 d_t_now_knots d_t_now_flows d_t_now_readSet d_t_now_from d_t_now_to d_t_now_reading d_t_now_miss d_t_fit_unread d_t_fit_below d_t_fit_heaps_least d_t_fit_pieces_least d_t_fit_rows d_t_fit_surplus d_t_testAbove d_t_testBelow
        else
          (fX3_unreadSet d_t_now_flows d_t_now_readSet).bind fun v7 =>
          (fX4_bit y2).bind fun v9 =>
          (fX0_solve N d_t_fit_unread d_t_fit_below d_t_fit_heaps_least d_t_fit_pieces_least d_t_fit_rows d_t_fit_surplus d_t_now_knots d_t_now_flows d_t_now_from d_t_now_to d_t_now_reading d_t_now_miss (v7 ||| v9)).bind fun (v11, v12, v13, v14, v15, v16) =>
          (fX0_testAbove N v15 v16 d_t_now_knots).bind fun v18 =>
          (ya_wr d_t_testAbove 10 y2 v18).bind fun v20 =>
          (ya_wr d_t_testBelow 10 y2 v12).bind fun v22 =>
          ya_lt (y2 + 1) fun v24 =>
          fX4_testWithoutEach_L2 N n y1 v24 d_t_now_knots d_t_now_flows d_t_now_readSet d_t_now_from d_t_now_to d_t_now_reading d_t_now_miss v11 v12 v13 v14 v15 v16 v20 v22))
def fX4_testWithoutEach (N : Nat) (c_t_now_knots : Int32) (c_t_now_flows : Int32) (c_t_now_readSet : Int32) (c_t_now_from : Nat → Int32) (c_t_now_to : Nat → Int32) (c_t_now_reading : Nat → Int32) (c_t_now_miss : Nat → Int32) (c_t_fit_unread : Int32) (c_t_fit_below : Int64) (c_t_fit_heaps_least : Nat → Int32) (c_t_fit_pieces_least : Nat → Int32) (c_t_fit_rows : Nat → Nat → Int64) (c_t_fit_surplus : Nat → Int64) (c_t_testAbove : Nat → Int64) (c_t_testBelow : Nat → Int64) (x1 : Int32) : Option (Int32 × Int64 × (Nat → Int32) × (Nat → Int32) × (Nat → Nat → Int64) × (Nat → Int64) × (Nat → Int64) × (Nat → Int64)) :=
  (fX4_testWithoutEach_L2 N N x1 0 c_t_now_knots c_t_now_flows c_t_now_readSet c_t_now_from c_t_now_to c_t_now_reading c_t_now_miss c_t_fit_unread c_t_fit_below c_t_fit_heaps_least c_t_fit_pieces_least c_t_fit_rows c_t_fit_surplus c_t_testAbove c_t_testBelow).bind fun (v26, v27, v28, v29, v30, v31, v32, v33) =>
  some (v26, v27, v28, v29, v30, v31, v32, v33)
theorem fX4_testWithoutEach_10 : yF wsX4_testWithoutEach RX4 10 4 0 RX4 TX4 7 := ⟨rfl, by decide, by decide +kernel, by decide +kernel⟩
theorem fX4_testWithoutEach_60 : yF wsX4_testWithoutEach RX4 60 3 1 RX3 TX3 11 := ⟨rfl, by decide, by decide +kernel, by decide +kernel⟩
theorem fX4_testWithoutEach_33 : yF wsX4_testWithoutEach RX4 33 4 3 RX4 TX4 7 := ⟨rfl, by decide, by decide +kernel, by decide +kernel⟩
theorem fX4_testWithoutEach_41 : yF wsX4_testWithoutEach RX4 41 4 5 RX4 TX4 7 := ⟨rfl, by decide, by decide +kernel, by decide +kernel⟩
theorem fX4_testWithoutEach_117 : yF wsX4_testWithoutEach RX4 117 3 0 RX3 TX3 11 := ⟨rfl, by decide, by decide +kernel, by decide +kernel⟩
theorem fX4_testWithoutEach_45 : yF wsX4_testWithoutEach RX4 45 4 6 RX4 TX4 7 := ⟨rfl, by decide, by decide +kernel, by decide +kernel⟩
theorem fX4_testWithoutEach_168 : yF wsX4_testWithoutEach RX4 168 0 6 RX0 TX0 7 := ⟨rfl, by decide, by decide +kernel, by decide +kernel⟩
abbrev rmX4_testWithoutEach : Room := { frames := 4, cells := 0, slots := 0, locals := 119 }
theorem eX4_testWithoutEach : yY yX4_testWithoutEach wsX4_testWithoutEach cX4_testWithoutEach 3 none rmX4_testWithoutEach 1 := ⟨⟨_, rfl⟩, rfl, rfl, by decide, by decide, by decide +kernel⟩
set_option maxHeartbeats 4000000 in
set_option maxRecDepth 100000 in
theorem mX4_testWithoutEach {l : Launch} {D : va_G} {sz : Nat} {cI cJ cZ cW cR : ClassId} {N : Nat} {h_t : Nat} {A_t : Nat → Nat} {A_t_now : Nat → Nat} {A_t_fit : Nat → Nat} {A_t_fit_heaps : Nat → Nat} {A_t_fit_pieces : Nat → Nat} {A_t_fit_rows : Nat → Nat} {c_t_now_knots : Int32} {c_t_now_flows : Int32} {c_t_now_readSet : Int32} {c_t_now_from : Nat → Int32} {c_t_now_to : Nat → Int32} {c_t_now_reading : Nat → Int32} {c_t_now_miss : Nat → Int32} {c_t_fit_unread : Int32} {c_t_fit_below : Int64} {c_t_fit_heaps_least : Nat → Int32} {c_t_fit_pieces_least : Nat → Int32} {c_t_fit_rows : Nat → Nat → Int64} {c_t_fit_surplus : Nat → Int64} {c_t_testAbove : Nat → Int64} {c_t_testBelow : Nat → Int64} {x1 : Int32} {zc_t_fit_unread : Int32} {zc_t_fit_below : Int64} {zc_t_fit_heaps_least : Nat → Int32} {zc_t_fit_pieces_least : Nat → Int32} {zc_t_fit_rows : Nat → Nat → Int64} {zc_t_fit_surplus : Nat → Int64} {zc_t_testAbove : Nat → Int64} {zc_t_testBelow : Nat → Int64} (hf : fX4_testWithoutEach N c_t_now_knots c_t_now_flows c_t_now_readSet c_t_now_from c_t_now_to c_t_now_reading c_t_now_miss c_t_fit_unread c_t_fit_below c_t_fit_heaps_least c_t_fit_pieces_least c_t_fit_rows c_t_fit_surplus c_t_testAbove c_t_testBelow x1 = some (zc_t_fit_unread, zc_t_fit_below, zc_t_fit_heaps_least, zc_t_fit_pieces_least, zc_t_fit_rows, zc_t_fit_surplus, zc_t_testAbove, zc_t_testBelow)) : Met l yX4_testWithoutEach wsX4_testWithoutEach rmX4_testWithoutEach (yP D (yT cI cJ cZ cW cR) [(h_t, oM A_t), (A_t 0, oW A_t_now c_t_now_knots c_t_now_flows c_t_now_readSet), (A_t_now 0, eI cI 10 c_t_now_from), (A_t_now 1, eI cI 10 c_t_now_to), (A_t_now 2, eI cI 10 c_t_now_reading), (A_t_now 3, eI cI 10 c_t_now_miss), (A_t 3, oF A_t_fit c_t_fit_unread c_t_fit_below), (A_t_fit 0, oG A_t_fit_heaps), (A_t_fit_heaps 0, eI cI 6 c_t_fit_heaps_least), (A_t_fit 1, oG A_t_fit_pieces), (A_t_fit_pieces 0, eI cI 6 c_t_fit_pieces_least), (A_t_fit 3, eQ cR 6 A_t_fit_rows), (A_t_fit_rows 0, eJ cJ 7 (c_t_fit_rows 0)), (A_t_fit_rows 1, eJ cJ 7 (c_t_fit_rows 1)), (A_t_fit_rows 2, eJ cJ 7 (c_t_fit_rows 2)), (A_t_fit_rows 3, eJ cJ 7 (c_t_fit_rows 3)), (A_t_fit_rows 4, eJ cJ 7 (c_t_fit_rows 4)), (A_t_fit_rows 5, eJ cJ 7 (c_t_fit_rows 5)), (A_t_fit 4, eJ cJ 6 c_t_fit_surplus), (A_t 5, eJ cJ 10 c_t_testAbove), (A_t 6, eJ cJ 10 c_t_testBelow)] sz [.ref h_t, .int x1]) (yQv D (yT cI cJ cZ cW cR) [(h_t, oM A_t), (A_t 0, oW A_t_now c_t_now_knots c_t_now_flows c_t_now_readSet), (A_t_now 0, eI cI 10 c_t_now_from), (A_t_now 1, eI cI 10 c_t_now_to), (A_t_now 2, eI cI 10 c_t_now_reading), (A_t_now 3, eI cI 10 c_t_now_miss), (A_t 3, oF A_t_fit zc_t_fit_unread zc_t_fit_below), (A_t_fit 0, oG A_t_fit_heaps), (A_t_fit_heaps 0, eI cI 6 zc_t_fit_heaps_least), (A_t_fit 1, oG A_t_fit_pieces), (A_t_fit_pieces 0, eI cI 6 zc_t_fit_pieces_least), (A_t_fit 3, eQ cR 6 A_t_fit_rows), (A_t_fit_rows 0, eJ cJ 7 (zc_t_fit_rows 0)), (A_t_fit_rows 1, eJ cJ 7 (zc_t_fit_rows 1)), (A_t_fit_rows 2, eJ cJ 7 (zc_t_fit_rows 2)), (A_t_fit_rows 3, eJ cJ 7 (zc_t_fit_rows 3)), (A_t_fit_rows 4, eJ cJ 7 (zc_t_fit_rows 4)), (A_t_fit_rows 5, eJ cJ 7 (zc_t_fit_rows 5)), (A_t_fit 4, eJ cJ 6 zc_t_fit_surplus), (A_t 5, eJ cJ 10 zc_t_testAbove), (A_t 6, eJ cJ 10 zc_t_testBelow)] (va_A [(h_t, oM A_t), (A_t 0, oW A_t_now c_t_now_knots c_t_now_flows c_t_now_readSet), (A_t_now 0, eI cI 10 c_t_now_from), (A_t_now 1, eI cI 10 c_t_now_to), (A_t_now 2, eI cI 10 c_t_now_reading), (A_t_now 3, eI cI 10 c_t_now_miss), (A_t 3, oF A_t_fit c_t_fit_unread c_t_fit_below), (A_t_fit 0, oG A_t_fit_heaps), (A_t_fit_heaps 0, eI cI 6 c_t_fit_heaps_least), (A_t_fit 1, oG A_t_fit_pieces), (A_t_fit_pieces 0, eI cI 6 c_t_fit_pieces_least), (A_t_fit 3, eQ cR 6 A_t_fit_rows), (A_t_fit_rows 0, eJ cJ 7 (c_t_fit_rows 0)), (A_t_fit_rows 1, eJ cJ 7 (c_t_fit_rows 1)), (A_t_fit_rows 2, eJ cJ 7 (c_t_fit_rows 2)), (A_t_fit_rows 3, eJ cJ 7 (c_t_fit_rows 3)), (A_t_fit_rows 4, eJ cJ 7 (c_t_fit_rows 4)), (A_t_fit_rows 5, eJ cJ 7 (c_t_fit_rows 5)), (A_t_fit 4, eJ cJ 6 c_t_fit_surplus), (A_t 5, eJ cJ 10 c_t_testAbove), (A_t 6, eJ cJ 10 c_t_testBelow)] sz)) 0 0 (va_A [(h_t, oM A_t), (A_t 0, oW A_t_now c_t_now_knots c_t_now_flows c_t_now_readSet), (A_t_now 0, eI cI 10 c_t_now_from), (A_t_now 1, eI cI 10 c_t_now_to), (A_t_now 2, eI cI 10 c_t_now_reading), (A_t_now 3, eI cI 10 c_t_now_miss), (A_t 3, oF A_t_fit c_t_fit_unread c_t_fit_below), (A_t_fit 0, oG A_t_fit_heaps), (A_t_fit_heaps 0, eI cI 6 c_t_fit_heaps_least), (A_t_fit 1, oG A_t_fit_pieces), (A_t_fit_pieces 0, eI cI 6 c_t_fit_pieces_least), (A_t_fit 3, eQ cR 6 A_t_fit_rows), (A_t_fit_rows 0, eJ cJ 7 (c_t_fit_rows 0)), (A_t_fit_rows 1, eJ cJ 7 (c_t_fit_rows 1)), (A_t_fit_rows 2, eJ cJ 7 (c_t_fit_rows 2)), (A_t_fit_rows 3, eJ cJ 7 (c_t_fit_rows 3)), (A_t_fit_rows 4, eJ cJ 7 (c_t_fit_rows 4)), (A_t_fit_rows 5, eJ cJ 7 (c_t_fit_rows 5)), (A_t_fit 4, eJ cJ 6 c_t_fit_surplus), (A_t 5, eJ cJ 10 c_t_testAbove), (A_t 6, eJ cJ 10 c_t_testBelow)] sz) := by
  refine yM (cc := cX4_testWithoutEach) (maxL := 3) (ret := none) RX4 (by decide) rfl rfl (Nat.le_of_ble_eq_true rfl) ?_
  intro p e s m below meth c Γ hr
  have loop2 : ∀ (n : Nat) (y1 : Int32) (y2 : Int32) (d_t_now_knots : Int32) (d_t_now_flows : Int32) (d_t_now_readSet : Int32) (d_t_now_from : Nat → Int32) (d_t_now_to : Nat → Int32) (d_t_now_reading : Nat → Int32) (d_t_now_miss : Nat → Int32) (d_t_fit_unread : Int32) (d_t_fit_below : Int64) (d_t_fit_heaps_least : Nat → Int32) (d_t_fit_pieces_least : Nat → Int32) (d_t_fit_rows : Nat → Nat → Int64) (d_t_fit_surplus : Nat → Int64) (d_t_testAbove : Nat → Int64) (d_t_testBelow : Nat → Int64) (w0 : Int32) (w1 : Int64) (w2 : Nat → Int32) (w3 : Nat → Int32) (w4 : Nat → Nat → Int64) (w5 : Nat → Int64) (w6 : Nat → Int64) (w7 : Nat → Int64), fX4_testWithoutEach_L2 N n y1 y2 d_t_now_knots d_t_now_flows d_t_now_readSet d_t_now_from d_t_now_to d_t_now_reading d_t_now_miss d_t_fit_unread d_t_fit_below d_t_fit_heaps_least d_t_fit_pieces_least d_t_fit_rows d_t_fit_surplus d_t_testAbove d_t_testBelow = some (w0, w1, w2, w3, w4, w5, w6, w7) → yG p l e (headSpec wsX4_testWithoutEach rmX4_testWithoutEach).room s m (List.toArray [.ref h_t, .int x1]) below meth c D (va_A [(h_t, oM A_t), (A_t 0, oW A_t_now c_t_now_knots c_t_now_flows c_t_now_readSet), (A_t_now 0, eI cI 10 c_t_now_from), (A_t_now 1, eI cI 10 c_t_now_to), (A_t_now 2, eI cI 10 c_t_now_reading), (A_t_now 3, eI cI 10 c_t_now_miss), (A_t 3, oF A_t_fit c_t_fit_unread c_t_fit_below), (A_t_fit 0, oG A_t_fit_heaps), (A_t_fit_heaps 0, eI cI 6 c_t_fit_heaps_least), (A_t_fit 1, oG A_t_fit_pieces), (A_t_fit_pieces 0, eI cI 6 c_t_fit_pieces_least), (A_t_fit 3, eQ cR 6 A_t_fit_rows), (A_t_fit_rows 0, eJ cJ 7 (c_t_fit_rows 0)), (A_t_fit_rows 1, eJ cJ 7 (c_t_fit_rows 1)), (A_t_fit_rows 2, eJ cJ 7 (c_t_fit_rows 2)), (A_t_fit_rows 3, eJ cJ 7 (c_t_fit_rows 3)), (A_t_fit_rows 4, eJ cJ 7 (c_t_fit_rows 4)), (A_t_fit_rows 5, eJ cJ 7 (c_t_fit_rows 5)), (A_t_fit 4, eJ cJ 6 c_t_fit_surplus), (A_t 5, eJ cJ 10 c_t_testAbove), (A_t 6, eJ cJ 10 c_t_testBelow)] sz) 3 0 0 (MQ below (yQv D (yT cI cJ cZ cW cR) [(h_t, oM A_t), (A_t 0, oW A_t_now c_t_now_knots c_t_now_flows c_t_now_readSet), (A_t_now 0, eI cI 10 c_t_now_from), (A_t_now 1, eI cI 10 c_t_now_to), (A_t_now 2, eI cI 10 c_t_now_reading), (A_t_now 3, eI cI 10 c_t_now_miss), (A_t 3, oF A_t_fit zc_t_fit_unread zc_t_fit_below), (A_t_fit 0, oG A_t_fit_heaps), (A_t_fit_heaps 0, eI cI 6 zc_t_fit_heaps_least), (A_t_fit 1, oG A_t_fit_pieces), (A_t_fit_pieces 0, eI cI 6 zc_t_fit_pieces_least), (A_t_fit 3, eQ cR 6 A_t_fit_rows), (A_t_fit_rows 0, eJ cJ 7 (zc_t_fit_rows 0)), (A_t_fit_rows 1, eJ cJ 7 (zc_t_fit_rows 1)), (A_t_fit_rows 2, eJ cJ 7 (zc_t_fit_rows 2)), (A_t_fit_rows 3, eJ cJ 7 (zc_t_fit_rows 3)), (A_t_fit_rows 4, eJ cJ 7 (zc_t_fit_rows 4)), (A_t_fit_rows 5, eJ cJ 7 (zc_t_fit_rows 5)), (A_t_fit 4, eJ cJ 6 zc_t_fit_surplus), (A_t 5, eJ cJ 10 zc_t_testAbove), (A_t 6, eJ cJ 10 zc_t_testBelow)] (va_A [(h_t, oM A_t), (A_t 0, oW A_t_now c_t_now_knots c_t_now_flows c_t_now_readSet), (A_t_now 0, eI cI 10 c_t_now_from), (A_t_now 1, eI cI 10 c_t_now_to), (A_t_now 2, eI cI 10 c_t_now_reading), (A_t_now 3, eI cI 10 c_t_now_miss), (A_t 3, oF A_t_fit c_t_fit_unread c_t_fit_below), (A_t_fit 0, oG A_t_fit_heaps), (A_t_fit_heaps 0, eI cI 6 c_t_fit_heaps_least), (A_t_fit 1, oG A_t_fit_pieces), (A_t_fit_pieces 0, eI cI 6 c_t_fit_pieces_least), (A_t_fit 3, eQ cR 6 A_t_fit_rows), (A_t_fit_rows 0, eJ cJ 7 (c_t_fit_rows 0)), (A_t_fit_rows 1, eJ cJ 7 (c_t_fit_rows 1)), (A_t_fit_rows 2, eJ cJ 7 (c_t_fit_rows 2)), (A_t_fit_rows 3, eJ cJ 7 (c_t_fit_rows 3)), (A_t_fit_rows 4, eJ cJ 7 (c_t_fit_rows 4)), (A_t_fit_rows 5, eJ cJ 7 (c_t_fit_rows 5)), (A_t_fit 4, eJ cJ 6 c_t_fit_surplus), (A_t 5, eJ cJ 10 c_t_testAbove), (A_t 6, eJ cJ 10 c_t_testBelow)] sz)) (List.toArray [.ref h_t, .int x1]) s 0 0 (va_A [(h_t, oM A_t), (A_t 0, oW A_t_now c_t_now_knots c_t_now_flows c_t_now_readSet), (A_t_now 0, eI cI 10 c_t_now_from), (A_t_now 1, eI cI 10 c_t_now_to), (A_t_now 2, eI cI 10 c_t_now_reading), (A_t_now 3, eI cI 10 c_t_now_miss), (A_t 3, oF A_t_fit c_t_fit_unread c_t_fit_below), (A_t_fit 0, oG A_t_fit_heaps), (A_t_fit_heaps 0, eI cI 6 c_t_fit_heaps_least), (A_t_fit 1, oG A_t_fit_pieces), (A_t_fit_pieces 0, eI cI 6 c_t_fit_pieces_least), (A_t_fit 3, eQ cR 6 A_t_fit_rows), (A_t_fit_rows 0, eJ cJ 7 (c_t_fit_rows 0)), (A_t_fit_rows 1, eJ cJ 7 (c_t_fit_rows 1)), (A_t_fit_rows 2, eJ cJ 7 (c_t_fit_rows 2)), (A_t_fit_rows 3, eJ cJ 7 (c_t_fit_rows 3)), (A_t_fit_rows 4, eJ cJ 7 (c_t_fit_rows 4)), (A_t_fit_rows 5, eJ cJ 7 (c_t_fit_rows 5)), (A_t_fit 4, eJ cJ 6 c_t_fit_surplus), (A_t 5, eJ cJ 10 c_t_testAbove), (A_t 6, eJ cJ 10 c_t_testBelow)] sz)) 83 [] [] [(h_t, oM A_t), (A_t 0, oW A_t_now d_t_now_knots d_t_now_flows d_t_now_readSet), (A_t_now 0, eI cI 10 d_t_now_from), (A_t_now 1, eI cI 10 d_t_now_to), (A_t_now 2, eI cI 10 d_t_now_reading), (A_t_now 3, eI cI 10 d_t_now_miss), (A_t 3, oF A_t_fit w0 w1), (A_t_fit 0, oG A_t_fit_heaps), (A_t_fit_heaps 0, eI cI 6 w2), (A_t_fit 1, oG A_t_fit_pieces), (A_t_fit_pieces 0, eI cI 6 w3), (A_t_fit 3, eQ cR 6 A_t_fit_rows), (A_t_fit_rows 0, eJ cJ 7 (w4 0)), (A_t_fit_rows 1, eJ cJ 7 (w4 1)), (A_t_fit_rows 2, eJ cJ 7 (w4 2)), (A_t_fit_rows 3, eJ cJ 7 (w4 3)), (A_t_fit_rows 4, eJ cJ 7 (w4 4)), (A_t_fit_rows 5, eJ cJ 7 (w4 5)), (A_t_fit 4, eJ cJ 6 w5), (A_t 5, eJ cJ 10 w6), (A_t 6, eJ cJ 10 w7)] → yG p l e (headSpec wsX4_testWithoutEach rmX4_testWithoutEach).room s m (List.toArray [.ref h_t, .int x1]) below meth c D (va_A [(h_t, oM A_t), (A_t 0, oW A_t_now c_t_now_knots c_t_now_flows c_t_now_readSet), (A_t_now 0, eI cI 10 c_t_now_from), (A_t_now 1, eI cI 10 c_t_now_to), (A_t_now 2, eI cI 10 c_t_now_reading), (A_t_now 3, eI cI 10 c_t_now_miss), (A_t 3, oF A_t_fit c_t_fit_unread c_t_fit_below), (A_t_fit 0, oG A_t_fit_heaps), (A_t_fit_heaps 0, eI cI 6 c_t_fit_heaps_least), (A_t_fit 1, oG A_t_fit_pieces), (A_t_fit_pieces 0, eI cI 6 c_t_fit_pieces_least), (A_t_fit 3, eQ cR 6 A_t_fit_rows), (A_t_fit_rows 0, eJ cJ 7 (c_t_fit_rows 0)), (A_t_fit_rows 1, eJ cJ 7 (c_t_fit_rows 1)), (A_t_fit_rows 2, eJ cJ 7 (c_t_fit_rows 2)), (A_t_fit_rows 3, eJ cJ 7 (c_t_fit_rows 3)), (A_t_fit_rows 4, eJ cJ 7 (c_t_fit_rows 4)), (A_t_fit_rows 5, eJ cJ 7 (c_t_fit_rows 5)), (A_t_fit 4, eJ cJ 6 c_t_fit_surplus), (A_t 5, eJ cJ 10 c_t_testAbove), (A_t 6, eJ cJ 10 c_t_testBelow)] sz) 3 0 0 (MQ below (yQv D (yT cI cJ cZ cW cR) [(h_t, oM A_t), (A_t 0, oW A_t_now c_t_now_knots c_t_now_flows c_t_now_readSet), (A_t_now 0, eI cI 10 c_t_now_from), (A_t_now 1, eI cI 10 c_t_now_to), (A_t_now 2, eI cI 10 c_t_now_reading), (A_t_now 3, eI cI 10 c_t_now_miss), (A_t 3, oF A_t_fit zc_t_fit_unread zc_t_fit_below), (A_t_fit 0, oG A_t_fit_heaps), (A_t_fit_heaps 0, eI cI 6 zc_t_fit_heaps_least), (A_t_fit 1, oG A_t_fit_pieces), (A_t_fit_pieces 0, eI cI 6 zc_t_fit_pieces_least), (A_t_fit 3, eQ cR 6 A_t_fit_rows), (A_t_fit_rows 0, eJ cJ 7 (zc_t_fit_rows 0)), (A_t_fit_rows 1, eJ cJ 7 (zc_t_fit_rows 1)), (A_t_fit_rows 2, eJ cJ 7 (zc_t_fit_rows 2)), (A_t_fit_rows 3, eJ cJ 7 (zc_t_fit_rows 3)), (A_t_fit_rows 4, eJ cJ 7 (zc_t_fit_rows 4)), (A_t_fit_rows 5, eJ cJ 7 (zc_t_fit_rows 5)), (A_t_fit 4, eJ cJ 6 zc_t_fit_surplus), (A_t 5, eJ cJ 10 zc_t_testAbove), (A_t 6, eJ cJ 10 zc_t_testBelow)] (va_A [(h_t, oM A_t), (A_t 0, oW A_t_now c_t_now_knots c_t_now_flows c_t_now_readSet), (A_t_now 0, eI cI 10 c_t_now_from), (A_t_now 1, eI cI 10 c_t_now_to), (A_t_now 2, eI cI 10 c_t_now_reading), (A_t_now 3, eI cI 10 c_t_now_miss), (A_t 3, oF A_t_fit c_t_fit_unread c_t_fit_below), (A_t_fit 0, oG A_t_fit_heaps), (A_t_fit_heaps 0, eI cI 6 c_t_fit_heaps_least), (A_t_fit 1, oG A_t_fit_pieces), (A_t_fit_pieces 0, eI cI 6 c_t_fit_pieces_least), (A_t_fit 3, eQ cR 6 A_t_fit_rows), (A_t_fit_rows 0, eJ cJ 7 (c_t_fit_rows 0)), (A_t_fit_rows 1, eJ cJ 7 (c_t_fit_rows 1)), (A_t_fit_rows 2, eJ cJ 7 (c_t_fit_rows 2)), (A_t_fit_rows 3, eJ cJ 7 (c_t_fit_rows 3)), (A_t_fit_rows 4, eJ cJ 7 (c_t_fit_rows 4)), (A_t_fit_rows 5, eJ cJ 7 (c_t_fit_rows 5)), (A_t_fit 4, eJ cJ 6 c_t_fit_surplus), (A_t 5, eJ cJ 10 c_t_testAbove), (A_t 6, eJ cJ 10 c_t_testBelow)] sz)) (List.toArray [.ref h_t, .int x1]) s 0 0 (va_A [(h_t, oM A_t), (A_t 0, oW A_t_now c_t_now_knots c_t_now_flows c_t_now_readSet), (A_t_now 0, eI cI 10 c_t_now_from), (A_t_now 1, eI cI 10 c_t_now_to), (A_t_now 2, eI cI 10 c_t_now_reading), (A_t_now 3, eI cI 10 c_t_now_miss), (A_t 3, oF A_t_fit c_t_fit_unread c_t_fit_below), (A_t_fit 0, oG A_t_fit_heaps), (A_t_fit_heaps 0, eI cI 6 c_t_fit_heaps_least), (A_t_fit 1, oG A_t_fit_pieces), (A_t_fit_pieces 0, eI cI 6 c_t_fit_pieces_least), (A_t_fit 3, eQ cR 6 A_t_fit_rows), (A_t_fit_rows 0, eJ cJ 7 (c_t_fit_rows 0)), (A_t_fit_rows 1, eJ cJ 7 (c_t_fit_rows 1)), (A_t_fit_rows 2, eJ cJ 7 (c_t_fit_rows 2)), (A_t_fit_rows 3, eJ cJ 7 (c_t_fit_rows 3)), (A_t_fit_rows 4, eJ cJ 7 (c_t_fit_rows 4)), (A_t_fit_rows 5, eJ cJ 7 (c_t_fit_rows 5)), (A_t_fit 4, eJ cJ 6 c_t_fit_surplus), (A_t 5, eJ cJ 10 c_t_testAbove), (A_t 6, eJ cJ 10 c_t_testBelow)] sz)) 2 [(0, .ref h_t), (1, .int y1), (2, .int y2)] [] [(h_t, oM A_t), (A_t 0, oW A_t_now d_t_now_knots d_t_now_flows d_t_now_readSet), (A_t_now 0, eI cI 10 d_t_now_from), (A_t_now 1, eI cI 10 d_t_now_to), (A_t_now 2, eI cI 10 d_t_now_reading), (A_t_now 3, eI cI 10 d_t_now_miss), (A_t 3, oF A_t_fit d_t_fit_unread d_t_fit_below), (A_t_fit 0, oG A_t_fit_heaps), (A_t_fit_heaps 0, eI cI 6 d_t_fit_heaps_least), (A_t_fit 1, oG A_t_fit_pieces), (A_t_fit_pieces 0, eI cI 6 d_t_fit_pieces_least), (A_t_fit 3, eQ cR 6 A_t_fit_rows), (A_t_fit_rows 0, eJ cJ 7 (d_t_fit_rows 0)), (A_t_fit_rows 1, eJ cJ 7 (d_t_fit_rows 1)), (A_t_fit_rows 2, eJ cJ 7 (d_t_fit_rows 2)), (A_t_fit_rows 3, eJ cJ 7 (d_t_fit_rows 3)), (A_t_fit_rows 4, eJ cJ 7 (d_t_fit_rows 4)), (A_t_fit_rows 5, eJ cJ 7 (d_t_fit_rows 5)), (A_t_fit 4, eJ cJ 6 d_t_fit_surplus), (A_t 5, eJ cJ 10 d_t_testAbove), (A_t 6, eJ cJ 10 d_t_testBelow)] := by
    intro n
    induction n with
    | zero =>
      intro y1 y2 d_t_now_knots d_t_now_flows d_t_now_readSet d_t_now_from d_t_now_to d_t_now_reading d_t_now_miss d_t_fit_unread d_t_fit_below d_t_fit_heaps_least d_t_fit_pieces_least d_t_fit_rows d_t_fit_surplus d_t_testAbove d_t_testBelow w0 w1 w2 w3 w4 w5 w6 w7 hf
      cases hf
    | succ n ih =>
      intro y1 y2 d_t_now_knots d_t_now_flows d_t_now_readSet d_t_now_from d_t_now_to d_t_now_reading d_t_now_miss d_t_fit_unread d_t_fit_below d_t_fit_heaps_least d_t_fit_pieces_least d_t_fit_rows d_t_fit_surplus d_t_testAbove d_t_testBelow w0 w1 w2 w3 w4 w5 w6 w7 hf hk
      unfold fX4_testWithoutEach_L2 at hf
      refine g_iload_n Γ 2 dX4_testWithoutEach_2 rfl ?_
      refine g_aload_n Γ 0 dX4_testWithoutEach_3 rfl ?_
      refine g_get Γ fX4_testWithoutEach_10 0 rfl rfl dX4_testWithoutEach_4 ?_
      refine g_get Γ fX4_testWithoutEach_60 1 rfl rfl dX4_testWithoutEach_7 ?_
      refine g_icmp_ge Γ 83 dX4_testWithoutEach_10 (by decide) (fun c1 => ?_) (fun c1 => ?_)
      · have hf := ya_if1 c1 hf
        cases hf
        refine g_lv [] rfl ?_
        exact hk
      · have hf := ya_if2 c1 hf
        refine g_iload_n Γ 1 dX4_testWithoutEach_13 rfl ?_
        refine g_iload_n Γ 2 dX4_testWithoutEach_14 rfl ?_
        obtain ⟨v2, e3, hf⟩ := ya_ob hf
        refine g_si (wr := [(h_t, oM A_t), (A_t 0, oW A_t_now d_t_now_knots d_t_now_flows d_t_now_readSet), (A_t_now 0, eI cI 10 d_t_now_from), (A_t_now 1, eI cI 10 d_t_now_to), (A_t_now 2, eI cI 10 d_t_now_reading), (A_t_now 3, eI cI 10 d_t_now_miss), (A_t 3, oF A_t_fit d_t_fit_unread d_t_fit_below), (A_t_fit 0, oG A_t_fit_heaps), (A_t_fit_heaps 0, eI cI 6 d_t_fit_heaps_least), (A_t_fit 1, oG A_t_fit_pieces), (A_t_fit_pieces 0, eI cI 6 d_t_fit_pieces_least), (A_t_fit 3, eQ cR 6 A_t_fit_rows), (A_t_fit_rows 0, eJ cJ 7 (d_t_fit_rows 0)), (A_t_fit_rows 1, eJ cJ 7 (d_t_fit_rows 1)), (A_t_fit_rows 2, eJ cJ 7 (d_t_fit_rows 2)), (A_t_fit_rows 3, eJ cJ 7 (d_t_fit_rows 3)), (A_t_fit_rows 4, eJ cJ 7 (d_t_fit_rows 4)), (A_t_fit_rows 5, eJ cJ 7 (d_t_fit_rows 5)), (A_t_fit 4, eJ cJ 6 d_t_fit_surplus), (A_t 5, eJ cJ 10 d_t_testAbove), (A_t 6, eJ cJ 10 d_t_testBelow)]) (ws' := [(h_t, oM A_t), (A_t 0, oW A_t_now d_t_now_knots d_t_now_flows d_t_now_readSet), (A_t_now 0, eI cI 10 d_t_now_from), (A_t_now 1, eI cI 10 d_t_now_to), (A_t_now 2, eI cI 10 d_t_now_reading), (A_t_now 3, eI cI 10 d_t_now_miss), (A_t 3, oF A_t_fit d_t_fit_unread d_t_fit_below), (A_t_fit 0, oG A_t_fit_heaps), (A_t_fit_heaps 0, eI cI 6 d_t_fit_heaps_least), (A_t_fit 1, oG A_t_fit_pieces), (A_t_fit_pieces 0, eI cI 6 d_t_fit_pieces_least), (A_t_fit 3, eQ cR 6 A_t_fit_rows), (A_t_fit_rows 0, eJ cJ 7 (d_t_fit_rows 0)), (A_t_fit_rows 1, eJ cJ 7 (d_t_fit_rows 1)), (A_t_fit_rows 2, eJ cJ 7 (d_t_fit_rows 2)), (A_t_fit_rows 3, eJ cJ 7 (d_t_fit_rows 3)), (A_t_fit_rows 4, eJ cJ 7 (d_t_fit_rows 4)), (A_t_fit_rows 5, eJ cJ 7 (d_t_fit_rows 5)), (A_t_fit 4, eJ cJ 6 d_t_fit_surplus), (A_t 5, eJ cJ 10 d_t_testAbove), (A_t 6, eJ cJ 10 d_t_testBelow)]) Γ (fun sz => mX4_holds (l := l) (D := D) (sz := sz) (cI := cI) (cJ := cJ) (cZ := cZ) (cW := cW) (cR := cR)  (hf := e3)) eX4_holds ggX4_testWithoutEach_X4_holds (by decide +kernel) (by decide +kernel) (by decide +kernel) rfl rfl (Nat.le_of_ble_eq_true rfl) ⟨Nat.le_of_ble_eq_true rfl, Nat.le_of_ble_eq_true rfl⟩ dX4_testWithoutEach_15 [] [0, 1, 2, 3, 4, 5, 6, 7, 8, 9, 10, 11, 12, 13, 14, 15, 16, 17, 18, 19, 20] rfl rfl rfl rfl (by decide) rfl ?_
        refine g_if_eq Γ 77 dX4_testWithoutEach_18 (by decide) (fun c4 => ?_) (fun c4 => ?_)
        · have hf := ya_if1 c4 hf
          obtain ⟨v5, e6, hf⟩ := ya_lt_inv hf
          refine g_iinc (lv' := [(2, .int v5), (0, .ref h_t), (1, .int y1)]) Γ 2 dX4_testWithoutEach_77 rfl (by rw [e6]; rfl) (by decide) rfl ?_
          refine g_goto Γ 2 dX4_testWithoutEach_80 (by decide) ?_
          refine g_lv [1, 2, 0] rfl ?_
          exact ih _ _ _ _ _ _ _ _ _ _ _ _ _ _ _ _ _ _ _ _ _ _ _ _ _ hf hk
        · have hf := ya_if2 c4 hf
          refine g_aload_n Γ 0 dX4_testWithoutEach_21 rfl ?_
          refine g_get Γ fX4_testWithoutEach_33 0 rfl rfl dX4_testWithoutEach_22 ?_
          refine g_aload_n Γ 0 dX4_testWithoutEach_25 rfl ?_
          refine g_get Γ fX4_testWithoutEach_10 0 rfl rfl dX4_testWithoutEach_26 ?_
          refine g_aload_n Γ 0 dX4_testWithoutEach_29 rfl ?_
          refine g_get Γ fX4_testWithoutEach_10 0 rfl rfl dX4_testWithoutEach_30 ?_
          obtain ⟨v7, e8, hf⟩ := ya_ob hf
          refine g_vi (q := (RX3, TX3, 11)) (wr := [(h_t, oM A_t), (A_t_now 0, eI cI 10 d_t_now_from), (A_t_now 1, eI cI 10 d_t_now_to), (A_t_now 2, eI cI 10 d_t_now_reading), (A_t_now 3, eI cI 10 d_t_now_miss), (A_t 3, oF A_t_fit d_t_fit_unread d_t_fit_below), (A_t_fit 0, oG A_t_fit_heaps), (A_t_fit_heaps 0, eI cI 6 d_t_fit_heaps_least), (A_t_fit 1, oG A_t_fit_pieces), (A_t_fit_pieces 0, eI cI 6 d_t_fit_pieces_least), (A_t_fit 3, eQ cR 6 A_t_fit_rows), (A_t_fit_rows 0, eJ cJ 7 (d_t_fit_rows 0)), (A_t_fit_rows 1, eJ cJ 7 (d_t_fit_rows 1)), (A_t_fit_rows 2, eJ cJ 7 (d_t_fit_rows 2)), (A_t_fit_rows 3, eJ cJ 7 (d_t_fit_rows 3)), (A_t_fit_rows 4, eJ cJ 7 (d_t_fit_rows 4)), (A_t_fit_rows 5, eJ cJ 7 (d_t_fit_rows 5)), (A_t_fit 4, eJ cJ 6 d_t_fit_surplus), (A_t 5, eJ cJ 10 d_t_testAbove), (A_t 6, eJ cJ 10 d_t_testBelow)]) (ws' := [(h_t, oM A_t), (A_t_now 0, eI cI 10 d_t_now_from), (A_t_now 1, eI cI 10 d_t_now_to), (A_t_now 2, eI cI 10 d_t_now_reading), (A_t_now 3, eI cI 10 d_t_now_miss), (A_t 3, oF A_t_fit d_t_fit_unread d_t_fit_below), (A_t_fit 0, oG A_t_fit_heaps), (A_t_fit_heaps 0, eI cI 6 d_t_fit_heaps_least), (A_t_fit 1, oG A_t_fit_pieces), (A_t_fit_pieces 0, eI cI 6 d_t_fit_pieces_least), (A_t_fit 3, eQ cR 6 A_t_fit_rows), (A_t_fit_rows 0, eJ cJ 7 (d_t_fit_rows 0)), (A_t_fit_rows 1, eJ cJ 7 (d_t_fit_rows 1)), (A_t_fit_rows 2, eJ cJ 7 (d_t_fit_rows 2)), (A_t_fit_rows 3, eJ cJ 7 (d_t_fit_rows 3)), (A_t_fit_rows 4, eJ cJ 7 (d_t_fit_rows 4)), (A_t_fit_rows 5, eJ cJ 7 (d_t_fit_rows 5)), (A_t_fit 4, eJ cJ 6 d_t_fit_surplus), (A_t 5, eJ cJ 10 d_t_testAbove), (A_t 6, eJ cJ 10 d_t_testBelow), (A_t 0, oW A_t_now d_t_now_knots d_t_now_flows d_t_now_readSet)]) Γ (fun sz => mX3_unreadSet (l := l) (D := D) (sz := sz) (cI := cI) (cJ := cJ) (cZ := cZ) (cW := cW) (cR := cR) (h_t := A_t 0) (A_t := A_t_now) (hf := e8)) eX3_unreadSet gX4_testWithoutEach_X3_unreadSet rfl rfl 0 rfl rfl rfl (Nat.le_of_ble_eq_true rfl) ⟨Nat.le_of_ble_eq_true rfl, Nat.le_of_ble_eq_true rfl⟩ dX4_testWithoutEach_33 [1] [0, 2, 3, 4, 5, 6, 7, 8, 9, 10, 11, 12, 13, 14, 15, 16, 17, 18, 19, 20] rfl rfl rfl rfl (by decide) rfl ?_
          refine g_iload_n Γ 2 dX4_testWithoutEach_36 rfl ?_
          obtain ⟨v9, e10, hf⟩ := ya_ob hf
          refine g_si (wr := [(h_t, oM A_t), (A_t_now 0, eI cI 10 d_t_now_from), (A_t_now 1, eI cI 10 d_t_now_to), (A_t_now 2, eI cI 10 d_t_now_reading), (A_t_now 3, eI cI 10 d_t_now_miss), (A_t 3, oF A_t_fit d_t_fit_unread d_t_fit_below), (A_t_fit 0, oG A_t_fit_heaps), (A_t_fit_heaps 0, eI cI 6 d_t_fit_heaps_least), (A_t_fit 1, oG A_t_fit_pieces), (A_t_fit_pieces 0, eI cI 6 d_t_fit_pieces_least), (A_t_fit 3, eQ cR 6 A_t_fit_rows), (A_t_fit_rows 0, eJ cJ 7 (d_t_fit_rows 0)), (A_t_fit_rows 1, eJ cJ 7 (d_t_fit_rows 1)), (A_t_fit_rows 2, eJ cJ 7 (d_t_fit_rows 2)), (A_t_fit_rows 3, eJ cJ 7 (d_t_fit_rows 3)), (A_t_fit_rows 4, eJ cJ 7 (d_t_fit_rows 4)), (A_t_fit_rows 5, eJ cJ 7 (d_t_fit_rows 5)), (A_t_fit 4, eJ cJ 6 d_t_fit_surplus), (A_t 5, eJ cJ 10 d_t_testAbove), (A_t 6, eJ cJ 10 d_t_testBelow), (A_t 0, oW A_t_now d_t_now_knots d_t_now_flows d_t_now_readSet)]) (ws' := [(h_t, oM A_t), (A_t_now 0, eI cI 10 d_t_now_from), (A_t_now 1, eI cI 10 d_t_now_to), (A_t_now 2, eI cI 10 d_t_now_reading), (A_t_now 3, eI cI 10 d_t_now_miss), (A_t 3, oF A_t_fit d_t_fit_unread d_t_fit_below), (A_t_fit 0, oG A_t_fit_heaps), (A_t_fit_heaps 0, eI cI 6 d_t_fit_heaps_least), (A_t_fit 1, oG A_t_fit_pieces), (A_t_fit_pieces 0, eI cI 6 d_t_fit_pieces_least), (A_t_fit 3, eQ cR 6 A_t_fit_rows), (A_t_fit_rows 0, eJ cJ 7 (d_t_fit_rows 0)), (A_t_fit_rows 1, eJ cJ 7 (d_t_fit_rows 1)), (A_t_fit_rows 2, eJ cJ 7 (d_t_fit_rows 2)), (A_t_fit_rows 3, eJ cJ 7 (d_t_fit_rows 3)), (A_t_fit_rows 4, eJ cJ 7 (d_t_fit_rows 4)), (A_t_fit_rows 5, eJ cJ 7 (d_t_fit_rows 5)), (A_t_fit 4, eJ cJ 6 d_t_fit_surplus), (A_t 5, eJ cJ 10 d_t_testAbove), (A_t 6, eJ cJ 10 d_t_testBelow), (A_t 0, oW A_t_now d_t_now_knots d_t_now_flows d_t_now_readSet)]) Γ (fun sz => mX4_bit (l := l) (D := D) (sz := sz) (cI := cI) (cJ := cJ) (cZ := cZ) (cW := cW) (cR := cR)  (hf := e10)) eX4_bit ggX4_testWithoutEach_X4_bit (by decide +kernel) (by decide +kernel) (by decide +kernel) rfl rfl (Nat.le_of_ble_eq_true rfl) ⟨Nat.le_of_ble_eq_true rfl, Nat.le_of_ble_eq_true rfl⟩ dX4_testWithoutEach_37 [] [0, 1, 2, 3, 4, 5, 6, 7, 8, 9, 10, 11, 12, 13, 14, 15, 16, 17, 18, 19, 20] rfl rfl rfl rfl (by decide) rfl ?_
          refine g_ior Γ dX4_testWithoutEach_40 ?_
          obtain ⟨⟨v11, v12, v13, v14, v15, v16⟩, e17, hf⟩ := ya_ob hf
          refine g_vv (q := (RX0, TX0, 7)) (wr := [(h_t, oM A_t), (A_t 5, eJ cJ 10 d_t_testAbove), (A_t 6, eJ cJ 10 d_t_testBelow)]) (ws' := [(h_t, oM A_t), (A_t 5, eJ cJ 10 d_t_testAbove), (A_t 6, eJ cJ 10 d_t_testBelow), (A_t 3, oF A_t_fit v11 v12), (A_t_fit 0, oG A_t_fit_heaps), (A_t_fit_heaps 0, eI cI 6 v13), (A_t_fit 1, oG A_t_fit_pieces), (A_t_fit_pieces 0, eI cI 6 v14), (A_t_fit 3, eQ cR 6 A_t_fit_rows), (A_t_fit_rows 0, eJ cJ 7 (v15 0)), (A_t_fit_rows 1, eJ cJ 7 (v15 1)), (A_t_fit_rows 2, eJ cJ 7 (v15 2)), (A_t_fit_rows 3, eJ cJ 7 (v15 3)), (A_t_fit_rows 4, eJ cJ 7 (v15 4)), (A_t_fit_rows 5, eJ cJ 7 (v15 5)), (A_t_fit 4, eJ cJ 6 v16), (A_t 0, oW A_t_now d_t_now_knots d_t_now_flows d_t_now_readSet), (A_t_now 0, eI cI 10 d_t_now_from), (A_t_now 1, eI cI 10 d_t_now_to), (A_t_now 2, eI cI 10 d_t_now_reading), (A_t_now 3, eI cI 10 d_t_now_miss)]) Γ (fun sz => mX0_solve (l := l) (D := D) (sz := sz) (cI := cI) (cJ := cJ) (cZ := cZ) (cW := cW) (cR := cR) (h_t := A_t 3) (h_w := A_t 0) (A_t := A_t_fit) (A_t_heaps := A_t_fit_heaps) (A_t_pieces := A_t_fit_pieces) (A_t_rows := A_t_fit_rows) (A_w := A_t_now) (hf := e17)) eX0_solve gX4_testWithoutEach_X0_solve rfl rfl 0 rfl rfl rfl (Nat.le_of_ble_eq_true rfl) ⟨Nat.le_of_ble_eq_true rfl, Nat.le_of_ble_eq_true rfl⟩ dX4_testWithoutEach_41 [5, 6, 7, 8, 9, 10, 11, 12, 13, 14, 15, 16, 17, 20, 1, 2, 3, 4] [0, 18, 19] rfl rfl rfl rfl (by decide) rfl ?_
          refine g_aload_n Γ 0 dX4_testWithoutEach_44 rfl ?_
          refine g_get Γ fX4_testWithoutEach_41 0 rfl rfl dX4_testWithoutEach_45 ?_
          refine g_iload_n Γ 2 dX4_testWithoutEach_48 rfl ?_
          refine g_aload_n Γ 0 dX4_testWithoutEach_49 rfl ?_
          refine g_get Γ fX4_testWithoutEach_33 0 rfl rfl dX4_testWithoutEach_50 ?_
          refine g_aload_n Γ 0 dX4_testWithoutEach_53 rfl ?_
          refine g_get Γ fX4_testWithoutEach_10 0 rfl rfl dX4_testWithoutEach_54 ?_
          refine g_get Γ fX4_testWithoutEach_117 16 rfl rfl dX4_testWithoutEach_57 ?_
          obtain ⟨v18, e19, hf⟩ := ya_ob hf
          refine g_vl (q := (RX0, TX0, 7)) (wr := [(h_t, oM A_t), (A_t 5, eJ cJ 10 d_t_testAbove), (A_t 6, eJ cJ 10 d_t_testBelow), (A_t_fit 0, oG A_t_fit_heaps), (A_t_fit_heaps 0, eI cI 6 v13), (A_t_fit 1, oG A_t_fit_pieces), (A_t_fit_pieces 0, eI cI 6 v14), (A_t 0, oW A_t_now d_t_now_knots d_t_now_flows d_t_now_readSet), (A_t_now 0, eI cI 10 d_t_now_from), (A_t_now 1, eI cI 10 d_t_now_to), (A_t_now 2, eI cI 10 d_t_now_reading), (A_t_now 3, eI cI 10 d_t_now_miss)]) (ws' := [(h_t, oM A_t), (A_t 5, eJ cJ 10 d_t_testAbove), (A_t 6, eJ cJ 10 d_t_testBelow), (A_t_fit 0, oG A_t_fit_heaps), (A_t_fit_heaps 0, eI cI 6 v13), (A_t_fit 1, oG A_t_fit_pieces), (A_t_fit_pieces 0, eI cI 6 v14), (A_t 0, oW A_t_now d_t_now_knots d_t_now_flows d_t_now_readSet), (A_t_now 0, eI cI 10 d_t_now_from), (A_t_now 1, eI cI 10 d_t_now_to), (A_t_now 2, eI cI 10 d_t_now_reading), (A_t_now 3, eI cI 10 d_t_now_miss), (A_t 3, oF A_t_fit v11 v12), (A_t_fit 3, eQ cR 6 A_t_fit_rows), (A_t_fit_rows 0, eJ cJ 7 (v15 0)), (A_t_fit_rows 1, eJ cJ 7 (v15 1)), (A_t_fit_rows 2, eJ cJ 7 (v15 2)), (A_t_fit_rows 3, eJ cJ 7 (v15 3)), (A_t_fit_rows 4, eJ cJ 7 (v15 4)), (A_t_fit_rows 5, eJ cJ 7 (v15 5)), (A_t_fit 4, eJ cJ 6 v16)]) Γ (fun sz => mX0_testAbove (l := l) (D := D) (sz := sz) (cI := cI) (cJ := cJ) (cZ := cZ) (cW := cW) (cR := cR) (h_t := A_t 3) (A_t := A_t_fit) (A_t_rows := A_t_fit_rows) (hf := e19)) eX0_testAbove gX4_testWithoutEach_X0_testAbove rfl rfl 0 rfl rfl rfl (Nat.le_of_ble_eq_true rfl) ⟨Nat.le_of_ble_eq_true rfl, Nat.le_of_ble_eq_true rfl⟩ dX4_testWithoutEach_60 [3, 8, 9, 10, 11, 12, 13, 14, 15] [0, 1, 2, 4, 5, 6, 7, 16, 17, 18, 19, 20] rfl rfl rfl rfl (by decide) rfl ?_
          obtain ⟨v20, e21, hf⟩ := ya_ob hf
          refine g_last (ws' := [(h_t, oM A_t), (A_t 5, eJ cJ 10 v20), (A_t 6, eJ cJ 10 d_t_testBelow), (A_t_fit 0, oG A_t_fit_heaps), (A_t_fit_heaps 0, eI cI 6 v13), (A_t_fit 1, oG A_t_fit_pieces), (A_t_fit_pieces 0, eI cI 6 v14), (A_t 0, oW A_t_now d_t_now_knots d_t_now_flows d_t_now_readSet), (A_t_now 0, eI cI 10 d_t_now_from), (A_t_now 1, eI cI 10 d_t_now_to), (A_t_now 2, eI cI 10 d_t_now_reading), (A_t_now 3, eI cI 10 d_t_now_miss), (A_t 3, oF A_t_fit v11 v12), (A_t_fit 3, eQ cR 6 A_t_fit_rows), (A_t_fit_rows 0, eJ cJ 7 (v15 0)), (A_t_fit_rows 1, eJ cJ 7 (v15 1)), (A_t_fit_rows 2, eJ cJ 7 (v15 2)), (A_t_fit_rows 3, eJ cJ 7 (v15 3)), (A_t_fit_rows 4, eJ cJ 7 (v15 4)), (A_t_fit_rows 5, eJ cJ 7 (v15 5)), (A_t_fit 4, eJ cJ 6 v16)]) Γ e21 1 1 rfl rfl dX4_testWithoutEach_63 rfl ?_
          refine g_aload_n Γ 0 dX4_testWithoutEach_64 rfl ?_
          refine g_get Γ fX4_testWithoutEach_45 0 rfl rfl dX4_testWithoutEach_65 ?_
          refine g_iload_n Γ 2 dX4_testWithoutEach_68 rfl ?_
          refine g_aload_n Γ 0 dX4_testWithoutEach_69 rfl ?_
          refine g_get Γ fX4_testWithoutEach_33 0 rfl rfl dX4_testWithoutEach_70 ?_
          refine g_get Γ fX4_testWithoutEach_168 12 rfl rfl dX4_testWithoutEach_73 ?_
          obtain ⟨v22, e23, hf⟩ := ya_ob hf
          refine g_last (ws' := [(h_t, oM A_t), (A_t 5, eJ cJ 10 v20), (A_t 6, eJ cJ 10 v22), (A_t_fit 0, oG A_t_fit_heaps), (A_t_fit_heaps 0, eI cI 6 v13), (A_t_fit 1, oG A_t_fit_pieces), (A_t_fit_pieces 0, eI cI 6 v14), (A_t 0, oW A_t_now d_t_now_knots d_t_now_flows d_t_now_readSet), (A_t_now 0, eI cI 10 d_t_now_from), (A_t_now 1, eI cI 10 d_t_now_to), (A_t_now 2, eI cI 10 d_t_now_reading), (A_t_now 3, eI cI 10 d_t_now_miss), (A_t 3, oF A_t_fit v11 v12), (A_t_fit 3, eQ cR 6 A_t_fit_rows), (A_t_fit_rows 0, eJ cJ 7 (v15 0)), (A_t_fit_rows 1, eJ cJ 7 (v15 1)), (A_t_fit_rows 2, eJ cJ 7 (v15 2)), (A_t_fit_rows 3, eJ cJ 7 (v15 3)), (A_t_fit_rows 4, eJ cJ 7 (v15 4)), (A_t_fit_rows 5, eJ cJ 7 (v15 5)), (A_t_fit 4, eJ cJ 6 v16)]) Γ e23 2 1 rfl rfl dX4_testWithoutEach_76 rfl ?_
          obtain ⟨v24, e25, hf⟩ := ya_lt_inv hf
          refine g_iinc (lv' := [(2, .int v24), (0, .ref h_t), (1, .int y1)]) Γ 2 dX4_testWithoutEach_77 rfl (by rw [e25]; rfl) (by decide) rfl ?_
          refine g_goto Γ 2 dX4_testWithoutEach_80 (by decide) ?_
          refine g_lv [1, 2, 0] rfl ?_
          refine g_ws (ws' := [(h_t, oM A_t), (A_t 0, oW A_t_now d_t_now_knots d_t_now_flows d_t_now_readSet), (A_t_now 0, eI cI 10 d_t_now_from), (A_t_now 1, eI cI 10 d_t_now_to), (A_t_now 2, eI cI 10 d_t_now_reading), (A_t_now 3, eI cI 10 d_t_now_miss), (A_t 3, oF A_t_fit v11 v12), (A_t_fit 0, oG A_t_fit_heaps), (A_t_fit_heaps 0, eI cI 6 v13), (A_t_fit 1, oG A_t_fit_pieces), (A_t_fit_pieces 0, eI cI 6 v14), (A_t_fit 3, eQ cR 6 A_t_fit_rows), (A_t_fit_rows 0, eJ cJ 7 (v15 0)), (A_t_fit_rows 1, eJ cJ 7 (v15 1)), (A_t_fit_rows 2, eJ cJ 7 (v15 2)), (A_t_fit_rows 3, eJ cJ 7 (v15 3)), (A_t_fit_rows 4, eJ cJ 7 (v15 4)), (A_t_fit_rows 5, eJ cJ 7 (v15 5)), (A_t_fit 4, eJ cJ 6 v16), (A_t 5, eJ cJ 10 v20), (A_t 6, eJ cJ 10 v22)]) [0, 7, 8, 9, 10, 11, 12, 3, 4, 5, 6, 13, 14, 15, 16, 17, 18, 19, 20, 1, 2] rfl rfl ?_
          exact ih _ _ _ _ _ _ _ _ _ _ _ _ _ _ _ _ _ _ _ _ _ _ _ _ _ hf hk
  show yG p l e (headSpec wsX4_testWithoutEach rmX4_testWithoutEach).room s m (List.toArray [.ref h_t, .int x1]) below meth c D (va_A [(h_t, oM A_t), (A_t 0, oW A_t_now c_t_now_knots c_t_now_flows c_t_now_readSet), (A_t_now 0, eI cI 10 c_t_now_from), (A_t_now 1, eI cI 10 c_t_now_to), (A_t_now 2, eI cI 10 c_t_now_reading), (A_t_now 3, eI cI 10 c_t_now_miss), (A_t 3, oF A_t_fit c_t_fit_unread c_t_fit_below), (A_t_fit 0, oG A_t_fit_heaps), (A_t_fit_heaps 0, eI cI 6 c_t_fit_heaps_least), (A_t_fit 1, oG A_t_fit_pieces), (A_t_fit_pieces 0, eI cI 6 c_t_fit_pieces_least), (A_t_fit 3, eQ cR 6 A_t_fit_rows), (A_t_fit_rows 0, eJ cJ 7 (c_t_fit_rows 0)), (A_t_fit_rows 1, eJ cJ 7 (c_t_fit_rows 1)), (A_t_fit_rows 2, eJ cJ 7 (c_t_fit_rows 2)), (A_t_fit_rows 3, eJ cJ 7 (c_t_fit_rows 3)), (A_t_fit_rows 4, eJ cJ 7 (c_t_fit_rows 4)), (A_t_fit_rows 5, eJ cJ 7 (c_t_fit_rows 5)), (A_t_fit 4, eJ cJ 6 c_t_fit_surplus), (A_t 5, eJ cJ 10 c_t_testAbove), (A_t 6, eJ cJ 10 c_t_testBelow)] sz) 3 0 0 (MQ below (yQv D (yT cI cJ cZ cW cR) [(h_t, oM A_t), (A_t 0, oW A_t_now c_t_now_knots c_t_now_flows c_t_now_readSet), (A_t_now 0, eI cI 10 c_t_now_from), (A_t_now 1, eI cI 10 c_t_now_to), (A_t_now 2, eI cI 10 c_t_now_reading), (A_t_now 3, eI cI 10 c_t_now_miss), (A_t 3, oF A_t_fit zc_t_fit_unread zc_t_fit_below), (A_t_fit 0, oG A_t_fit_heaps), (A_t_fit_heaps 0, eI cI 6 zc_t_fit_heaps_least), (A_t_fit 1, oG A_t_fit_pieces), (A_t_fit_pieces 0, eI cI 6 zc_t_fit_pieces_least), (A_t_fit 3, eQ cR 6 A_t_fit_rows), (A_t_fit_rows 0, eJ cJ 7 (zc_t_fit_rows 0)), (A_t_fit_rows 1, eJ cJ 7 (zc_t_fit_rows 1)), (A_t_fit_rows 2, eJ cJ 7 (zc_t_fit_rows 2)), (A_t_fit_rows 3, eJ cJ 7 (zc_t_fit_rows 3)), (A_t_fit_rows 4, eJ cJ 7 (zc_t_fit_rows 4)), (A_t_fit_rows 5, eJ cJ 7 (zc_t_fit_rows 5)), (A_t_fit 4, eJ cJ 6 zc_t_fit_surplus), (A_t 5, eJ cJ 10 zc_t_testAbove), (A_t 6, eJ cJ 10 zc_t_testBelow)] (va_A [(h_t, oM A_t), (A_t 0, oW A_t_now c_t_now_knots c_t_now_flows c_t_now_readSet), (A_t_now 0, eI cI 10 c_t_now_from), (A_t_now 1, eI cI 10 c_t_now_to), (A_t_now 2, eI cI 10 c_t_now_reading), (A_t_now 3, eI cI 10 c_t_now_miss), (A_t 3, oF A_t_fit c_t_fit_unread c_t_fit_below), (A_t_fit 0, oG A_t_fit_heaps), (A_t_fit_heaps 0, eI cI 6 c_t_fit_heaps_least), (A_t_fit 1, oG A_t_fit_pieces), (A_t_fit_pieces 0, eI cI 6 c_t_fit_pieces_least), (A_t_fit 3, eQ cR 6 A_t_fit_rows), (A_t_fit_rows 0, eJ cJ 7 (c_t_fit_rows 0)), (A_t_fit_rows 1, eJ cJ 7 (c_t_fit_rows 1)), (A_t_fit_rows 2, eJ cJ 7 (c_t_fit_rows 2)), (A_t_fit_rows 3, eJ cJ 7 (c_t_fit_rows 3)), (A_t_fit_rows 4, eJ cJ 7 (c_t_fit_rows 4)), (A_t_fit_rows 5, eJ cJ 7 (c_t_fit_rows 5)), (A_t_fit 4, eJ cJ 6 c_t_fit_surplus), (A_t 5, eJ cJ 10 c_t_testAbove), (A_t 6, eJ cJ 10 c_t_testBelow)] sz)) (List.toArray [.ref h_t, .int x1]) s 0 0 (va_A [(h_t, oM A_t), (A_t 0, oW A_t_now c_t_now_knots c_t_now_flows c_t_now_readSet), (A_t_now 0, eI cI 10 c_t_now_from), (A_t_now 1, eI cI 10 c_t_now_to), (A_t_now 2, eI cI 10 c_t_now_reading), (A_t_now 3, eI cI 10 c_t_now_miss), (A_t 3, oF A_t_fit c_t_fit_unread c_t_fit_below), (A_t_fit 0, oG A_t_fit_heaps), (A_t_fit_heaps 0, eI cI 6 c_t_fit_heaps_least), (A_t_fit 1, oG A_t_fit_pieces), (A_t_fit_pieces 0, eI cI 6 c_t_fit_pieces_least), (A_t_fit 3, eQ cR 6 A_t_fit_rows), (A_t_fit_rows 0, eJ cJ 7 (c_t_fit_rows 0)), (A_t_fit_rows 1, eJ cJ 7 (c_t_fit_rows 1)), (A_t_fit_rows 2, eJ cJ 7 (c_t_fit_rows 2)), (A_t_fit_rows 3, eJ cJ 7 (c_t_fit_rows 3)), (A_t_fit_rows 4, eJ cJ 7 (c_t_fit_rows 4)), (A_t_fit_rows 5, eJ cJ 7 (c_t_fit_rows 5)), (A_t_fit 4, eJ cJ 6 c_t_fit_surplus), (A_t 5, eJ cJ 10 c_t_testAbove), (A_t 6, eJ cJ 10 c_t_testBelow)] sz)) 0 [(0, .ref h_t), (1, .int x1)] [] [(h_t, oM A_t), (A_t 0, oW A_t_now c_t_now_knots c_t_now_flows c_t_now_readSet), (A_t_now 0, eI cI 10 c_t_now_from), (A_t_now 1, eI cI 10 c_t_now_to), (A_t_now 2, eI cI 10 c_t_now_reading), (A_t_now 3, eI cI 10 c_t_now_miss), (A_t 3, oF A_t_fit c_t_fit_unread c_t_fit_below), (A_t_fit 0, oG A_t_fit_heaps), (A_t_fit_heaps 0, eI cI 6 c_t_fit_heaps_least), (A_t_fit 1, oG A_t_fit_pieces), (A_t_fit_pieces 0, eI cI 6 c_t_fit_pieces_least), (A_t_fit 3, eQ cR 6 A_t_fit_rows), (A_t_fit_rows 0, eJ cJ 7 (c_t_fit_rows 0)), (A_t_fit_rows 1, eJ cJ 7 (c_t_fit_rows 1)), (A_t_fit_rows 2, eJ cJ 7 (c_t_fit_rows 2)), (A_t_fit_rows 3, eJ cJ 7 (c_t_fit_rows 3)), (A_t_fit_rows 4, eJ cJ 7 (c_t_fit_rows 4)), (A_t_fit_rows 5, eJ cJ 7 (c_t_fit_rows 5)), (A_t_fit 4, eJ cJ 6 c_t_fit_surplus), (A_t 5, eJ cJ 10 c_t_testAbove), (A_t 6, eJ cJ 10 c_t_testBelow)]
  unfold fX4_testWithoutEach at hf
  refine g_iconst (v := 0) Γ dX4_testWithoutEach_0 (by decide) ?_
  refine g_istore_n (lv' := [(2, .int 0), (0, .ref h_t), (1, .int x1)]) Γ dX4_testWithoutEach_1 (by decide) rfl ?_
  obtain ⟨⟨v26, v27, v28, v29, v30, v31, v32, v33⟩, e34, hf⟩ := ya_ob hf
  refine g_lv [1, 2, 0] rfl ?_
  refine loop2 N _ _ _ _ _ _ _ _ _ _ _ _ _ _ _ _ _ _ _ _ _ _ _ _ _ e34  ?_
  cases hf
  exact g_vret Γ hr dX4_testWithoutEach_83 [0, 1, 2, 3, 4, 5, 6, 7, 8, 9, 10, 11, 12, 13, 14, 15, 16, 17, 18, 19, 20] rfl rfl

set_option maxRecDepth 20000 in
theorem ggX4_countAhead_X4_holds : GoodIn wsX4_countAhead wsX4_holds := goodIn_r _ [8] rfl (by decide +kernel)
set_option maxRecDepth 20000 in
theorem gX4_countAhead_X4_holds : GoodIn wsX4_countAhead (va_wsS RX4 78 yX4_holds wsX4_holds) := goodIn_app (goodIn_of _ (by decide +kernel)) ggX4_countAhead_X4_holds
theorem dX4_countAhead_0 : decode cX4_countAhead 0 = .ok (.iconst 0, 1) := by decide +kernel
theorem dX4_countAhead_1 : decode cX4_countAhead 1 = .ok (.istore_n 3, 1) := by decide +kernel
theorem dX4_countAhead_2 : decode cX4_countAhead 2 = .ok (.iconst 0, 1) := by decide +kernel
theorem dX4_countAhead_3 : decode cX4_countAhead 3 = .ok (.istore 4, 2) := by decide +kernel
theorem dX4_countAhead_5 : decode cX4_countAhead 5 = .ok (.iload 4, 2) := by decide +kernel
theorem dX4_countAhead_7 : decode cX4_countAhead 7 = .ok (.aload_n 0, 1) := by decide +kernel
theorem dX4_countAhead_8 : decode cX4_countAhead 8 = .ok (.getfield 10, 3) := by decide +kernel
theorem dX4_countAhead_11 : decode cX4_countAhead 11 = .ok (.getfield 60, 3) := by decide +kernel
theorem dX4_countAhead_14 : decode cX4_countAhead 14 = .ok (.if_icmp .ge 84, 3) := by decide +kernel
theorem dX4_countAhead_17 : decode cX4_countAhead 17 = .ok (.iload 4, 2) := by decide +kernel
theorem dX4_countAhead_19 : decode cX4_countAhead 19 = .ok (.iload_n 1, 1) := by decide +kernel
theorem dX4_countAhead_20 : decode cX4_countAhead 20 = .ok (.if_icmp .eq 72, 3) := by decide +kernel
theorem dX4_countAhead_23 : decode cX4_countAhead 23 = .ok (.iload_n 2, 1) := by decide +kernel
theorem dX4_countAhead_24 : decode cX4_countAhead 24 = .ok (.iload 4, 2) := by decide +kernel
theorem dX4_countAhead_26 : decode cX4_countAhead 26 = .ok (.invokestatic 78, 3) := by decide +kernel
theorem dX4_countAhead_29 : decode cX4_countAhead 29 = .ok (.ifCond .ne 6, 3) := by decide +kernel
theorem dX4_countAhead_32 : decode cX4_countAhead 32 = .ok (.goto 60, 3) := by decide +kernel
theorem dX4_countAhead_35 : decode cX4_countAhead 35 = .ok (.aload_n 0, 1) := by decide +kernel
theorem dX4_countAhead_36 : decode cX4_countAhead 36 = .ok (.getfield 41, 3) := by decide +kernel
theorem dX4_countAhead_39 : decode cX4_countAhead 39 = .ok (.iload 4, 2) := by decide +kernel
theorem dX4_countAhead_41 : decode cX4_countAhead 41 = .ok (.laload, 1) := by decide +kernel
theorem dX4_countAhead_42 : decode cX4_countAhead 42 = .ok (.aload_n 0, 1) := by decide +kernel
theorem dX4_countAhead_43 : decode cX4_countAhead 43 = .ok (.getfield 45, 3) := by decide +kernel
theorem dX4_countAhead_46 : decode cX4_countAhead 46 = .ok (.iload_n 1, 1) := by decide +kernel
theorem dX4_countAhead_47 : decode cX4_countAhead 47 = .ok (.laload, 1) := by decide +kernel
theorem dX4_countAhead_48 : decode cX4_countAhead 48 = .ok (.lmul, 1) := by decide +kernel
theorem dX4_countAhead_49 : decode cX4_countAhead 49 = .ok (.lstore 5, 2) := by decide +kernel
theorem dX4_countAhead_51 : decode cX4_countAhead 51 = .ok (.aload_n 0, 1) := by decide +kernel
theorem dX4_countAhead_52 : decode cX4_countAhead 52 = .ok (.getfield 41, 3) := by decide +kernel
theorem dX4_countAhead_55 : decode cX4_countAhead 55 = .ok (.iload_n 1, 1) := by decide +kernel
theorem dX4_countAhead_56 : decode cX4_countAhead 56 = .ok (.laload, 1) := by decide +kernel
theorem dX4_countAhead_57 : decode cX4_countAhead 57 = .ok (.aload_n 0, 1) := by decide +kernel
theorem dX4_countAhead_58 : decode cX4_countAhead 58 = .ok (.getfield 45, 3) := by decide +kernel
theorem dX4_countAhead_61 : decode cX4_countAhead 61 = .ok (.iload 4, 2) := by decide +kernel
theorem dX4_countAhead_63 : decode cX4_countAhead 63 = .ok (.laload, 1) := by decide +kernel
theorem dX4_countAhead_64 : decode cX4_countAhead 64 = .ok (.lmul, 1) := by decide +kernel
theorem dX4_countAhead_65 : decode cX4_countAhead 65 = .ok (.lstore 7, 2) := by decide +kernel
theorem dX4_countAhead_67 : decode cX4_countAhead 67 = .ok (.lload 5, 2) := by decide +kernel
theorem dX4_countAhead_69 : decode cX4_countAhead 69 = .ok (.lload 7, 2) := by decide +kernel
theorem dX4_countAhead_71 : decode cX4_countAhead 71 = .ok (.lcmp, 1) := by decide +kernel
theorem dX4_countAhead_72 : decode cX4_countAhead 72 = .ok (.ifCond .lt 17, 3) := by decide +kernel
theorem dX4_countAhead_75 : decode cX4_countAhead 75 = .ok (.lload 5, 2) := by decide +kernel
theorem dX4_countAhead_77 : decode cX4_countAhead 77 = .ok (.lload 7, 2) := by decide +kernel
theorem dX4_countAhead_79 : decode cX4_countAhead 79 = .ok (.lcmp, 1) := by decide +kernel
theorem dX4_countAhead_80 : decode cX4_countAhead 80 = .ok (.ifCond .ne 12, 3) := by decide +kernel
theorem dX4_countAhead_83 : decode cX4_countAhead 83 = .ok (.iload 4, 2) := by decide +kernel
theorem dX4_countAhead_85 : decode cX4_countAhead 85 = .ok (.iload_n 1, 1) := by decide +kernel
theorem dX4_countAhead_86 : decode cX4_countAhead 86 = .ok (.if_icmp .ge 6, 3) := by decide +kernel
theorem dX4_countAhead_89 : decode cX4_countAhead 89 = .ok (.iinc 3 1, 3) := by decide +kernel
theorem dX4_countAhead_92 : decode cX4_countAhead 92 = .ok (.iinc 4 1, 3) := by decide +kernel
theorem dX4_countAhead_95 : decode cX4_countAhead 95 = .ok (.goto (-90), 3) := by decide +kernel
theorem dX4_countAhead_98 : decode cX4_countAhead 98 = .ok (.iload_n 3, 1) := by decide +kernel
theorem dX4_countAhead_99 : decode cX4_countAhead 99 = .ok (.ireturn, 1) := by decide +kernel
/-! ===== FlowMeters.countAhead(II)I ===== -/
def fX4_countAhead_L5 (N : Nat) (n : Nat) (y1 : Int32) (y2 : Int32) (y3 : Int32) (y4 : Int32) (d_t_now_flows : Int32) (d_t_testAbove : Nat → Int64) (d_t_testBelow : Nat → Int64) : Option (Int32) := match n with
  | 0 => none
  | n + 1 =>
    (if d_t_now_flows ≤ y4 then
        some y3
      else
        (if y4 = y1 then
          ya_lt (y4 + 1) fun v3 =>
          fX4_countAhead_L5 N n y1 y2 y3 v3 d_t_now_flows d_t_testAbove d_t_testBelow
        else
          (fX4_holds y2 y4).bind fun v5 =>
          (if v5 = 0 then
            ya_lt (y4 + 1) fun v35 =>
            fX4_countAhead_L5 N n y1 y2 y3 v35 d_t_now_flows d_t_testAbove d_t_testBelow
          else
            (ya_rd d_t_testAbove 10 y4).bind fun v8 =>
            (ya_rd d_t_testBelow 10 y1).bind fun v10 =>
            ya_lt (v8 * v10) fun v12 =>
            (ya_rd d_t_testAbove 10 y1).bind fun v14 =>
            (ya_rd d_t_testBelow 10 y4).bind fun v16 =>
            ya_lt (v14 * v16) fun v18 =>
            (if (lg_cmp v12 v18) < 0 then
              ya_lt (y3 + 1) fun v21 =>
              ya_lt (y4 + 1) fun v23 =>
              fX4_countAhead_L5 N n y1 y2 v21 v23 d_t_now_flows d_t_testAbove d_t_testBelow
            else
              (if (lg_cmp v12 v18) = 0 then
                (if y1 ≤ y4 then
                  ya_lt (y4 + 1) fun v29 =>
                  fX4_countAhead_L5 N n y1 y2 y3 v29 d_t_now_flows d_t_testAbove d_t_testBelow
                else
                  ya_lt (y3 + 1) fun v31 =>
                  ya_lt (y4 + 1) fun v33 =>
                  fX4_countAhead_L5 N n y1 y2 v31 v33 d_t_now_flows d_t_testAbove d_t_testBelow)
              else
                ya_lt (y4 + 1) fun v26 =>
                fX4_countAhead_L5 N n y1 y2 y3 v26 d_t_now_flows d_t_testAbove d_t_testBelow)))))
def fX4_countAhead (N : Nat) (c_t_now_flows : Int32) (c_t_testAbove : Nat → Int64) (c_t_testBelow : Nat → Int64) (x1 : Int32) (x2 : Int32) : Option (Int32) :=
  (fX4_countAhead_L5 N N x1 x2 0 0 c_t_now_flows c_t_testAbove c_t_testBelow).bind fun v37 =>
  some v37
theorem fX4_countAhead_10 : yF wsX4_countAhead RX4 10 4 0 RX4 TX4 7 := ⟨rfl, by decide, by decide +kernel, by decide +kernel⟩
theorem fX4_countAhead_60 : yF wsX4_countAhead RX4 60 3 1 RX3 TX3 11 := ⟨rfl, by decide, by decide +kernel, by decide +kernel⟩
theorem fX4_countAhead_41 : yF wsX4_countAhead RX4 41 4 5 RX4 TX4 7 := ⟨rfl, by decide, by decide +kernel, by decide +kernel⟩
theorem fX4_countAhead_45 : yF wsX4_countAhead RX4 45 4 6 RX4 TX4 7 := ⟨rfl, by decide, by decide +kernel, by decide +kernel⟩
abbrev rmX4_countAhead : Room := { frames := 1, cells := 0, slots := 0, locals := 21 }
theorem eX4_countAhead : yY yX4_countAhead wsX4_countAhead cX4_countAhead 9 (some .int) rmX4_countAhead 2 := ⟨⟨_, rfl⟩, rfl, rfl, by decide, by decide, by decide +kernel⟩
set_option maxHeartbeats 4000000 in
set_option maxRecDepth 100000 in
theorem mX4_countAhead {l : Launch} {D : va_G} {sz : Nat} {cI cJ cZ cW cR : ClassId} {N : Nat} {h_t : Nat} {A_t : Nat → Nat} {A_t_now : Nat → Nat} {c_t_now_knots : Int32} {c_t_now_flows : Int32} {c_t_now_readSet : Int32} {c_t_testAbove : Nat → Int64} {c_t_testBelow : Nat → Int64} {x1 : Int32} {x2 : Int32} {r : Int32} (hf : fX4_countAhead N c_t_now_flows c_t_testAbove c_t_testBelow x1 x2 = some r) : Met l yX4_countAhead wsX4_countAhead rmX4_countAhead (yP D (yT cI cJ cZ cW cR) [(h_t, oM A_t), (A_t 0, oW A_t_now c_t_now_knots c_t_now_flows c_t_now_readSet), (A_t 5, eJ cJ 10 c_t_testAbove), (A_t 6, eJ cJ 10 c_t_testBelow)] sz [.ref h_t, .int x1, .int x2]) (yQi D (yT cI cJ cZ cW cR) r [(h_t, oM A_t), (A_t 0, oW A_t_now c_t_now_knots c_t_now_flows c_t_now_readSet), (A_t 5, eJ cJ 10 c_t_testAbove), (A_t 6, eJ cJ 10 c_t_testBelow)] (va_A [(h_t, oM A_t), (A_t 0, oW A_t_now c_t_now_knots c_t_now_flows c_t_now_readSet), (A_t 5, eJ cJ 10 c_t_testAbove), (A_t 6, eJ cJ 10 c_t_testBelow)] sz)) 0 0 (va_A [(h_t, oM A_t), (A_t 0, oW A_t_now c_t_now_knots c_t_now_flows c_t_now_readSet), (A_t 5, eJ cJ 10 c_t_testAbove), (A_t 6, eJ cJ 10 c_t_testBelow)] sz) := by
  refine yM (cc := cX4_countAhead) (maxL := 9) (ret := (some .int)) RX4 (by decide) rfl rfl (Nat.le_of_ble_eq_true rfl) ?_
  intro p e s m below meth c Γ hr
  have loop5 : ∀ (n : Nat) (y1 : Int32) (y2 : Int32) (y3 : Int32) (y4 : Int32) (d_t_now_knots : Int32) (d_t_now_flows : Int32) (d_t_now_readSet : Int32) (d_t_testAbove : Nat → Int64) (d_t_testBelow : Nat → Int64) (w0 : Int32), fX4_countAhead_L5 N n y1 y2 y3 y4 d_t_now_flows d_t_testAbove d_t_testBelow = some w0 → yG p l e (headSpec wsX4_countAhead rmX4_countAhead).room s m (List.toArray [.ref h_t, .int x1, .int x2]) below meth c D (va_A [(h_t, oM A_t), (A_t 0, oW A_t_now c_t_now_knots c_t_now_flows c_t_now_readSet), (A_t 5, eJ cJ 10 c_t_testAbove), (A_t 6, eJ cJ 10 c_t_testBelow)] sz) 9 0 0 (MQ below (yQi D (yT cI cJ cZ cW cR) r [(h_t, oM A_t), (A_t 0, oW A_t_now c_t_now_knots c_t_now_flows c_t_now_readSet), (A_t 5, eJ cJ 10 c_t_testAbove), (A_t 6, eJ cJ 10 c_t_testBelow)] (va_A [(h_t, oM A_t), (A_t 0, oW A_t_now c_t_now_knots c_t_now_flows c_t_now_readSet), (A_t 5, eJ cJ 10 c_t_testAbove), (A_t 6, eJ cJ 10 c_t_testBelow)] sz)) (List.toArray [.ref h_t, .int x1, .int x2]) s 0 0 (va_A [(h_t, oM A_t), (A_t 0, oW A_t_now c_t_now_knots c_t_now_flows c_t_now_readSet), (A_t 5, eJ cJ 10 c_t_testAbove), (A_t 6, eJ cJ 10 c_t_testBelow)] sz)) 98 [(3, .int w0)] [] [(h_t, oM A_t), (A_t 0, oW A_t_now d_t_now_knots d_t_now_flows d_t_now_readSet), (A_t 5, eJ cJ 10 d_t_testAbove), (A_t 6, eJ cJ 10 d_t_testBelow)] → yG p l e (headSpec wsX4_countAhead rmX4_countAhead).room s m (List.toArray [.ref h_t, .int x1, .int x2]) below meth c D (va_A [(h_t, oM A_t), (A_t 0, oW A_t_now c_t_now_knots c_t_now_flows c_t_now_readSet), (A_t 5, eJ cJ 10 c_t_testAbove), (A_t 6, eJ cJ 10 c_t_testBelow)] sz) 9 0 0 (MQ below (yQi D (yT cI cJ cZ cW cR) r [(h_t, oM A_t), (A_t 0, oW A_t_now c_t_now_knots c_t_now_flows c_t_now_readSet), (A_t 5, eJ cJ 10 c_t_testAbove), (A_t 6, eJ cJ 10 c_t_testBelow)] (va_A [(h_t, oM A_t), (A_t 0, oW A_t_now c_t_now_knots c_t_now_flows c_t_now_readSet), (A_t 5, eJ cJ 10 c_t_testAbove), (A_t 6, eJ cJ 10 c_t_testBelow)] sz)) (List.toArray [.ref h_t, .int x1, .int x2]) s 0 0 (va_A [(h_t, oM A_t), (A_t 0, oW A_t_now c_t_now_knots c_t_now_flows c_t_now_readSet), (A_t 5, eJ cJ 10 c_t_testAbove), (A_t 6, eJ cJ 10 c_t_testBelow)] sz)) 5 [(0, .ref h_t), (1, .int y1), (2, .int y2), (3, .int y3), (4, .int y4)] [] [(h_t, oM A_t), (A_t 0, oW A_t_now d_t_now_knots d_t_now_flows d_t_now_readSet), (A_t 5, eJ cJ 10 d_t_testAbove), (A_t 6, eJ cJ 10 d_t_testBelow)] := by
    intro n
    induction n with
    | zero =>
      intro y1 y2 y3 y4 d_t_now_knots d_t_now_flows d_t_now_readSet d_t_testAbove d_t_testBelow w0 hf
      cases hf
    | succ n ih =>
      intro y1 y2 y3 y4 d_t_now_knots d_t_now_flows d_t_now_readSet d_t_testAbove d_t_testBelow w0 hf hk
      unfold fX4_countAhead_L5 at hf
      refine g_iload Γ 4 dX4_countAhead_5 rfl ?_
      refine g_aload_n Γ 0 dX4_countAhead_7 rfl ?_
      refine g_get Γ fX4_countAhead_10 0 rfl rfl dX4_countAhead_8 ?_
      refine g_get Γ fX4_countAhead_60 1 rfl rfl dX4_countAhead_11 ?_
      refine g_icmp_ge Γ 98 dX4_countAhead_14 (by decide) (fun c1 => ?_) (fun c1 => ?_)
      · have hf := ya_if1 c1 hf
        cases hf
        refine g_lv [3] rfl ?_
        exact hk
      · have hf := ya_if2 c1 hf
        refine g_iload Γ 4 dX4_countAhead_17 rfl ?_
        refine g_iload_n Γ 1 dX4_countAhead_19 rfl ?_
        refine g_icmp_eq Γ 92 dX4_countAhead_20 (by decide) (fun c2 => ?_) (fun c2 => ?_)
        · have hf := ya_if1 c2 hf
          obtain ⟨v3, e4, hf⟩ := ya_lt_inv hf
          refine g_iinc (lv' := [(4, .int v3), (0, .ref h_t), (1, .int y1), (2, .int y2), (3, .int y3)]) Γ 4 dX4_countAhead_92 rfl (by rw [e4]; rfl) (by decide) rfl ?_
          refine g_goto Γ 5 dX4_countAhead_95 (by decide) ?_
          refine g_lv [1, 2, 3, 4, 0] rfl ?_
          exact ih _ _ _ _ _ _ _ _ _ _ hf hk
        · have hf := ya_if2 c2 hf
          refine g_iload_n Γ 2 dX4_countAhead_23 rfl ?_
          refine g_iload Γ 4 dX4_countAhead_24 rfl ?_
          obtain ⟨v5, e6, hf⟩ := ya_ob hf
          refine g_si (wr := [(h_t, oM A_t), (A_t 0, oW A_t_now d_t_now_knots d_t_now_flows d_t_now_readSet), (A_t 5, eJ cJ 10 d_t_testAbove), (A_t 6, eJ cJ 10 d_t_testBelow)]) (ws' := [(h_t, oM A_t), (A_t 0, oW A_t_now d_t_now_knots d_t_now_flows d_t_now_readSet), (A_t 5, eJ cJ 10 d_t_testAbove), (A_t 6, eJ cJ 10 d_t_testBelow)]) Γ (fun sz => mX4_holds (l := l) (D := D) (sz := sz) (cI := cI) (cJ := cJ) (cZ := cZ) (cW := cW) (cR := cR)  (hf := e6)) eX4_holds ggX4_countAhead_X4_holds (by decide +kernel) (by decide +kernel) (by decide +kernel) rfl rfl (Nat.le_of_ble_eq_true rfl) ⟨Nat.le_of_ble_eq_true rfl, Nat.le_of_ble_eq_true rfl⟩ dX4_countAhead_26 [] [0, 1, 2, 3] rfl rfl rfl rfl (by decide) rfl ?_
          refine g_if_ne Γ 35 dX4_countAhead_29 (by decide) (fun c7 => ?_) (fun c7 => ?_)
          · have hf := ya_if2 c7 hf
            refine g_aload_n Γ 0 dX4_countAhead_35 rfl ?_
            refine g_get Γ fX4_countAhead_41 0 rfl rfl dX4_countAhead_36 ?_
            refine g_iload Γ 4 dX4_countAhead_39 rfl ?_
            obtain ⟨v8, e9, hf⟩ := ya_ob hf
            refine g_lald Γ e9 2 1 rfl rfl dX4_countAhead_41 ?_
            refine g_aload_n Γ 0 dX4_countAhead_42 rfl ?_
            refine g_get Γ fX4_countAhead_45 0 rfl rfl dX4_countAhead_43 ?_
            refine g_iload_n Γ 1 dX4_countAhead_46 rfl ?_
            obtain ⟨v10, e11, hf⟩ := ya_ob hf
            refine g_lald Γ e11 3 1 rfl rfl dX4_countAhead_47 ?_
            refine g_lmul Γ dX4_countAhead_48 ?_
            obtain ⟨v12, e13, hf⟩ := ya_lt_inv hf
            refine g_nml e13 ?_
            refine g_lstore (lv' := [(5, .long v12), (0, .ref h_t), (1, .int y1), (2, .int y2), (3, .int y3), (4, .int y4)]) Γ dX4_countAhead_49 (by decide) rfl ?_
            refine g_aload_n Γ 1 dX4_countAhead_51 rfl ?_
            refine g_get Γ fX4_countAhead_41 0 rfl rfl dX4_countAhead_52 ?_
            refine g_iload_n Γ 2 dX4_countAhead_55 rfl ?_
            obtain ⟨v14, e15, hf⟩ := ya_ob hf
            refine g_lald Γ e15 2 1 rfl rfl dX4_countAhead_56 ?_
            refine g_aload_n Γ 1 dX4_countAhead_57 rfl ?_
            refine g_get Γ fX4_countAhead_45 0 rfl rfl dX4_countAhead_58 ?_
            refine g_iload Γ 5 dX4_countAhead_61 rfl ?_
            obtain ⟨v16, e17, hf⟩ := ya_ob hf
            refine g_lald Γ e17 3 1 rfl rfl dX4_countAhead_63 ?_
            refine g_lmul Γ dX4_countAhead_64 ?_
            obtain ⟨v18, e19, hf⟩ := ya_lt_inv hf
            refine g_nml e19 ?_
            refine g_lstore (lv' := [(7, .long v18), (5, .long v12), (0, .ref h_t), (1, .int y1), (2, .int y2), (3, .int y3), (4, .int y4)]) Γ dX4_countAhead_65 (by decide) rfl ?_
            refine g_lload Γ 1 dX4_countAhead_67 rfl ?_
            refine g_lload Γ 0 dX4_countAhead_69 rfl ?_
            refine g_lcmp Γ dX4_countAhead_71 ?_
            refine g_if_lt Γ 89 dX4_countAhead_72 (by decide) (fun c20 => ?_) (fun c20 => ?_)
            · have hf := ya_if1 c20 hf
              obtain ⟨v21, e22, hf⟩ := ya_lt_inv hf
              refine g_iinc (lv' := [(3, .int v21), (7, .long v18), (5, .long v12), (0, .ref h_t), (1, .int y1), (2, .int y2), (4, .int y4)]) Γ 5 dX4_countAhead_89 rfl (by rw [e22]; rfl) (by decide) rfl ?_
              obtain ⟨v23, e24, hf⟩ := ya_lt_inv hf
              refine g_iinc (lv' := [(4, .int v23), (3, .int v21), (7, .long v18), (5, .long v12), (0, .ref h_t), (1, .int y1), (2, .int y2)]) Γ 6 dX4_countAhead_92 rfl (by rw [e24]; rfl) (by decide) rfl ?_
              refine g_goto Γ 5 dX4_countAhead_95 (by decide) ?_
              refine g_lv [4, 5, 6, 1, 0] rfl ?_
              exact ih _ _ _ _ _ _ _ _ _ _ hf hk
            · have hf := ya_if2 c20 hf
              refine g_lload Γ 1 dX4_countAhead_75 rfl ?_
              refine g_lload Γ 0 dX4_countAhead_77 rfl ?_
              refine g_lcmp Γ dX4_countAhead_79 ?_
              refine g_if_ne Γ 92 dX4_countAhead_80 (by decide) (fun c25 => ?_) (fun c25 => ?_)
              · have hf := ya_if2 c25 hf
                obtain ⟨v26, e27, hf⟩ := ya_lt_inv hf
                refine g_iinc (lv' := [(4, .int v26), (7, .long v18), (5, .long v12), (0, .ref h_t), (1, .int y1), (2, .int y2), (3, .int y3)]) Γ 6 dX4_countAhead_92 rfl (by rw [e27]; rfl) (by decide) rfl ?_
                refine g_goto Γ 5 dX4_countAhead_95 (by decide) ?_
                refine g_lv [3, 4, 5, 6, 0] rfl ?_
                exact ih _ _ _ _ _ _ _ _ _ _ hf hk
              · have hf := ya_if1 c25 hf
                refine g_iload Γ 6 dX4_countAhead_83 rfl ?_
                refine g_iload_n Γ 3 dX4_countAhead_85 rfl ?_
                refine g_icmp_ge Γ 92 dX4_countAhead_86 (by decide) (fun c28 => ?_) (fun c28 => ?_)
                · have hf := ya_if1 c28 hf
                  obtain ⟨v29, e30, hf⟩ := ya_lt_inv hf
                  refine g_iinc (lv' := [(4, .int v29), (7, .long v18), (5, .long v12), (0, .ref h_t), (1, .int y1), (2, .int y2), (3, .int y3)]) Γ 6 dX4_countAhead_92 rfl (by rw [e30]; rfl) (by decide) rfl ?_
                  refine g_goto Γ 5 dX4_countAhead_95 (by decide) ?_
                  refine g_lv [3, 4, 5, 6, 0] rfl ?_
                  exact ih _ _ _ _ _ _ _ _ _ _ hf hk
                · have hf := ya_if2 c28 hf
                  obtain ⟨v31, e32, hf⟩ := ya_lt_inv hf
                  refine g_iinc (lv' := [(3, .int v31), (7, .long v18), (5, .long v12), (0, .ref h_t), (1, .int y1), (2, .int y2), (4, .int y4)]) Γ 5 dX4_countAhead_89 rfl (by rw [e32]; rfl) (by decide) rfl ?_
                  obtain ⟨v33, e34, hf⟩ := ya_lt_inv hf
                  refine g_iinc (lv' := [(4, .int v33), (3, .int v31), (7, .long v18), (5, .long v12), (0, .ref h_t), (1, .int y1), (2, .int y2)]) Γ 6 dX4_countAhead_92 rfl (by rw [e34]; rfl) (by decide) rfl ?_
                  refine g_goto Γ 5 dX4_countAhead_95 (by decide) ?_
                  refine g_lv [4, 5, 6, 1, 0] rfl ?_
                  exact ih _ _ _ _ _ _ _ _ _ _ hf hk
          · have hf := ya_if1 c7 hf
            refine g_goto Γ 92 dX4_countAhead_32 (by decide) ?_
            obtain ⟨v35, e36, hf⟩ := ya_lt_inv hf
            refine g_iinc (lv' := [(4, .int v35), (0, .ref h_t), (1, .int y1), (2, .int y2), (3, .int y3)]) Γ 4 dX4_countAhead_92 rfl (by rw [e36]; rfl) (by decide) rfl ?_
            refine g_goto Γ 5 dX4_countAhead_95 (by decide) ?_
            refine g_lv [1, 2, 3, 4, 0] rfl ?_
            exact ih _ _ _ _ _ _ _ _ _ _ hf hk
  show yG p l e (headSpec wsX4_countAhead rmX4_countAhead).room s m (List.toArray [.ref h_t, .int x1, .int x2]) below meth c D (va_A [(h_t, oM A_t), (A_t 0, oW A_t_now c_t_now_knots c_t_now_flows c_t_now_readSet), (A_t 5, eJ cJ 10 c_t_testAbove), (A_t 6, eJ cJ 10 c_t_testBelow)] sz) 9 0 0 (MQ below (yQi D (yT cI cJ cZ cW cR) r [(h_t, oM A_t), (A_t 0, oW A_t_now c_t_now_knots c_t_now_flows c_t_now_readSet), (A_t 5, eJ cJ 10 c_t_testAbove), (A_t 6, eJ cJ 10 c_t_testBelow)] (va_A [(h_t, oM A_t), (A_t 0, oW A_t_now c_t_now_knots c_t_now_flows c_t_now_readSet), (A_t 5, eJ cJ 10 c_t_testAbove), (A_t 6, eJ cJ 10 c_t_testBelow)] sz)) (List.toArray [.ref h_t, .int x1, .int x2]) s 0 0 (va_A [(h_t, oM A_t), (A_t 0, oW A_t_now c_t_now_knots c_t_now_flows c_t_now_readSet), (A_t 5, eJ cJ 10 c_t_testAbove), (A_t 6, eJ cJ 10 c_t_testBelow)] sz)) 0 [(0, .ref h_t), (1, .int x1), (2, .int x2)] [] [(h_t, oM A_t), (A_t 0, oW A_t_now c_t_now_knots c_t_now_flows c_t_now_readSet), (A_t 5, eJ cJ 10 c_t_testAbove), (A_t 6, eJ cJ 10 c_t_testBelow)]
  unfold fX4_countAhead at hf
  refine g_iconst (v := 0) Γ dX4_countAhead_0 (by decide) ?_
  refine g_istore_n (lv' := [(3, .int 0), (0, .ref h_t), (1, .int x1), (2, .int x2)]) Γ dX4_countAhead_1 (by decide) rfl ?_
  refine g_iconst (v := 0) Γ dX4_countAhead_2 (by decide) ?_
  refine g_istore (lv' := [(4, .int 0), (3, .int 0), (0, .ref h_t), (1, .int x1), (2, .int x2)]) Γ dX4_countAhead_3 (by decide) rfl ?_
  obtain ⟨v37, e38, hf⟩ := ya_ob hf
  refine g_lv [2, 3, 4, 1, 0] rfl ?_
  refine loop5 N _ _ _ _ _ _ _ _ _ _ e38  ?_
  refine g_iload_n Γ 0 dX4_countAhead_98 rfl ?_
  cases hf
  exact g_iret Γ hr dX4_countAhead_99 [0, 1, 2, 3] rfl rfl

set_option maxRecDepth 20000 in
theorem ggX4_rank_X4_spareSet : GoodIn wsX4_rank wsX4_spareSet := goodIn_r _ [7, 8, 1, 2, 9, 10, 11, 12, 13, 14, 15, 16, 17, 18, 19, 20, 6, 21, 22, 23, 24, 25, 26, 27, 28, 29, 30, 31, 32, 33, 34, 35, 36, 37, 38, 39, 40, 41, 42, 43, 44, 45, 46, 47, 48, 49, 50, 51, 52, 53, 54, 55, 121, 122, 123, 124, 125, 126, 127, 128, 129, 130, 131, 132, 133, 134, 135, 136, 137, 138, 139] rfl (by decide +kernel)
set_option maxRecDepth 20000 in
theorem gX4_rank_X4_spareSet : GoodIn wsX4_rank (wsV RX4 134 RX4 yX4_spareSet wsX4_spareSet) := goodIn_app (goodIn_of _ (by decide +kernel)) ggX4_rank_X4_spareSet
set_option maxRecDepth 20000 in
theorem ggX4_rank_J6_bitCount_0f7a4 : GoodIn wsX4_rank wsJ6_bitCount_0f7a4 := goodIn_r _ [59, 60, 61, 62] rfl (by decide +kernel)
set_option maxRecDepth 20000 in
theorem gX4_rank_J6_bitCount_0f7a4 : GoodIn wsX4_rank (va_wsS RX4 107 yJ6_bitCount_0f7a4 wsJ6_bitCount_0f7a4) := goodIn_app (goodIn_of _ (by decide +kernel)) ggX4_rank_J6_bitCount_0f7a4
set_option maxRecDepth 20000 in
theorem ggX4_rank_X4_testWithoutEach : GoodIn wsX4_rank wsX4_testWithoutEach := goodIn_r _ [66, 1, 2, 67, 68, 69, 70, 71, 53, 31, 6, 32, 9, 10, 11, 12, 13, 14, 15, 16, 17, 18, 19, 20, 21, 55, 72, 73, 74, 75, 76, 77, 78, 79, 80, 81, 23, 24, 25, 26, 27, 28, 29, 30, 33, 34, 35, 36, 37, 38, 39, 40, 41, 42, 43, 44, 45, 46, 47, 82, 83, 84, 85, 86, 87, 88, 89, 90, 91, 92, 93, 94, 95, 96, 97, 98, 99, 100, 101, 102, 103, 104, 105, 106, 107, 108, 109, 110, 111, 112, 113, 114, 115, 116, 121, 122, 123, 124, 125, 126, 127, 128, 129, 130, 131, 132, 133, 134, 135, 136, 137, 138, 140, 141, 142, 143, 144, 145, 146, 139] rfl (by decide +kernel)
set_option maxRecDepth 20000 in
theorem gX4_rank_X4_testWithoutEach : GoodIn wsX4_rank (wsV RX4 197 RX4 yX4_testWithoutEach wsX4_testWithoutEach) := goodIn_app (goodIn_of _ (by decide +kernel)) ggX4_rank_X4_testWithoutEach
set_option maxRecDepth 20000 in
theorem ggX4_rank_X4_holds : GoodIn wsX4_rank wsX4_holds := goodIn_r _ [32] rfl (by decide +kernel)
set_option maxRecDepth 20000 in
theorem gX4_rank_X4_holds : GoodIn wsX4_rank (va_wsS RX4 78 yX4_holds wsX4_holds) := goodIn_app (goodIn_of _ (by decide +kernel)) ggX4_rank_X4_holds
set_option maxRecDepth 20000 in
theorem ggX4_rank_X4_countAhead : GoodIn wsX4_rank wsX4_countAhead := goodIn_r _ [120, 1, 2, 68, 70, 53, 31, 6, 32, 121, 122, 123, 124, 125, 126, 127, 128, 129, 130, 131, 132, 133, 134, 135, 136, 137, 138] rfl (by decide +kernel)
set_option maxRecDepth 20000 in
theorem gX4_rank_X4_countAhead : GoodIn wsX4_rank (wsV RX4 200 RX4 yX4_countAhead wsX4_countAhead) := goodIn_app (goodIn_of _ (by decide +kernel)) ggX4_rank_X4_countAhead
theorem dX4_rank_0 : decode cX4_rank 0 = .ok (.aload_n 0, 1) := by decide +kernel
theorem dX4_rank_1 : decode cX4_rank 1 = .ok (.invokevirtual 134, 3) := by decide +kernel
theorem dX4_rank_4 : decode cX4_rank 4 = .ok (.istore_n 2, 1) := by decide +kernel
theorem dX4_rank_5 : decode cX4_rank 5 = .ok (.iload_n 1, 1) := by decide +kernel
theorem dX4_rank_6 : decode cX4_rank 6 = .ok (.ifCond .lt 11, 3) := by decide +kernel
theorem dX4_rank_9 : decode cX4_rank 9 = .ok (.iload_n 1, 1) := by decide +kernel
theorem dX4_rank_10 : decode cX4_rank 10 = .ok (.iload_n 2, 1) := by decide +kernel
theorem dX4_rank_11 : decode cX4_rank 11 = .ok (.invokestatic 107, 3) := by decide +kernel
theorem dX4_rank_14 : decode cX4_rank 14 = .ok (.if_icmp .lt 5, 3) := by decide +kernel
theorem dX4_rank_17 : decode cX4_rank 17 = .ok (.iconst (-1), 1) := by decide +kernel
theorem dX4_rank_18 : decode cX4_rank 18 = .ok (.ireturn, 1) := by decide +kernel
theorem dX4_rank_19 : decode cX4_rank 19 = .ok (.aload_n 0, 1) := by decide +kernel
theorem dX4_rank_20 : decode cX4_rank 20 = .ok (.iload_n 2, 1) := by decide +kernel
theorem dX4_rank_21 : decode cX4_rank 21 = .ok (.invokevirtual 197, 3) := by decide +kernel
theorem dX4_rank_24 : decode cX4_rank 24 = .ok (.iconst 0, 1) := by decide +kernel
theorem dX4_rank_25 : decode cX4_rank 25 = .ok (.istore_n 3, 1) := by decide +kernel
theorem dX4_rank_26 : decode cX4_rank 26 = .ok (.iload_n 3, 1) := by decide +kernel
theorem dX4_rank_27 : decode cX4_rank 27 = .ok (.aload_n 0, 1) := by decide +kernel
theorem dX4_rank_28 : decode cX4_rank 28 = .ok (.getfield 10, 3) := by decide +kernel
theorem dX4_rank_31 : decode cX4_rank 31 = .ok (.getfield 60, 3) := by decide +kernel
theorem dX4_rank_34 : decode cX4_rank 34 = .ok (.if_icmp .ge 29, 3) := by decide +kernel
theorem dX4_rank_37 : decode cX4_rank 37 = .ok (.iload_n 2, 1) := by decide +kernel
theorem dX4_rank_38 : decode cX4_rank 38 = .ok (.iload_n 3, 1) := by decide +kernel
theorem dX4_rank_39 : decode cX4_rank 39 = .ok (.invokestatic 78, 3) := by decide +kernel
theorem dX4_rank_42 : decode cX4_rank 42 = .ok (.ifCond .eq 15, 3) := by decide +kernel
theorem dX4_rank_45 : decode cX4_rank 45 = .ok (.aload_n 0, 1) := by decide +kernel
theorem dX4_rank_46 : decode cX4_rank 46 = .ok (.iload_n 3, 1) := by decide +kernel
theorem dX4_rank_47 : decode cX4_rank 47 = .ok (.iload_n 2, 1) := by decide +kernel
theorem dX4_rank_48 : decode cX4_rank 48 = .ok (.invokevirtual 200, 3) := by decide +kernel
theorem dX4_rank_51 : decode cX4_rank 51 = .ok (.iload_n 1, 1) := by decide +kernel
theorem dX4_rank_52 : decode cX4_rank 52 = .ok (.if_icmp .ne 5, 3) := by decide +kernel
theorem dX4_rank_55 : decode cX4_rank 55 = .ok (.iload_n 3, 1) := by decide +kernel
theorem dX4_rank_56 : decode cX4_rank 56 = .ok (.ireturn, 1) := by decide +kernel
theorem dX4_rank_57 : decode cX4_rank 57 = .ok (.iinc 3 1, 3) := by decide +kernel
theorem dX4_rank_60 : decode cX4_rank 60 = .ok (.goto (-34), 3) := by decide +kernel
theorem dX4_rank_63 : decode cX4_rank 63 = .ok (.iconst (-1), 1) := by decide +kernel
theorem dX4_rank_64 : decode cX4_rank 64 = .ok (.ireturn, 1) := by decide +kernel
/-! ===== FlowMeters.rank(I)I ===== -/
def fX4_rank_L26 (N : Nat) (n : Nat) (y1 : Int32) (y2 : Int32) (y3 : Int32) (d_t_now_flows : Int32) (d_t_testAbove : Nat → Int64) (d_t_testBelow : Nat → Int64) : Option ((Int32) ⊕ (Unit)) := match n with
  | 0 => none
  | n + 1 =>
    (if d_t_now_flows ≤ y3 then
        some (.inr ())
      else
        (fX4_holds y2 y3).bind fun v18 =>
        (if v18 = 0 then
          ya_lt (y3 + 1) fun v21 =>
          fX4_rank_L26 N n y1 y2 v21 d_t_now_flows d_t_testAbove d_t_testBelow
        else
          (fX4_countAhead N d_t_now_flows d_t_testAbove d_t_testBelow y3 y2).bind fun v23 =>
          (if v23 = y1 then
            some (.inl y3)
          else
            ya_lt (y3 + 1) fun v26 =>
            fX4_rank_L26 N n y1 y2 v26 d_t_now_flows d_t_testAbove d_t_testBelow)))
def fX4_rank (N : Nat) (c_t_now_knots : Int32) (c_t_now_flows : Int32) (c_t_now_readSet : Int32) (c_t_now_from : Nat → Int32) (c_t_now_to : Nat → Int32) (c_t_now_reading : Nat → Int32) (c_t_now_miss : Nat → Int32) (c_t_groups_least : Nat → Int32) (c_t_fit_unread : Int32) (c_t_fit_below : Int64) (c_t_fit_heaps_least : Nat → Int32) (c_t_fit_pieces_least : Nat → Int32) (c_t_fit_rows : Nat → Nat → Int64) (c_t_fit_surplus : Nat → Int64) (c_t_testAbove : Nat → Int64) (c_t_testBelow : Nat → Int64) (x1 : Int32) : Option (Int32 × (Nat → Int32) × Int32 × Int64 × (Nat → Int32) × (Nat → Int32) × (Nat → Nat → Int64) × (Nat → Int64) × (Nat → Int64) × (Nat → Int64)) :=
  (fX4_spareSet N c_t_now_flows c_t_now_readSet c_t_now_from c_t_now_to c_t_groups_least).bind fun (v1, v2) =>
  (if x1 < 0 then
    some ((-1), v2, c_t_fit_unread, c_t_fit_below, c_t_fit_heaps_least, c_t_fit_pieces_least, c_t_fit_rows, c_t_fit_surplus, c_t_testAbove, c_t_testBelow)
  else
    (fJ6_bitCount_0f7a4 v1).bind fun v5 =>
    (if x1 < v5 then
      (fX4_testWithoutEach N c_t_now_knots c_t_now_flows c_t_now_readSet c_t_now_from c_t_now_to c_t_now_reading c_t_now_miss c_t_fit_unread c_t_fit_below c_t_fit_heaps_least c_t_fit_pieces_least c_t_fit_rows c_t_fit_surplus c_t_testAbove c_t_testBelow v1).bind fun (v8, v9, v10, v11, v12, v13, v14, v15) =>
      (fX4_rank_L26 N N x1 v1 0 c_t_now_flows v14 v15).bind fun o28 => match o28 with
        | .inl v30 => some (v30, v2, v8, v9, v10, v11, v12, v13, v14, v15)
        | .inr _ => some ((-1), v2, v8, v9, v10, v11, v12, v13, v14, v15)
    else
      some ((-1), v2, c_t_fit_unread, c_t_fit_below, c_t_fit_heaps_least, c_t_fit_pieces_least, c_t_fit_rows, c_t_fit_surplus, c_t_testAbove, c_t_testBelow)))
theorem fX4_rank_10 : yF wsX4_rank RX4 10 4 0 RX4 TX4 7 := ⟨rfl, by decide, by decide +kernel, by decide +kernel⟩
theorem fX4_rank_60 : yF wsX4_rank RX4 60 3 1 RX3 TX3 11 := ⟨rfl, by decide, by decide +kernel, by decide +kernel⟩
abbrev rmX4_rank : Room := { frames := 5, cells := 0, slots := 0, locals := 141 }
theorem eX4_rank : yY yX4_rank wsX4_rank cX4_rank 4 (some .int) rmX4_rank 1 := ⟨⟨_, rfl⟩, rfl, rfl, by decide, by decide, by decide +kernel⟩
set_option maxHeartbeats 4000000 in
set_option maxRecDepth 100000 in
theorem mX4_rank {l : Launch} {D : va_G} {sz : Nat} {cI cJ cZ cW cR : ClassId} {N : Nat} {h_t : Nat} {A_t : Nat → Nat} {A_t_now : Nat → Nat} {A_t_groups : Nat → Nat} {A_t_fit : Nat → Nat} {A_t_fit_heaps : Nat → Nat} {A_t_fit_pieces : Nat → Nat} {A_t_fit_rows : Nat → Nat} {c_t_now_knots : Int32} {c_t_now_flows : Int32} {c_t_now_readSet : Int32} {c_t_now_from : Nat → Int32} {c_t_now_to : Nat → Int32} {c_t_now_reading : Nat → Int32} {c_t_now_miss : Nat → Int32} {c_t_groups_least : Nat → Int32} {c_t_fit_unread : Int32} {c_t_fit_below : Int64} {c_t_fit_heaps_least : Nat → Int32} {c_t_fit_pieces_least : Nat → Int32} {c_t_fit_rows : Nat → Nat → Int64} {c_t_fit_surplus : Nat → Int64} {c_t_testAbove : Nat → Int64} {c_t_testBelow : Nat → Int64} {x1 : Int32} {r : Int32} {zc_t_groups_least : Nat → Int32} {zc_t_fit_unread : Int32} {zc_t_fit_below : Int64} {zc_t_fit_heaps_least : Nat → Int32} {zc_t_fit_pieces_least : Nat → Int32} {zc_t_fit_rows : Nat → Nat → Int64} {zc_t_fit_surplus : Nat → Int64} {zc_t_testAbove : Nat → Int64} {zc_t_testBelow : Nat → Int64} (hf : fX4_rank N c_t_now_knots c_t_now_flows c_t_now_readSet c_t_now_from c_t_now_to c_t_now_reading c_t_now_miss c_t_groups_least c_t_fit_unread c_t_fit_below c_t_fit_heaps_least c_t_fit_pieces_least c_t_fit_rows c_t_fit_surplus c_t_testAbove c_t_testBelow x1 = some (r, zc_t_groups_least, zc_t_fit_unread, zc_t_fit_below, zc_t_fit_heaps_least, zc_t_fit_pieces_least, zc_t_fit_rows, zc_t_fit_surplus, zc_t_testAbove, zc_t_testBelow)) : Met l yX4_rank wsX4_rank rmX4_rank (yP D (yT cI cJ cZ cW cR) [(h_t, oM A_t), (A_t 0, oW A_t_now c_t_now_knots c_t_now_flows c_t_now_readSet), (A_t_now 0, eI cI 10 c_t_now_from), (A_t_now 1, eI cI 10 c_t_now_to), (A_t_now 2, eI cI 10 c_t_now_reading), (A_t_now 3, eI cI 10 c_t_now_miss), (A_t 2, oG A_t_groups), (A_t_groups 0, eI cI 6 c_t_groups_least), (A_t 3, oF A_t_fit c_t_fit_unread c_t_fit_below), (A_t_fit 0, oG A_t_fit_heaps), (A_t_fit_heaps 0, eI cI 6 c_t_fit_heaps_least), (A_t_fit 1, oG A_t_fit_pieces), (A_t_fit_pieces 0, eI cI 6 c_t_fit_pieces_least), (A_t_fit 3, eQ cR 6 A_t_fit_rows), (A_t_fit_rows 0, eJ cJ 7 (c_t_fit_rows 0)), (A_t_fit_rows 1, eJ cJ 7 (c_t_fit_rows 1)), (A_t_fit_rows 2, eJ cJ 7 (c_t_fit_rows 2)), (A_t_fit_rows 3, eJ cJ 7 (c_t_fit_rows 3)), (A_t_fit_rows 4, eJ cJ 7 (c_t_fit_rows 4)), (A_t_fit_rows 5, eJ cJ 7 (c_t_fit_rows 5)), (A_t_fit 4, eJ cJ 6 c_t_fit_surplus), (A_t 5, eJ cJ 10 c_t_testAbove), (A_t 6, eJ cJ 10 c_t_testBelow)] sz [.ref h_t, .int x1]) (yQi D (yT cI cJ cZ cW cR) r [(h_t, oM A_t), (A_t 0, oW A_t_now c_t_now_knots c_t_now_flows c_t_now_readSet), (A_t_now 0, eI cI 10 c_t_now_from), (A_t_now 1, eI cI 10 c_t_now_to), (A_t_now 2, eI cI 10 c_t_now_reading), (A_t_now 3, eI cI 10 c_t_now_miss), (A_t 2, oG A_t_groups), (A_t_groups 0, eI cI 6 zc_t_groups_least), (A_t 3, oF A_t_fit zc_t_fit_unread zc_t_fit_below), (A_t_fit 0, oG A_t_fit_heaps), (A_t_fit_heaps 0, eI cI 6 zc_t_fit_heaps_least), (A_t_fit 1, oG A_t_fit_pieces), (A_t_fit_pieces 0, eI cI 6 zc_t_fit_pieces_least), (A_t_fit 3, eQ cR 6 A_t_fit_rows), (A_t_fit_rows 0, eJ cJ 7 (zc_t_fit_rows 0)), (A_t_fit_rows 1, eJ cJ 7 (zc_t_fit_rows 1)), (A_t_fit_rows 2, eJ cJ 7 (zc_t_fit_rows 2)), (A_t_fit_rows 3, eJ cJ 7 (zc_t_fit_rows 3)), (A_t_fit_rows 4, eJ cJ 7 (zc_t_fit_rows 4)), (A_t_fit_rows 5, eJ cJ 7 (zc_t_fit_rows 5)), (A_t_fit 4, eJ cJ 6 zc_t_fit_surplus), (A_t 5, eJ cJ 10 zc_t_testAbove), (A_t 6, eJ cJ 10 zc_t_testBelow)] (va_A [(h_t, oM A_t), (A_t 0, oW A_t_now c_t_now_knots c_t_now_flows c_t_now_readSet), (A_t_now 0, eI cI 10 c_t_now_from), (A_t_now 1, eI cI 10 c_t_now_to), (A_t_now 2, eI cI 10 c_t_now_reading), (A_t_now 3, eI cI 10 c_t_now_miss), (A_t 2, oG A_t_groups), (A_t_groups 0, eI cI 6 c_t_groups_least), (A_t 3, oF A_t_fit c_t_fit_unread c_t_fit_below), (A_t_fit 0, oG A_t_fit_heaps), (A_t_fit_heaps 0, eI cI 6 c_t_fit_heaps_least), (A_t_fit 1, oG A_t_fit_pieces), (A_t_fit_pieces 0, eI cI 6 c_t_fit_pieces_least), (A_t_fit 3, eQ cR 6 A_t_fit_rows), (A_t_fit_rows 0, eJ cJ 7 (c_t_fit_rows 0)), (A_t_fit_rows 1, eJ cJ 7 (c_t_fit_rows 1)), (A_t_fit_rows 2, eJ cJ 7 (c_t_fit_rows 2)), (A_t_fit_rows 3, eJ cJ 7 (c_t_fit_rows 3)), (A_t_fit_rows 4, eJ cJ 7 (c_t_fit_rows 4)), (A_t_fit_rows 5, eJ cJ 7 (c_t_fit_rows 5)), (A_t_fit 4, eJ cJ 6 c_t_fit_surplus), (A_t 5, eJ cJ 10 c_t_testAbove), (A_t 6, eJ cJ 10 c_t_testBelow)] sz)) 0 0 (va_A [(h_t, oM A_t), (A_t 0, oW A_t_now c_t_now_knots c_t_now_flows c_t_now_readSet), (A_t_now 0, eI cI 10 c_t_now_from), (A_t_now 1, eI cI 10 c_t_now_to), (A_t_now 2, eI cI 10 c_t_now_reading), (A_t_now 3, eI cI 10 c_t_now_miss), (A_t 2, oG A_t_groups), (A_t_groups 0, eI cI 6 c_t_groups_least), (A_t 3, oF A_t_fit c_t_fit_unread c_t_fit_below), (A_t_fit 0, oG A_t_fit_heaps), (A_t_fit_heaps 0, eI cI 6 c_t_fit_heaps_least), (A_t_fit 1, oG A_t_fit_pieces), (A_t_fit_pieces 0, eI cI 6 c_t_fit_pieces_least), (A_t_fit 3, eQ cR 6 A_t_fit_rows), (A_t_fit_rows 0, eJ cJ 7 (c_t_fit_rows 0)), (A_t_fit_rows 1, eJ cJ 7 (c_t_fit_rows 1)), (A_t_fit_rows 2, eJ cJ 7 (c_t_fit_rows 2)), (A_t_fit_rows 3, eJ cJ 7 (c_t_fit_rows 3)), (A_t_fit_rows 4, eJ cJ 7 (c_t_fit_rows 4)), (A_t_fit_rows 5, eJ cJ 7 (c_t_fit_rows 5)), (A_t_fit 4, eJ cJ 6 c_t_fit_surplus), (A_t 5, eJ cJ 10 c_t_testAbove), (A_t 6, eJ cJ 10 c_t_testBelow)] sz) := by
  refine yM (cc := cX4_rank) (maxL := 4) (ret := (some .int)) RX4 (by decide) rfl rfl (Nat.le_of_ble_eq_true rfl) ?_
  intro p e s m below meth c Γ hr
  have loop26 : ∀ (n : Nat) (y1 : Int32) (y2 : Int32) (y3 : Int32) (d_t_now_knots : Int32) (d_t_now_flows : Int32) (d_t_now_readSet : Int32) (d_t_now_from : Nat → Int32) (d_t_now_to : Nat → Int32) (d_t_now_reading : Nat → Int32) (d_t_now_miss : Nat → Int32) (d_t_groups_least : Nat → Int32) (d_t_fit_unread : Int32) (d_t_fit_below : Int64) (d_t_fit_heaps_least : Nat → Int32) (d_t_fit_pieces_least : Nat → Int32) (d_t_fit_rows : Nat → Nat → Int64) (d_t_fit_surplus : Nat → Int64) (d_t_testAbove : Nat → Int64) (d_t_testBelow : Nat → Int64) (o : (Int32) ⊕ (Unit)), fX4_rank_L26 N n y1 y2 y3 d_t_now_flows d_t_testAbove d_t_testBelow = some o → (∀ (w0 : Int32), o = .inl w0 → yG p l e (headSpec wsX4_rank rmX4_rank).room s m (List.toArray [.ref h_t, .int x1]) below meth c D (va_A [(h_t, oM A_t), (A_t 0, oW A_t_now c_t_now_knots c_t_now_flows c_t_now_readSet), (A_t_now 0, eI cI 10 c_t_now_from), (A_t_now 1, eI cI 10 c_t_now_to), (A_t_now 2, eI cI 10 c_t_now_reading), (A_t_now 3, eI cI 10 c_t_now_miss), (A_t 2, oG A_t_groups), (A_t_groups 0, eI cI 6 c_t_groups_least), (A_t 3, oF A_t_fit c_t_fit_unread c_t_fit_below), (A_t_fit 0, oG A_t_fit_heaps), (A_t_fit_heaps 0, eI cI 6 c_t_fit_heaps_least), (A_t_fit 1, oG A_t_fit_pieces), (A_t_fit_pieces 0, eI cI 6 c_t_fit_pieces_least), (A_t_fit 3, eQ cR 6 A_t_fit_rows), (A_t_fit_rows 0, eJ cJ 7 (c_t_fit_rows 0)), (A_t_fit_rows 1, eJ cJ 7 (c_t_fit_rows 1)), (A_t_fit_rows 2, eJ cJ 7 (c_t_fit_rows 2)), (A_t_fit_rows 3, eJ cJ 7 (c_t_fit_rows 3)), (A_t_fit_rows 4, eJ cJ 7 (c_t_fit_rows 4)), (A_t_fit_rows 5, eJ cJ 7 (c_t_fit_rows 5)), (A_t_fit 4, eJ cJ 6 c_t_fit_surplus), (A_t 5, eJ cJ 10 c_t_testAbove), (A_t 6, eJ cJ 10 c_t_testBelow)] sz) 4 0 0 (MQ below (yQi D (yT cI cJ cZ cW cR) r [(h_t, oM A_t), (A_t 0, oW A_t_now c_t_now_knots c_t_now_flows c_t_now_readSet), (A_t_now 0, eI cI 10 c_t_now_from), (A_t_now 1, eI cI 10 c_t_now_to), (A_t_now 2, eI cI 10 c_t_now_reading), (A_t_now 3, eI cI 10 c_t_now_miss), (A_t 2, oG A_t_groups), (A_t_groups 0, eI cI 6 zc_t_groups_least), (A_t 3, oF A_t_fit zc_t_fit_unread zc_t_fit_below), (A_t_fit 0, oG A_t_fit_heaps), (A_t_fit_heaps 0, eI cI 6 zc_t_fit_heaps_least), (A_t_fit 1, oG A_t_fit_pieces), (A_t_fit_pieces 0, eI cI 6 zc_t_fit_pieces_least), (A_t_fit 3, eQ cR 6 A_t_fit_rows), (A_t_fit_rows 0, eJ cJ 7 (zc_t_fit_rows 0)), (A_t_fit_rows 1, eJ cJ 7 (zc_t_fit_rows 1)), (A_t_fit_rows 2, eJ cJ 7 (zc_t_fit_rows 2)), (A_t_fit_rows 3, eJ cJ 7 (zc_t_fit_rows 3)), (A_t_fit_rows 4, eJ cJ 7 (zc_t_fit_rows 4)), (A_t_fit_rows 5, eJ cJ 7 (zc_t_fit_rows 5)), (A_t_fit 4, eJ cJ 6 zc_t_fit_surplus), (A_t 5, eJ cJ 10 zc_t_testAbove), (A_t 6, eJ cJ 10 zc_t_testBelow)] (va_A [(h_t, oM A_t), (A_t 0, oW A_t_now c_t_now_knots c_t_now_flows c_t_now_readSet), (A_t_now 0, eI cI 10 c_t_now_from), (A_t_now 1, eI cI 10 c_t_now_to), (A_t_now 2, eI cI 10 c_t_now_reading), (A_t_now 3, eI cI 10 c_t_now_miss), (A_t 2, oG A_t_groups), (A_t_groups 0, eI cI 6 c_t_groups_least), (A_t 3, oF A_t_fit c_t_fit_unread c_t_fit_below), (A_t_fit 0, oG A_t_fit_heaps), (A_t_fit_heaps 0, eI cI 6 c_t_fit_heaps_least), (A_t_fit 1, oG A_t_fit_pieces), (A_t_fit_pieces 0, eI cI 6 c_t_fit_pieces_least), (A_t_fit 3, eQ cR 6 A_t_fit_rows), (A_t_fit_rows 0, eJ cJ 7 (c_t_fit_rows 0)), (A_t_fit_rows 1, eJ cJ 7 (c_t_fit_rows 1)), (A_t_fit_rows 2, eJ cJ 7 (c_t_fit_rows 2)), (A_t_fit_rows 3, eJ cJ 7 (c_t_fit_rows 3)), (A_t_fit_rows 4, eJ cJ 7 (c_t_fit_rows 4)), (A_t_fit_rows 5, eJ cJ 7 (c_t_fit_rows 5)), (A_t_fit 4, eJ cJ 6 c_t_fit_surplus), (A_t 5, eJ cJ 10 c_t_testAbove), (A_t 6, eJ cJ 10 c_t_testBelow)] sz)) (List.toArray [.ref h_t, .int x1]) s 0 0 (va_A [(h_t, oM A_t), (A_t 0, oW A_t_now c_t_now_knots c_t_now_flows c_t_now_readSet), (A_t_now 0, eI cI 10 c_t_now_from), (A_t_now 1, eI cI 10 c_t_now_to), (A_t_now 2, eI cI 10 c_t_now_reading), (A_t_now 3, eI cI 10 c_t_now_miss), (A_t 2, oG A_t_groups), (A_t_groups 0, eI cI 6 c_t_groups_least), (A_t 3, oF A_t_fit c_t_fit_unread c_t_fit_below), (A_t_fit 0, oG A_t_fit_heaps), (A_t_fit_heaps 0, eI cI 6 c_t_fit_heaps_least), (A_t_fit 1, oG A_t_fit_pieces), (A_t_fit_pieces 0, eI cI 6 c_t_fit_pieces_least), (A_t_fit 3, eQ cR 6 A_t_fit_rows), (A_t_fit_rows 0, eJ cJ 7 (c_t_fit_rows 0)), (A_t_fit_rows 1, eJ cJ 7 (c_t_fit_rows 1)), (A_t_fit_rows 2, eJ cJ 7 (c_t_fit_rows 2)), (A_t_fit_rows 3, eJ cJ 7 (c_t_fit_rows 3)), (A_t_fit_rows 4, eJ cJ 7 (c_t_fit_rows 4)), (A_t_fit_rows 5, eJ cJ 7 (c_t_fit_rows 5)), (A_t_fit 4, eJ cJ 6 c_t_fit_surplus), (A_t 5, eJ cJ 10 c_t_testAbove), (A_t 6, eJ cJ 10 c_t_testBelow)] sz)) 55 [(3, .int w0)] [] [(h_t, oM A_t), (A_t 0, oW A_t_now d_t_now_knots d_t_now_flows d_t_now_readSet), (A_t_now 0, eI cI 10 d_t_now_from), (A_t_now 1, eI cI 10 d_t_now_to), (A_t_now 2, eI cI 10 d_t_now_reading), (A_t_now 3, eI cI 10 d_t_now_miss), (A_t 2, oG A_t_groups), (A_t_groups 0, eI cI 6 d_t_groups_least), (A_t 3, oF A_t_fit d_t_fit_unread d_t_fit_below), (A_t_fit 0, oG A_t_fit_heaps), (A_t_fit_heaps 0, eI cI 6 d_t_fit_heaps_least), (A_t_fit 1, oG A_t_fit_pieces), (A_t_fit_pieces 0, eI cI 6 d_t_fit_pieces_least), (A_t_fit 3, eQ cR 6 A_t_fit_rows), (A_t_fit_rows 0, eJ cJ 7 (d_t_fit_rows 0)), (A_t_fit_rows 1, eJ cJ 7 (d_t_fit_rows 1)), (A_t_fit_rows 2, eJ cJ 7 (d_t_fit_rows 2)), (A_t_fit_rows 3, eJ cJ 7 (d_t_fit_rows 3)), (A_t_fit_rows 4, eJ cJ 7 (d_t_fit_rows 4)), (A_t_fit_rows 5, eJ cJ 7 (d_t_fit_rows 5)), (A_t_fit 4, eJ cJ 6 d_t_fit_surplus), (A_t 5, eJ cJ 10 d_t_testAbove), (A_t 6, eJ cJ 10 d_t_testBelow)]) → (∀ (w : Unit), o = .inr w → yG p l e (headSpec wsX4_rank rmX4_rank).room s m (List.toArray [.ref h_t, .int x1]) below meth c D (va_A [(h_t, oM A_t), (A_t 0, oW A_t_now c_t_now_knots c_t_now_flows c_t_now_readSet), (A_t_now 0, eI cI 10 c_t_now_from), (A_t_now 1, eI cI 10 c_t_now_to), (A_t_now 2, eI cI 10 c_t_now_reading), (A_t_now 3, eI cI 10 c_t_now_miss), (A_t 2, oG A_t_groups), (A_t_groups 0, eI cI 6 c_t_groups_least), (A_t 3, oF A_t_fit c_t_fit_unread c_t_fit_below), (A_t_fit 0, oG A_t_fit_heaps), (A_t_fit_heaps 0, eI cI 6 c_t_fit_heaps_least), (A_t_fit 1, oG A_t_fit_pieces), (A_t_fit_pieces 0, eI cI 6 c_t_fit_pieces_least), (A_t_fit 3, eQ cR 6 A_t_fit_rows), (A_t_fit_rows 0, eJ cJ 7 (c_t_fit_rows 0)), (A_t_fit_rows 1, eJ cJ 7 (c_t_fit_rows 1)), (A_t_fit_rows 2, eJ cJ 7 (c_t_fit_rows 2)), (A_t_fit_rows 3, eJ cJ 7 (c_t_fit_rows 3)), (A_t_fit_rows 4, eJ cJ 7 (c_t_fit_rows 4)), (A_t_fit_rows 5, eJ cJ 7 (c_t_fit_rows 5)), (A_t_fit 4, eJ cJ 6 c_t_fit_surplus), (A_t 5, eJ cJ 10 c_t_testAbove), (A_t 6, eJ cJ 10 c_t_testBelow)] sz) 4 0 0 (MQ below (yQi D (yT cI cJ cZ cW cR) r [(h_t, oM A_t), (A_t 0, oW A_t_now c_t_now_knots c_t_now_flows c_t_now_readSet), (A_t_now 0, eI cI 10 c_t_now_from), (A_t_now 1, eI cI 10 c_t_now_to), (A_t_now 2, eI cI 10 c_t_now_reading), (A_t_now 3, eI cI 10 c_t_now_miss), (A_t 2, oG A_t_groups), (A_t_groups 0, eI cI 6 zc_t_groups_least), (A_t 3, oF A_t_fit zc_t_fit_unread zc_t_fit_below), (A_t_fit 0, oG A_t_fit_heaps), (A_t_fit_heaps 0, eI cI 6 zc_t_fit_heaps_least), (A_t_fit 1, oG A_t_fit_pieces), (A_t_fit_pieces 0, eI cI 6 zc_t_fit_pieces_least), (A_t_fit 3, eQ cR 6 A_t_fit_rows), (A_t_fit_rows 0, eJ cJ 7 (zc_t_fit_rows 0)), (A_t_fit_rows 1, eJ cJ 7 (zc_t_fit_rows 1)), (A_t_fit_rows 2, eJ cJ 7 (zc_t_fit_rows 2)), (A_t_fit_rows 3, eJ cJ 7 (zc_t_fit_rows 3)), (A_t_fit_rows 4, eJ cJ 7 (zc_t_fit_rows 4)), (A_t_fit_rows 5, eJ cJ 7 (zc_t_fit_rows 5)), (A_t_fit 4, eJ cJ 6 zc_t_fit_surplus), (A_t 5, eJ cJ 10 zc_t_testAbove), (A_t 6, eJ cJ 10 zc_t_testBelow)] (va_A [(h_t, oM A_t), (A_t 0, oW A_t_now c_t_now_knots c_t_now_flows c_t_now_readSet), (A_t_now 0, eI cI 10 c_t_now_from), (A_t_now 1, eI cI 10 c_t_now_to), (A_t_now 2, eI cI 10 c_t_now_reading), (A_t_now 3, eI cI 10 c_t_now_miss), (A_t 2, oG A_t_groups), (A_t_groups 0, eI cI 6 c_t_groups_least), (A_t 3, oF A_t_fit c_t_fit_unread c_t_fit_below), (A_t_fit 0, oG A_t_fit_heaps), (A_t_fit_heaps 0, eI cI 6 c_t_fit_heaps_least), (A_t_fit 1, oG A_t_fit_pieces), (A_t_fit_pieces 0, eI cI 6 c_t_fit_pieces_least), (A_t_fit 3, eQ cR 6 A_t_fit_rows), (A_t_fit_rows 0, eJ cJ 7 (c_t_fit_rows 0)), (A_t_fit_rows 1, eJ cJ 7 (c_t_fit_rows 1)), (A_t_fit_rows 2, eJ cJ 7 (c_t_fit_rows 2)), (A_t_fit_rows 3, eJ cJ 7 (c_t_fit_rows 3)), (A_t_fit_rows 4, eJ cJ 7 (c_t_fit_rows 4)), (A_t_fit_rows 5, eJ cJ 7 (c_t_fit_rows 5)), (A_t_fit 4, eJ cJ 6 c_t_fit_surplus), (A_t 5, eJ cJ 10 c_t_testAbove), (A_t 6, eJ cJ 10 c_t_testBelow)] sz)) (List.toArray [.ref h_t, .int x1]) s 0 0 (va_A [(h_t, oM A_t), (A_t 0, oW A_t_now c_t_now_knots c_t_now_flows c_t_now_readSet), (A_t_now 0, eI cI 10 c_t_now_from), (A_t_now 1, eI cI 10 c_t_now_to), (A_t_now 2, eI cI 10 c_t_now_reading), (A_t_now 3, eI cI 10 c_t_now_miss), (A_t 2, oG A_t_groups), (A_t_groups 0, eI cI 6 c_t_groups_least), (A_t 3, oF A_t_fit c_t_fit_unread c_t_fit_below), (A_t_fit 0, oG A_t_fit_heaps), (A_t_fit_heaps 0, eI cI 6 c_t_fit_heaps_least), (A_t_fit 1, oG A_t_fit_pieces), (A_t_fit_pieces 0, eI cI 6 c_t_fit_pieces_least), (A_t_fit 3, eQ cR 6 A_t_fit_rows), (A_t_fit_rows 0, eJ cJ 7 (c_t_fit_rows 0)), (A_t_fit_rows 1, eJ cJ 7 (c_t_fit_rows 1)), (A_t_fit_rows 2, eJ cJ 7 (c_t_fit_rows 2)), (A_t_fit_rows 3, eJ cJ 7 (c_t_fit_rows 3)), (A_t_fit_rows 4, eJ cJ 7 (c_t_fit_rows 4)), (A_t_fit_rows 5, eJ cJ 7 (c_t_fit_rows 5)), (A_t_fit 4, eJ cJ 6 c_t_fit_surplus), (A_t 5, eJ cJ 10 c_t_testAbove), (A_t 6, eJ cJ 10 c_t_testBelow)] sz)) 63 [] [] [(h_t, oM A_t), (A_t 0, oW A_t_now d_t_now_knots d_t_now_flows d_t_now_readSet), (A_t_now 0, eI cI 10 d_t_now_from), (A_t_now 1, eI cI 10 d_t_now_to), (A_t_now 2, eI cI 10 d_t_now_reading), (A_t_now 3, eI cI 10 d_t_now_miss), (A_t 2, oG A_t_groups), (A_t_groups 0, eI cI 6 d_t_groups_least), (A_t 3, oF A_t_fit d_t_fit_unread d_t_fit_below), (A_t_fit 0, oG A_t_fit_heaps), (A_t_fit_heaps 0, eI cI 6 d_t_fit_heaps_least), (A_t_fit 1, oG A_t_fit_pieces), (A_t_fit_pieces 0, eI cI 6 d_t_fit_pieces_least), (A_t_fit 3, eQ cR 6 A_t_fit_rows), (A_t_fit_rows 0, eJ cJ 7 (d_t_fit_rows 0)), (A_t_fit_rows 1, eJ cJ 7 (d_t_fit_rows 1)), (A_t_fit_rows 2, eJ cJ 7 (d_t_fit_rows 2)), (A_t_fit_rows 3, eJ cJ 7 (d_t_fit_rows 3)), (A_t_fit_rows 4, eJ cJ 7 (d_t_fit_rows 4)), (A_t_fit_rows 5, eJ cJ 7 (d_t_fit_rows 5)), (A_t_fit 4, eJ cJ 6 d_t_fit_surplus), (A_t 5, eJ cJ 10 d_t_testAbove), (A_t 6, eJ cJ 10 d_t_testBelow)]) → yG p l e (headSpec wsX4_rank rmX4_rank).room s m (List.toArray [.ref h_t, .int x1]) below meth c D (va_A [(h_t, oM A_t), (A_t 0, oW A_t_now c_t_now_knots c_t_now_flows c_t_now_readSet), (A_t_now 0, eI cI 10 c_t_now_from), (A_t_now 1, eI cI 10 c_t_now_to), (A_t_now 2, eI cI 10 c_t_now_reading), (A_t_now 3, eI cI 10 c_t_now_miss), (A_t 2, oG A_t_groups), (A_t_groups 0, eI cI 6 c_t_groups_least), (A_t 3, oF A_t_fit c_t_fit_unread c_t_fit_below), (A_t_fit 0, oG A_t_fit_heaps), (A_t_fit_heaps 0, eI cI 6 c_t_fit_heaps_least), (A_t_fit 1, oG A_t_fit_pieces), (A_t_fit_pieces 0, eI cI 6 c_t_fit_pieces_least), (A_t_fit 3, eQ cR 6 A_t_fit_rows), (A_t_fit_rows 0, eJ cJ 7 (c_t_fit_rows 0)), (A_t_fit_rows 1, eJ cJ 7 (c_t_fit_rows 1)), (A_t_fit_rows 2, eJ cJ 7 (c_t_fit_rows 2)), (A_t_fit_rows 3, eJ cJ 7 (c_t_fit_rows 3)), (A_t_fit_rows 4, eJ cJ 7 (c_t_fit_rows 4)), (A_t_fit_rows 5, eJ cJ 7 (c_t_fit_rows 5)), (A_t_fit 4, eJ cJ 6 c_t_fit_surplus), (A_t 5, eJ cJ 10 c_t_testAbove), (A_t 6, eJ cJ 10 c_t_testBelow)] sz) 4 0 0 (MQ below (yQi D (yT cI cJ cZ cW cR) r [(h_t, oM A_t), (A_t 0, oW A_t_now c_t_now_knots c_t_now_flows c_t_now_readSet), (A_t_now 0, eI cI 10 c_t_now_from), (A_t_now 1, eI cI 10 c_t_now_to), (A_t_now 2, eI cI 10 c_t_now_reading), (A_t_now 3, eI cI 10 c_t_now_miss), (A_t 2, oG A_t_groups), (A_t_groups 0, eI cI 6 zc_t_groups_least), (A_t 3, oF A_t_fit zc_t_fit_unread zc_t_fit_below), (A_t_fit 0, oG A_t_fit_heaps), (A_t_fit_heaps 0, eI cI 6 zc_t_fit_heaps_least), (A_t_fit 1, oG A_t_fit_pieces), (A_t_fit_pieces 0, eI cI 6 zc_t_fit_pieces_least), (A_t_fit 3, eQ cR 6 A_t_fit_rows), (A_t_fit_rows 0, eJ cJ 7 (zc_t_fit_rows 0)), (A_t_fit_rows 1, eJ cJ 7 (zc_t_fit_rows 1)), (A_t_fit_rows 2, eJ cJ 7 (zc_t_fit_rows 2)), (A_t_fit_rows 3, eJ cJ 7 (zc_t_fit_rows 3)), (A_t_fit_rows 4, eJ cJ 7 (zc_t_fit_rows 4)), (A_t_fit_rows 5, eJ cJ 7 (zc_t_fit_rows 5)), (A_t_fit 4, eJ cJ 6 zc_t_fit_surplus), (A_t 5, eJ cJ 10 zc_t_testAbove), (A_t 6, eJ cJ 10 zc_t_testBelow)] (va_A [(h_t, oM A_t), (A_t 0, oW A_t_now c_t_now_knots c_t_now_flows c_t_now_readSet), (A_t_now 0, eI cI 10 c_t_now_from), (A_t_now 1, eI cI 10 c_t_now_to), (A_t_now 2, eI cI 10 c_t_now_reading), (A_t_now 3, eI cI 10 c_t_now_miss), (A_t 2, oG A_t_groups), (A_t_groups 0, eI cI 6 c_t_groups_least), (A_t 3, oF A_t_fit c_t_fit_unread c_t_fit_below), (A_t_fit 0, oG A_t_fit_heaps), (A_t_fit_heaps 0, eI cI 6 c_t_fit_heaps_least), (A_t_fit 1, oG A_t_fit_pieces), (A_t_fit_pieces 0, eI cI 6 c_t_fit_pieces_least), (A_t_fit 3, eQ cR 6 A_t_fit_rows), (A_t_fit_rows 0, eJ cJ 7 (c_t_fit_rows 0)), (A_t_fit_rows 1, eJ cJ 7 (c_t_fit_rows 1)), (A_t_fit_rows 2, eJ cJ 7 (c_t_fit_rows 2)), (A_t_fit_rows 3, eJ cJ 7 (c_t_fit_rows 3)), (A_t_fit_rows 4, eJ cJ 7 (c_t_fit_rows 4)), (A_t_fit_rows 5, eJ cJ 7 (c_t_fit_rows 5)), (A_t_fit 4, eJ cJ 6 c_t_fit_surplus), (A_t 5, eJ cJ 10 c_t_testAbove), (A_t 6, eJ cJ 10 c_t_testBelow)] sz)) (List.toArray [.ref h_t, .int x1]) s 0 0 (va_A [(h_t, oM A_t), (A_t 0, oW A_t_now c_t_now_knots c_t_now_flows c_t_now_readSet), (A_t_now 0, eI cI 10 c_t_now_from), (A_t_now 1, eI cI 10 c_t_now_to), (A_t_now 2, eI cI 10 c_t_now_reading), (A_t_now 3, eI cI 10 c_t_now_miss), (A_t 2, oG A_t_groups), (A_t_groups 0, eI cI 6 c_t_groups_least), (A_t 3, oF A_t_fit c_t_fit_unread c_t_fit_below), (A_t_fit 0, oG A_t_fit_heaps), (A_t_fit_heaps 0, eI cI 6 c_t_fit_heaps_least), (A_t_fit 1, oG A_t_fit_pieces), (A_t_fit_pieces 0, eI cI 6 c_t_fit_pieces_least), (A_t_fit 3, eQ cR 6 A_t_fit_rows), (A_t_fit_rows 0, eJ cJ 7 (c_t_fit_rows 0)), (A_t_fit_rows 1, eJ cJ 7 (c_t_fit_rows 1)), (A_t_fit_rows 2, eJ cJ 7 (c_t_fit_rows 2)), (A_t_fit_rows 3, eJ cJ 7 (c_t_fit_rows 3)), (A_t_fit_rows 4, eJ cJ 7 (c_t_fit_rows 4)), (A_t_fit_rows 5, eJ cJ 7 (c_t_fit_rows 5)), (A_t_fit 4, eJ cJ 6 c_t_fit_surplus), (A_t 5, eJ cJ 10 c_t_testAbove), (A_t 6, eJ cJ 10 c_t_testBelow)] sz)) 26 [(0, .ref h_t), (1, .int y1), (2, .int y2), (3, .int y3)] [] [(h_t, oM A_t), (A_t 0, oW A_t_now d_t_now_knots d_t_now_flows d_t_now_readSet), (A_t_now 0, eI cI 10 d_t_now_from), (A_t_now 1, eI cI 10 d_t_now_to), (A_t_now 2, eI cI 10 d_t_now_reading), (A_t_now 3, eI cI 10 d_t_now_miss), (A_t 2, oG A_t_groups), (A_t_groups 0, eI cI 6 d_t_groups_least), (A_t 3, oF A_t_fit d_t_fit_unread d_t_fit_below), (A_t_fit 0, oG A_t_fit_heaps), (A_t_fit_heaps 0, eI cI 6 d_t_fit_heaps_least), (A_t_fit 1, oG A_t_fit_pieces), (A_t_fit_pieces 0, eI cI 6 d_t_fit_pieces_least), (A_t_fit 3, eQ cR 6 A_t_fit_rows), (A_t_fit_rows 0, eJ cJ 7 (d_t_fit_rows 0)), (A_t_fit_rows 1, eJ cJ 7 (d_t_fit_rows 1)), (A_t_fit_rows 2, eJ cJ 7 (d_t_fit_rows 2)), (A_t_fit_rows 3, eJ cJ 7 (d_t_fit_rows 3)), (A_t_fit_rows 4, eJ cJ 7 (d_t_fit_rows 4)), (A_t_fit_rows 5, eJ cJ 7 (d_t_fit_rows 5)), (A_t_fit 4, eJ cJ 6 d_t_fit_surplus), (A_t 5, eJ cJ 10 d_t_testAbove), (A_t 6, eJ cJ 10 d_t_testBelow)] := by
    intro n
    induction n with
    | zero =>
      intro y1 y2 y3 d_t_now_knots d_t_now_flows d_t_now_readSet d_t_now_from d_t_now_to d_t_now_reading d_t_now_miss d_t_groups_least d_t_fit_unread d_t_fit_below d_t_fit_heaps_least d_t_fit_pieces_least d_t_fit_rows d_t_fit_surplus d_t_testAbove d_t_testBelow o hf
      cases hf
    | succ n ih =>
      intro y1 y2 y3 d_t_now_knots d_t_now_flows d_t_now_readSet d_t_now_from d_t_now_to d_t_now_reading d_t_now_miss d_t_groups_least d_t_fit_unread d_t_fit_below d_t_fit_heaps_least d_t_fit_pieces_least d_t_fit_rows d_t_fit_surplus d_t_testAbove d_t_testBelow o hf hk1 hk2
      unfold fX4_rank_L26 at hf
      refine g_iload_n Γ 3 dX4_rank_26 rfl ?_
      refine g_aload_n Γ 0 dX4_rank_27 rfl ?_
      refine g_get Γ fX4_rank_10 0 rfl rfl dX4_rank_28 ?_
      refine g_get Γ fX4_rank_60 1 rfl rfl dX4_rank_31 ?_
      refine g_icmp_ge Γ 63 dX4_rank_34 (by decide) (fun c17 => ?_) (fun c17 => ?_)
      · have hf := ya_if1 c17 hf
        cases hf
        refine g_lv [] rfl ?_
        exact hk2 _ rfl
      · have hf := ya_if2 c17 hf
        refine g_iload_n Γ 2 dX4_rank_37 rfl ?_
        refine g_iload_n Γ 3 dX4_rank_38 rfl ?_
        obtain ⟨v18, e19, hf⟩ := ya_ob hf
        refine g_si (wr := [(h_t, oM A_t), (A_t 0, oW A_t_now d_t_now_knots d_t_now_flows d_t_now_readSet), (A_t_now 0, eI cI 10 d_t_now_from), (A_t_now 1, eI cI 10 d_t_now_to), (A_t_now 2, eI cI 10 d_t_now_reading), (A_t_now 3, eI cI 10 d_t_now_miss), (A_t 2, oG A_t_groups), (A_t_groups 0, eI cI 6 d_t_groups_least), (A_t 3, oF A_t_fit d_t_fit_unread d_t_fit_below), (A_t_fit 0, oG A_t_fit_heaps), (A_t_fit_heaps 0, eI cI 6 d_t_fit_heaps_least), (A_t_fit 1, oG A_t_fit_pieces), (A_t_fit_pieces 0, eI cI 6 d_t_fit_pieces_least), (A_t_fit 3, eQ cR 6 A_t_fit_rows), (A_t_fit_rows 0, eJ cJ 7 (d_t_fit_rows 0)), (A_t_fit_rows 1, eJ cJ 7 (d_t_fit_rows 1)), (A_t_fit_rows 2, eJ cJ 7 (d_t_fit_rows 2)), (A_t_fit_rows 3, eJ cJ 7 (d_t_fit_rows 3)), (A_t_fit_rows 4, eJ cJ 7 (d_t_fit_rows 4)), (A_t_fit_rows 5, eJ cJ 7 (d_t_fit_rows 5)), (A_t_fit 4, eJ cJ 6 d_t_fit_surplus), (A_t 5, eJ cJ 10 d_t_testAbove), (A_t 6, eJ cJ 10 d_t_testBelow)]) (ws' := [(h_t, oM A_t), (A_t 0, oW A_t_now d_t_now_knots d_t_now_flows d_t_now_readSet), (A_t_now 0, eI cI 10 d_t_now_from), (A_t_now 1, eI cI 10 d_t_now_to), (A_t_now 2, eI cI 10 d_t_now_reading), (A_t_now 3, eI cI 10 d_t_now_miss), (A_t 2, oG A_t_groups), (A_t_groups 0, eI cI 6 d_t_groups_least), (A_t 3, oF A_t_fit d_t_fit_unread d_t_fit_below), (A_t_fit 0, oG A_t_fit_heaps), (A_t_fit_heaps 0, eI cI 6 d_t_fit_heaps_least), (A_t_fit 1, oG A_t_fit_pieces), (A_t_fit_pieces 0, eI cI 6 d_t_fit_pieces_least), (A_t_fit 3, eQ cR 6 A_t_fit_rows), (A_t_fit_rows 0, eJ cJ 7 (d_t_fit_rows 0)), (A_t_fit_rows 1, eJ cJ 7 (d_t_fit_rows 1)), (A_t_fit_rows 2, eJ cJ 7 (d_t_fit_rows 2)), (A_t_fit_rows 3, eJ cJ 7 (d_t_fit_rows 3)), (A_t_fit_rows 4, eJ cJ 7 (d_t_fit_rows 4)), (A_t_fit_rows 5, eJ cJ 7 (d_t_fit_rows 5)), (A_t_fit 4, eJ cJ 6 d_t_fit_surplus), (A_t 5, eJ cJ 10 d_t_testAbove), (A_t 6, eJ cJ 10 d_t_testBelow)]) Γ (fun sz => mX4_holds (l := l) (D := D) (sz := sz) (cI := cI) (cJ := cJ) (cZ := cZ) (cW := cW) (cR := cR)  (hf := e19)) eX4_holds ggX4_rank_X4_holds (by decide +kernel) (by decide +kernel) (by decide +kernel) rfl rfl (Nat.le_of_ble_eq_true rfl) ⟨Nat.le_of_ble_eq_true rfl, Nat.le_of_ble_eq_true rfl⟩ dX4_rank_39 [] [0, 1, 2, 3, 4, 5, 6, 7, 8, 9, 10, 11, 12, 13, 14, 15, 16, 17, 18, 19, 20, 21, 22] rfl rfl rfl rfl (by decide) rfl ?_
        refine g_if_eq Γ 57 dX4_rank_42 (by decide) (fun c20 => ?_) (fun c20 => ?_)
        · have hf := ya_if1 c20 hf
          obtain ⟨v21, e22, hf⟩ := ya_lt_inv hf
          refine g_iinc (lv' := [(3, .int v21), (0, .ref h_t), (1, .int y1), (2, .int y2)]) Γ 3 dX4_rank_57 rfl (by rw [e22]; rfl) (by decide) rfl ?_
          refine g_goto Γ 26 dX4_rank_60 (by decide) ?_
          refine g_lv [1, 2, 3, 0] rfl ?_
          exact ih _ _ _ _ _ _ _ _ _ _ _ _ _ _ _ _ _ _ _ _ hf hk1 hk2
        · have hf := ya_if2 c20 hf
          refine g_aload_n Γ 0 dX4_rank_45 rfl ?_
          refine g_iload_n Γ 3 dX4_rank_46 rfl ?_
          refine g_iload_n Γ 2 dX4_rank_47 rfl ?_
          obtain ⟨v23, e24, hf⟩ := ya_ob hf
          refine g_vi (q := (RX4, TX4, 7)) (wr := [(A_t_now 0, eI cI 10 d_t_now_from), (A_t_now 1, eI cI 10 d_t_now_to), (A_t_now 2, eI cI 10 d_t_now_reading), (A_t_now 3, eI cI 10 d_t_now_miss), (A_t 2, oG A_t_groups), (A_t_groups 0, eI cI 6 d_t_groups_least), (A_t 3, oF A_t_fit d_t_fit_unread d_t_fit_below), (A_t_fit 0, oG A_t_fit_heaps), (A_t_fit_heaps 0, eI cI 6 d_t_fit_heaps_least), (A_t_fit 1, oG A_t_fit_pieces), (A_t_fit_pieces 0, eI cI 6 d_t_fit_pieces_least), (A_t_fit 3, eQ cR 6 A_t_fit_rows), (A_t_fit_rows 0, eJ cJ 7 (d_t_fit_rows 0)), (A_t_fit_rows 1, eJ cJ 7 (d_t_fit_rows 1)), (A_t_fit_rows 2, eJ cJ 7 (d_t_fit_rows 2)), (A_t_fit_rows 3, eJ cJ 7 (d_t_fit_rows 3)), (A_t_fit_rows 4, eJ cJ 7 (d_t_fit_rows 4)), (A_t_fit_rows 5, eJ cJ 7 (d_t_fit_rows 5)), (A_t_fit 4, eJ cJ 6 d_t_fit_surplus)]) (ws' := [(A_t_now 0, eI cI 10 d_t_now_from), (A_t_now 1, eI cI 10 d_t_now_to), (A_t_now 2, eI cI 10 d_t_now_reading), (A_t_now 3, eI cI 10 d_t_now_miss), (A_t 2, oG A_t_groups), (A_t_groups 0, eI cI 6 d_t_groups_least), (A_t 3, oF A_t_fit d_t_fit_unread d_t_fit_below), (A_t_fit 0, oG A_t_fit_heaps), (A_t_fit_heaps 0, eI cI 6 d_t_fit_heaps_least), (A_t_fit 1, oG A_t_fit_pieces), (A_t_fit_pieces 0, eI cI 6 d_t_fit_pieces_least), (A_t_fit 3, eQ cR 6 A_t_fit_rows), (A_t_fit_rows 0, eJ cJ 7 (d_t_fit_rows 0)), (A_t_fit_rows 1, eJ cJ 7 (d_t_fit_rows 1)), (A_t_fit_rows 2, eJ cJ 7 (d_t_fit_rows 2)), (A_t_fit_rows 3, eJ cJ 7 (d_t_fit_rows 3)), (A_t_fit_rows 4, eJ cJ 7 (d_t_fit_rows 4)), (A_t_fit_rows 5, eJ cJ 7 (d_t_fit_rows 5)), (A_t_fit 4, eJ cJ 6 d_t_fit_surplus), (h_t, oM A_t), (A_t 0, oW A_t_now d_t_now_knots d_t_now_flows d_t_now_readSet), (A_t 5, eJ cJ 10 d_t_testAbove), (A_t 6, eJ cJ 10 d_t_testBelow)]) Γ (fun sz => mX4_countAhead (l := l) (D := D) (sz := sz) (cI := cI) (cJ := cJ) (cZ := cZ) (cW := cW) (cR := cR) (h_t := h_t) (A_t := A_t) (A_t_now := A_t_now) (hf := e24)) eX4_countAhead gX4_rank_X4_countAhead rfl rfl 0 rfl rfl rfl (Nat.le_of_ble_eq_true rfl) ⟨Nat.le_of_ble_eq_true rfl, Nat.le_of_ble_eq_true rfl⟩ dX4_rank_48 [0, 1, 21, 22] [2, 3, 4, 5, 6, 7, 8, 9, 10, 11, 12, 13, 14, 15, 16, 17, 18, 19, 20] rfl rfl rfl rfl (by decide) rfl ?_
          refine g_iload_n Γ 1 dX4_rank_51 rfl ?_
          refine g_icmp_ne Γ 57 dX4_rank_52 (by decide) (fun c25 => ?_) (fun c25 => ?_)
          · have hf := ya_if2 c25 hf
            obtain ⟨v26, e27, hf⟩ := ya_lt_inv hf
            refine g_iinc (lv' := [(3, .int v26), (0, .ref h_t), (1, .int y1), (2, .int y2)]) Γ 3 dX4_rank_57 rfl (by rw [e27]; rfl) (by decide) rfl ?_
            refine g_goto Γ 26 dX4_rank_60 (by decide) ?_
            refine g_lv [1, 2, 3, 0] rfl ?_
            refine g_ws (ws' := [(h_t, oM A_t), (A_t 0, oW A_t_now d_t_now_knots d_t_now_flows d_t_now_readSet), (A_t_now 0, eI cI 10 d_t_now_from), (A_t_now 1, eI cI 10 d_t_now_to), (A_t_now 2, eI cI 10 d_t_now_reading), (A_t_now 3, eI cI 10 d_t_now_miss), (A_t 2, oG A_t_groups), (A_t_groups 0, eI cI 6 d_t_groups_least), (A_t 3, oF A_t_fit d_t_fit_unread d_t_fit_below), (A_t_fit 0, oG A_t_fit_heaps), (A_t_fit_heaps 0, eI cI 6 d_t_fit_heaps_least), (A_t_fit 1, oG A_t_fit_pieces), (A_t_fit_pieces 0, eI cI 6 d_t_fit_pieces_least), (A_t_fit 3, eQ cR 6 A_t_fit_rows), (A_t_fit_rows 0, eJ cJ 7 (d_t_fit_rows 0)), (A_t_fit_rows 1, eJ cJ 7 (d_t_fit_rows 1)), (A_t_fit_rows 2, eJ cJ 7 (d_t_fit_rows 2)), (A_t_fit_rows 3, eJ cJ 7 (d_t_fit_rows 3)), (A_t_fit_rows 4, eJ cJ 7 (d_t_fit_rows 4)), (A_t_fit_rows 5, eJ cJ 7 (d_t_fit_rows 5)), (A_t_fit 4, eJ cJ 6 d_t_fit_surplus), (A_t 5, eJ cJ 10 d_t_testAbove), (A_t 6, eJ cJ 10 d_t_testBelow)]) [19, 20, 0, 1, 2, 3, 4, 5, 6, 7, 8, 9, 10, 11, 12, 13, 14, 15, 16, 17, 18, 21, 22] rfl rfl ?_
            exact ih _ _ _ _ _ _ _ _ _ _ _ _ _ _ _ _ _ _ _ _ hf hk1 hk2
          · have hf := ya_if1 c25 hf
            cases hf
            refine g_lv [3] rfl ?_
            refine g_ws (ws' := [(h_t, oM A_t), (A_t 0, oW A_t_now d_t_now_knots d_t_now_flows d_t_now_readSet), (A_t_now 0, eI cI 10 d_t_now_from), (A_t_now 1, eI cI 10 d_t_now_to), (A_t_now 2, eI cI 10 d_t_now_reading), (A_t_now 3, eI cI 10 d_t_now_miss), (A_t 2, oG A_t_groups), (A_t_groups 0, eI cI 6 d_t_groups_least), (A_t 3, oF A_t_fit d_t_fit_unread d_t_fit_below), (A_t_fit 0, oG A_t_fit_heaps), (A_t_fit_heaps 0, eI cI 6 d_t_fit_heaps_least), (A_t_fit 1, oG A_t_fit_pieces), (A_t_fit_pieces 0, eI cI 6 d_t_fit_pieces_least), (A_t_fit 3, eQ cR 6 A_t_fit_rows), (A_t_fit_rows 0, eJ cJ 7 (d_t_fit_rows 0)), (A_t_fit_rows 1, eJ cJ 7 (d_t_fit_rows 1)), (A_t_fit_rows 2, eJ cJ 7 (d_t_fit_rows 2)), (A_t_fit_rows 3, eJ cJ 7 (d_t_fit_rows 3)), (A_t_fit_rows 4, eJ cJ 7 (d_t_fit_rows 4)), (A_t_fit_rows 5, eJ cJ 7 (d_t_fit_rows 5)), (A_t_fit 4, eJ cJ 6 d_t_fit_surplus), (A_t 5, eJ cJ 10 d_t_testAbove), (A_t 6, eJ cJ 10 d_t_testBelow)]) [19, 20, 0, 1, 2, 3, 4, 5, 6, 7, 8, 9, 10, 11, 12, 13, 14, 15, 16, 17, 18, 21, 22] rfl rfl ?_
            exact hk1 _ rfl
  show yG p l e (headSpec wsX4_rank rmX4_rank).room s m (List.toArray [.ref h_t, .int x1]) below meth c D (va_A [(h_t, oM A_t), (A_t 0, oW A_t_now c_t_now_knots c_t_now_flows c_t_now_readSet), (A_t_now 0, eI cI 10 c_t_now_from), (A_t_now 1, eI cI 10 c_t_now_to), (A_t_now 2, eI cI 10 c_t_now_reading), (A_t_now 3, eI cI 10 c_t_now_miss), (A_t 2, oG A_t_groups), (A_t_groups 0, eI cI 6 c_t_groups_least), (A_t 3, oF A_t_fit c_t_fit_unread c_t_fit_below), (A_t_fit 0, oG A_t_fit_heaps), (A_t_fit_heaps 0, eI cI 6 c_t_fit_heaps_least), (A_t_fit 1, oG A_t_fit_pieces), (A_t_fit_pieces 0, eI cI 6 c_t_fit_pieces_least), (A_t_fit 3, eQ cR 6 A_t_fit_rows), (A_t_fit_rows 0, eJ cJ 7 (c_t_fit_rows 0)), (A_t_fit_rows 1, eJ cJ 7 (c_t_fit_rows 1)), (A_t_fit_rows 2, eJ cJ 7 (c_t_fit_rows 2)), (A_t_fit_rows 3, eJ cJ 7 (c_t_fit_rows 3)), (A_t_fit_rows 4, eJ cJ 7 (c_t_fit_rows 4)), (A_t_fit_rows 5, eJ cJ 7 (c_t_fit_rows 5)), (A_t_fit 4, eJ cJ 6 c_t_fit_surplus), (A_t 5, eJ cJ 10 c_t_testAbove), (A_t 6, eJ cJ 10 c_t_testBelow)] sz) 4 0 0 (MQ below (yQi D (yT cI cJ cZ cW cR) r [(h_t, oM A_t), (A_t 0, oW A_t_now c_t_now_knots c_t_now_flows c_t_now_readSet), (A_t_now 0, eI cI 10 c_t_now_from), (A_t_now 1, eI cI 10 c_t_now_to), (A_t_now 2, eI cI 10 c_t_now_reading), (A_t_now 3, eI cI 10 c_t_now_miss), (A_t 2, oG A_t_groups), (A_t_groups 0, eI cI 6 zc_t_groups_least), (A_t 3, oF A_t_fit zc_t_fit_unread zc_t_fit_below), (A_t_fit 0, oG A_t_fit_heaps), (A_t_fit_heaps 0, eI cI 6 zc_t_fit_heaps_least), (A_t_fit 1, oG A_t_fit_pieces), (A_t_fit_pieces 0, eI cI 6 zc_t_fit_pieces_least), (A_t_fit 3, eQ cR 6 A_t_fit_rows), (A_t_fit_rows 0, eJ cJ 7 (zc_t_fit_rows 0)), (A_t_fit_rows 1, eJ cJ 7 (zc_t_fit_rows 1)), (A_t_fit_rows 2, eJ cJ 7 (zc_t_fit_rows 2)), (A_t_fit_rows 3, eJ cJ 7 (zc_t_fit_rows 3)), (A_t_fit_rows 4, eJ cJ 7 (zc_t_fit_rows 4)), (A_t_fit_rows 5, eJ cJ 7 (zc_t_fit_rows 5)), (A_t_fit 4, eJ cJ 6 zc_t_fit_surplus), (A_t 5, eJ cJ 10 zc_t_testAbove), (A_t 6, eJ cJ 10 zc_t_testBelow)] (va_A [(h_t, oM A_t), (A_t 0, oW A_t_now c_t_now_knots c_t_now_flows c_t_now_readSet), (A_t_now 0, eI cI 10 c_t_now_from), (A_t_now 1, eI cI 10 c_t_now_to), (A_t_now 2, eI cI 10 c_t_now_reading), (A_t_now 3, eI cI 10 c_t_now_miss), (A_t 2, oG A_t_groups), (A_t_groups 0, eI cI 6 c_t_groups_least), (A_t 3, oF A_t_fit c_t_fit_unread c_t_fit_below), (A_t_fit 0, oG A_t_fit_heaps), (A_t_fit_heaps 0, eI cI 6 c_t_fit_heaps_least), (A_t_fit 1, oG A_t_fit_pieces), (A_t_fit_pieces 0, eI cI 6 c_t_fit_pieces_least), (A_t_fit 3, eQ cR 6 A_t_fit_rows), (A_t_fit_rows 0, eJ cJ 7 (c_t_fit_rows 0)), (A_t_fit_rows 1, eJ cJ 7 (c_t_fit_rows 1)), (A_t_fit_rows 2, eJ cJ 7 (c_t_fit_rows 2)), (A_t_fit_rows 3, eJ cJ 7 (c_t_fit_rows 3)), (A_t_fit_rows 4, eJ cJ 7 (c_t_fit_rows 4)), (A_t_fit_rows 5, eJ cJ 7 (c_t_fit_rows 5)), (A_t_fit 4, eJ cJ 6 c_t_fit_surplus), (A_t 5, eJ cJ 10 c_t_testAbove), (A_t 6, eJ cJ 10 c_t_testBelow)] sz)) (List.toArray [.ref h_t, .int x1]) s 0 0 (va_A [(h_t, oM A_t), (A_t 0, oW A_t_now c_t_now_knots c_t_now_flows c_t_now_readSet), (A_t_now 0, eI cI 10 c_t_now_from), (A_t_now 1, eI cI 10 c_t_now_to), (A_t_now 2, eI cI 10 c_t_now_reading), (A_t_now 3, eI cI 10 c_t_now_miss), (A_t 2, oG A_t_groups), (A_t_groups 0, eI cI 6 c_t_groups_least), (A_t 3, oF A_t_fit c_t_fit_unread c_t_fit_below), (A_t_fit 0, oG A_t_fit_heaps), (A_t_fit_heaps 0, eI cI 6 c_t_fit_heaps_least), (A_t_fit 1, oG A_t_fit_pieces), (A_t_fit_pieces 0, eI cI 6 c_t_fit_pieces_least), (A_t_fit 3, eQ cR 6 A_t_fit_rows), (A_t_fit_rows 0, eJ cJ 7 (c_t_fit_rows 0)), (A_t_fit_rows 1, eJ cJ 7 (c_t_fit_rows 1)), (A_t_fit_rows 2, eJ cJ 7 (c_t_fit_rows 2)), (A_t_fit_rows 3, eJ cJ 7 (c_t_fit_rows 3)), (A_t_fit_rows 4, eJ cJ 7 (c_t_fit_rows 4)), (A_t_fit_rows 5, eJ cJ 7 (c_t_fit_rows 5)), (A_t_fit 4, eJ cJ 6 c_t_fit_surplus), (A_t 5, eJ cJ 10 c_t_testAbove), (A_t 6, eJ cJ 10 c_t_testBelow)] sz)) 0 [(0, .ref h_t), (1, .int x1)] [] [(h_t, oM A_t), (A_t 0, oW A_t_now c_t_now_knots c_t_now_flows c_t_now_readSet), (A_t_now 0, eI cI 10 c_t_now_from), (A_t_now 1, eI cI 10 c_t_now_to), (A_t_now 2, eI cI 10 c_t_now_reading), (A_t_now 3, eI cI 10 c_t_now_miss), (A_t 2, oG A_t_groups), (A_t_groups 0, eI cI 6 c_t_groups_least), (A_t 3, oF A_t_fit c_t_fit_unread c_t_fit_below), (A_t_fit 0, oG A_t_fit_heaps), (A_t_fit_heaps 0, eI cI 6 c_t_fit_heaps_least), (A_t_fit 1, oG A_t_fit_pieces), (A_t_fit_pieces 0, eI cI 6 c_t_fit_pieces_least), (A_t_fit 3, eQ cR 6 A_t_fit_rows), (A_t_fit_rows 0, eJ cJ 7 (c_t_fit_rows 0)), (A_t_fit_rows 1, eJ cJ 7 (c_t_fit_rows 1)), (A_t_fit_rows 2, eJ cJ 7 (c_t_fit_rows 2)), (A_t_fit_rows 3, eJ cJ 7 (c_t_fit_rows 3)), (A_t_fit_rows 4, eJ cJ 7 (c_t_fit_rows 4)), (A_t_fit_rows 5, eJ cJ 7 (c_t_fit_rows 5)), (A_t_fit 4, eJ cJ 6 c_t_fit_surplus), (A_t 5, eJ cJ 10 c_t_testAbove), (A_t 6, eJ cJ 10 c_t_testBelow)]
  unfold fX4_rank at hf
  refine g_aload_n Γ 0 dX4_rank_0 rfl ?_
  obtain ⟨⟨v1, v2⟩, e3, hf⟩ := ya_ob hf
  refine g_vi (q := (RX4, TX4, 7)) (wr := [(A_t_now 2, eI cI 10 c_t_now_reading), (A_t_now 3, eI cI 10 c_t_now_miss), (A_t 3, oF A_t_fit c_t_fit_unread c_t_fit_below), (A_t_fit 0, oG A_t_fit_heaps), (A_t_fit_heaps 0, eI cI 6 c_t_fit_heaps_least), (A_t_fit 1, oG A_t_fit_pieces), (A_t_fit_pieces 0, eI cI 6 c_t_fit_pieces_least), (A_t_fit 3, eQ cR 6 A_t_fit_rows), (A_t_fit_rows 0, eJ cJ 7 (c_t_fit_rows 0)), (A_t_fit_rows 1, eJ cJ 7 (c_t_fit_rows 1)), (A_t_fit_rows 2, eJ cJ 7 (c_t_fit_rows 2)), (A_t_fit_rows 3, eJ cJ 7 (c_t_fit_rows 3)), (A_t_fit_rows 4, eJ cJ 7 (c_t_fit_rows 4)), (A_t_fit_rows 5, eJ cJ 7 (c_t_fit_rows 5)), (A_t_fit 4, eJ cJ 6 c_t_fit_surplus), (A_t 5, eJ cJ 10 c_t_testAbove), (A_t 6, eJ cJ 10 c_t_testBelow)]) (ws' := [(A_t_now 2, eI cI 10 c_t_now_reading), (A_t_now 3, eI cI 10 c_t_now_miss), (A_t 3, oF A_t_fit c_t_fit_unread c_t_fit_below), (A_t_fit 0, oG A_t_fit_heaps), (A_t_fit_heaps 0, eI cI 6 c_t_fit_heaps_least), (A_t_fit 1, oG A_t_fit_pieces), (A_t_fit_pieces 0, eI cI 6 c_t_fit_pieces_least), (A_t_fit 3, eQ cR 6 A_t_fit_rows), (A_t_fit_rows 0, eJ cJ 7 (c_t_fit_rows 0)), (A_t_fit_rows 1, eJ cJ 7 (c_t_fit_rows 1)), (A_t_fit_rows 2, eJ cJ 7 (c_t_fit_rows 2)), (A_t_fit_rows 3, eJ cJ 7 (c_t_fit_rows 3)), (A_t_fit_rows 4, eJ cJ 7 (c_t_fit_rows 4)), (A_t_fit_rows 5, eJ cJ 7 (c_t_fit_rows 5)), (A_t_fit 4, eJ cJ 6 c_t_fit_surplus), (A_t 5, eJ cJ 10 c_t_testAbove), (A_t 6, eJ cJ 10 c_t_testBelow), (h_t, oM A_t), (A_t 0, oW A_t_now c_t_now_knots c_t_now_flows c_t_now_readSet), (A_t_now 0, eI cI 10 c_t_now_from), (A_t_now 1, eI cI 10 c_t_now_to), (A_t 2, oG A_t_groups), (A_t_groups 0, eI cI 6 v2)]) Γ (fun sz => mX4_spareSet (l := l) (D := D) (sz := sz) (cI := cI) (cJ := cJ) (cZ := cZ) (cW := cW) (cR := cR) (h_t := h_t) (A_t := A_t) (A_t_now := A_t_now) (A_t_groups := A_t_groups) (hf := e3)) eX4_spareSet gX4_rank_X4_spareSet rfl rfl 0 rfl rfl rfl (Nat.le_of_ble_eq_true rfl) ⟨Nat.le_of_ble_eq_true rfl, Nat.le_of_ble_eq_true rfl⟩ dX4_rank_1 [0, 1, 2, 3, 6, 7] [4, 5, 8, 9, 10, 11, 12, 13, 14, 15, 16, 17, 18, 19, 20, 21, 22] rfl rfl rfl rfl (by decide) rfl ?_
  refine g_istore_n (lv' := [(2, .int v1), (0, .ref h_t), (1, .int x1)]) Γ dX4_rank_4 (by decide) rfl ?_
  refine g_iload_n Γ 2 dX4_rank_5 rfl ?_
  refine g_if_lt Γ 17 dX4_rank_6 (by decide) (fun c4 => ?_) (fun c4 => ?_)
  · have hf := ya_if1 c4 hf
    refine g_iconst (v := (-1)) Γ dX4_rank_17 (by decide) ?_
    cases hf
    exact g_iret Γ hr dX4_rank_18 [17, 18, 19, 20, 0, 1, 21, 22, 2, 3, 4, 5, 6, 7, 8, 9, 10, 11, 12, 13, 14, 15, 16] rfl rfl
  · have hf := ya_if2 c4 hf
    refine g_iload_n Γ 2 dX4_rank_9 rfl ?_
    refine g_iload_n Γ 0 dX4_rank_10 rfl ?_
    obtain ⟨v5, e6, hf⟩ := ya_ob hf
    refine g_si (wr := [(A_t_now 2, eI cI 10 c_t_now_reading), (A_t_now 3, eI cI 10 c_t_now_miss), (A_t 3, oF A_t_fit c_t_fit_unread c_t_fit_below), (A_t_fit 0, oG A_t_fit_heaps), (A_t_fit_heaps 0, eI cI 6 c_t_fit_heaps_least), (A_t_fit 1, oG A_t_fit_pieces), (A_t_fit_pieces 0, eI cI 6 c_t_fit_pieces_least), (A_t_fit 3, eQ cR 6 A_t_fit_rows), (A_t_fit_rows 0, eJ cJ 7 (c_t_fit_rows 0)), (A_t_fit_rows 1, eJ cJ 7 (c_t_fit_rows 1)), (A_t_fit_rows 2, eJ cJ 7 (c_t_fit_rows 2)), (A_t_fit_rows 3, eJ cJ 7 (c_t_fit_rows 3)), (A_t_fit_rows 4, eJ cJ 7 (c_t_fit_rows 4)), (A_t_fit_rows 5, eJ cJ 7 (c_t_fit_rows 5)), (A_t_fit 4, eJ cJ 6 c_t_fit_surplus), (A_t 5, eJ cJ 10 c_t_testAbove), (A_t 6, eJ cJ 10 c_t_testBelow), (h_t, oM A_t), (A_t 0, oW A_t_now c_t_now_knots c_t_now_flows c_t_now_readSet), (A_t_now 0, eI cI 10 c_t_now_from), (A_t_now 1, eI cI 10 c_t_now_to), (A_t 2, oG A_t_groups), (A_t_groups 0, eI cI 6 v2)]) (ws' := [(A_t_now 2, eI cI 10 c_t_now_reading), (A_t_now 3, eI cI 10 c_t_now_miss), (A_t 3, oF A_t_fit c_t_fit_unread c_t_fit_below), (A_t_fit 0, oG A_t_fit_heaps), (A_t_fit_heaps 0, eI cI 6 c_t_fit_heaps_least), (A_t_fit 1, oG A_t_fit_pieces), (A_t_fit_pieces 0, eI cI 6 c_t_fit_pieces_least), (A_t_fit 3, eQ cR 6 A_t_fit_rows), (A_t_fit_rows 0, eJ cJ 7 (c_t_fit_rows 0)), (A_t_fit_rows 1, eJ cJ 7 (c_t_fit_rows 1)), (A_t_fit_rows 2, eJ cJ 7 (c_t_fit_rows 2)), (A_t_fit_rows 3, eJ cJ 7 (c_t_fit_rows 3)), (A_t_fit_rows 4, eJ cJ 7 (c_t_fit_rows 4)), (A_t_fit_rows 5, eJ cJ 7 (c_t_fit_rows 5)), (A_t_fit 4, eJ cJ 6 c_t_fit_surplus), (A_t 5, eJ cJ 10 c_t_testAbove), (A_t 6, eJ cJ 10 c_t_testBelow), (h_t, oM A_t), (A_t 0, oW A_t_now c_t_now_knots c_t_now_flows c_t_now_readSet), (A_t_now 0, eI cI 10 c_t_now_from), (A_t_now 1, eI cI 10 c_t_now_to), (A_t 2, oG A_t_groups), (A_t_groups 0, eI cI 6 v2)]) Γ (fun sz => mJ6_bitCount_0f7a4 (l := l) (D := D) (sz := sz) (cI := cI) (cJ := cJ) (cZ := cZ) (cW := cW) (cR := cR)  (hf := e6)) eJ6_bitCount_0f7a4 ggX4_rank_J6_bitCount_0f7a4 (by decide +kernel) (by decide +kernel) (by decide +kernel) rfl rfl (Nat.le_of_ble_eq_true rfl) ⟨Nat.le_of_ble_eq_true rfl, Nat.le_of_ble_eq_true rfl⟩ dX4_rank_11 [] [0, 1, 2, 3, 4, 5, 6, 7, 8, 9, 10, 11, 12, 13, 14, 15, 16, 17, 18, 19, 20, 21, 22] rfl rfl rfl rfl (by decide) rfl ?_
    refine g_icmp_lt Γ 19 dX4_rank_14 (by decide) (fun c7 => ?_) (fun c7 => ?_)
    · have hf := ya_if1 c7 hf
      refine g_aload_n Γ 1 dX4_rank_19 rfl ?_
      refine g_iload_n Γ 0 dX4_rank_20 rfl ?_
      obtain ⟨⟨v8, v9, v10, v11, v12, v13, v14, v15⟩, e16, hf⟩ := ya_ob hf
      refine g_vv (q := (RX4, TX4, 7)) (wr := [(A_t 2, oG A_t_groups), (A_t_groups 0, eI cI 6 v2)]) (ws' := [(A_t 2, oG A_t_groups), (A_t_groups 0, eI cI 6 v2), (h_t, oM A_t), (A_t 0, oW A_t_now c_t_now_knots c_t_now_flows c_t_now_readSet), (A_t_now 0, eI cI 10 c_t_now_from), (A_t_now 1, eI cI 10 c_t_now_to), (A_t_now 2, eI cI 10 c_t_now_reading), (A_t_now 3, eI cI 10 c_t_now_miss), (A_t 3, oF A_t_fit v8 v9), (A_t_fit 0, oG A_t_fit_heaps), (A_t_fit_heaps 0, eI cI 6 v10), (A_t_fit 1, oG A_t_fit_pieces), (A_t_fit_pieces 0, eI cI 6 v11), (A_t_fit 3, eQ cR 6 A_t_fit_rows), (A_t_fit_rows 0, eJ cJ 7 (v12 0)), (A_t_fit_rows 1, eJ cJ 7 (v12 1)), (A_t_fit_rows 2, eJ cJ 7 (v12 2)), (A_t_fit_rows 3, eJ cJ 7 (v12 3)), (A_t_fit_rows 4, eJ cJ 7 (v12 4)), (A_t_fit_rows 5, eJ cJ 7 (v12 5)), (A_t_fit 4, eJ cJ 6 v13), (A_t 5, eJ cJ 10 v14), (A_t 6, eJ cJ 10 v15)]) Γ (fun sz => mX4_testWithoutEach (l := l) (D := D) (sz := sz) (cI := cI) (cJ := cJ) (cZ := cZ) (cW := cW) (cR := cR) (h_t := h_t) (A_t := A_t) (A_t_now := A_t_now) (A_t_fit := A_t_fit) (A_t_fit_heaps := A_t_fit_heaps) (A_t_fit_pieces := A_t_fit_pieces) (A_t_fit_rows := A_t_fit_rows) (hf := e16)) eX4_testWithoutEach gX4_rank_X4_testWithoutEach rfl rfl 0 rfl rfl rfl (Nat.le_of_ble_eq_true rfl) ⟨Nat.le_of_ble_eq_true rfl, Nat.le_of_ble_eq_true rfl⟩ dX4_rank_21 [17, 18, 19, 20, 0, 1, 2, 3, 4, 5, 6, 7, 8, 9, 10, 11, 12, 13, 14, 15, 16] [21, 22] rfl rfl rfl rfl (by decide) rfl ?_
      refine g_iconst (v := 0) Γ dX4_rank_24 (by decide) ?_
      refine g_istore_n (lv' := [(3, .int 0), (2, .int v1), (0, .ref h_t), (1, .int x1)]) Γ dX4_rank_25 (by decide) rfl ?_
      obtain ⟨o28, e29, hf⟩ := ya_ob hf
      refine g_lv [2, 3, 1, 0] rfl ?_
      refine g_ws (ws' := [(h_t, oM A_t), (A_t 0, oW A_t_now c_t_now_knots c_t_now_flows c_t_now_readSet), (A_t_now 0, eI cI 10 c_t_now_from), (A_t_now 1, eI cI 10 c_t_now_to), (A_t_now 2, eI cI 10 c_t_now_reading), (A_t_now 3, eI cI 10 c_t_now_miss), (A_t 2, oG A_t_groups), (A_t_groups 0, eI cI 6 v2), (A_t 3, oF A_t_fit v8 v9), (A_t_fit 0, oG A_t_fit_heaps), (A_t_fit_heaps 0, eI cI 6 v10), (A_t_fit 1, oG A_t_fit_pieces), (A_t_fit_pieces 0, eI cI 6 v11), (A_t_fit 3, eQ cR 6 A_t_fit_rows), (A_t_fit_rows 0, eJ cJ 7 (v12 0)), (A_t_fit_rows 1, eJ cJ 7 (v12 1)), (A_t_fit_rows 2, eJ cJ 7 (v12 2)), (A_t_fit_rows 3, eJ cJ 7 (v12 3)), (A_t_fit_rows 4, eJ cJ 7 (v12 4)), (A_t_fit_rows 5, eJ cJ 7 (v12 5)), (A_t_fit 4, eJ cJ 6 v13), (A_t 5, eJ cJ 10 v14), (A_t 6, eJ cJ 10 v15)]) [2, 3, 4, 5, 6, 7, 0, 1, 8, 9, 10, 11, 12, 13, 14, 15, 16, 17, 18, 19, 20, 21, 22] rfl rfl ?_
      refine loop26 N _ _ _ _ _ _ _ _ _ _ _ _ _ _ _ _ _ _ _ o28 e29 ?_ ?_
      · intro v30 ho; subst ho
        refine g_iload_n Γ 0 dX4_rank_55 rfl ?_
        cases hf
        exact g_iret Γ hr dX4_rank_56 [0, 1, 2, 3, 4, 5, 6, 7, 8, 9, 10, 11, 12, 13, 14, 15, 16, 17, 18, 19, 20, 21, 22] rfl rfl
      · intro _ ho; subst ho
        refine g_iconst (v := (-1)) Γ dX4_rank_63 (by decide) ?_
        cases hf
        exact g_iret Γ hr dX4_rank_64 [0, 1, 2, 3, 4, 5, 6, 7, 8, 9, 10, 11, 12, 13, 14, 15, 16, 17, 18, 19, 20, 21, 22] rfl rfl
    · have hf := ya_if2 c7 hf
      refine g_iconst (v := (-1)) Γ dX4_rank_17 (by decide) ?_
      cases hf
      exact g_iret Γ hr dX4_rank_18 [17, 18, 19, 20, 0, 1, 21, 22, 2, 3, 4, 5, 6, 7, 8, 9, 10, 11, 12, 13, 14, 15, 16] rfl rfl

