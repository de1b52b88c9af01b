-- ===== end of PART A; then your names; then what follows =====
/-! THE CLAIM OUT OF ONE WALK OF THE LAW'S BODY. Your part is whole_start (and what it stands on); all else here is the same for every law, but numbers. -/
def R_law : String := "FlowMetersLaw"
def lw_P (b : Addr) (xs : List Int32) (args : Array Value) (s : State) : Prop := args = #[.ref b] ∧ s.IntsAt b xs ∧ xs.length ≤ 4096 ∧ (Jvm.Cond.and given_1 narrow_1).before args s = true
def lw_Q (_ : Array Value) (s : State) (o : Outcome) (t : State) : Prop := o = .returned (some (.int 1)) ∧ Framed s o t [] 600000 7302250
def lw_Z (below : List Frame) (a : Array Value) (s : State) : State → Prop := fun t => ∃ o, t.status = .running ∧ Ended t below o ∧ lw_Q a s o t
/-- the law's own end, with 1 on the stack, nothing written that was there before, its room as the claim has it -/
theorem lw_ret {p : Program} {l : Launch} {e : Env} {s : State} {m : MethodId} {below : List Frame} {meth : Method} {c : Code} {b : Nat} (hx : p.tables.exec = Jvm.exec) (hb : c.code = code) (hr : meth.sig.returnType = ret) (hlocks : meth.locks = false) {pc : Nat} {H : Heap} {ls : Array Slot} (hdg : decode code pc = .ok (.ireturn, 1)) : W p l e room_1 s m #[Value.ref b] below meth c H [] 600000 7302250 (lw_Z below #[Value.ref b] s) (F0 m pc ls [.int 1]) := by
  intro T hT X
  obtain ⟨fs, hret, hrun, hended, hW, hframe⟩ := X.leave (v := some (.int 1)) (hlocks := hlocks) (fun h => by rw [hr] at h; cases h)
  have hmeth' : T.vm.method? m = some meth := X.method'
  refine ⟨T.setFrames fs, ?_, .returned (some (.int 1)), hrun, hended, rfl, ⟨_, rfl⟩, hW, hframe⟩
  jvm_step X.here [X.here.top, hx, hb, hdg, hmeth', hr, ret, narrow_b1]
  (try refine ⟨rfl, ?_⟩); (try refine ⟨rfl, ?_⟩)
  first | (intro acts; rw [hret _ acts rfl rfl rfl]) | rw [hret _ _ rfl rfl rfl]
  exact Steps.refl _
/-- what holds at the law's entry: the machine, the code, the tables' words (any of lw_tbl by 'hts w (by decide +kernel)'), the script of L ints xs at the cell b, what the Statement gives of the start (any of its parts by flat_of_before) -/
def lw_At (p : Program) (s : State) (m : MethodId) (meth : Method) (c : Code) (b L : Nat) (xs : Nat → Int32) : Prop :=
  p.tables.exec = Jvm.exec ∧ c.code = code ∧ meth.sig.returnType = ret ∧ c.maxLocals = 4 ∧ s.vm.findClass R_law = some m.cls ∧ (∀ w ∈ lw_tbl, w.before #[Value.ref b] s = true) ∧ va_X b L xs s s.heap ∧ b < s.heap.size ∧ meth.locks = false ∧ (Jvm.Cond.and given_1 narrow_1).before #[Value.ref b] s = true

set_option maxHeartbeats 4000000 in
set_option maxRecDepth 100000 in
/-- the law, from its entry, given what the two sides answer -/
theorem whole_open {N : Nat} {Inv : yIT} (hOb : yOb N Inv) {p : Program} {e : Env} {s : State} {m : MethodId} {below : List Frame} {meth : Method} {c : Code} (l : Launch) {b L : Nat} {xs : Nat → Int32} (hL : L ≤ 4096) (C0 : lw_At p s m meth c b L xs) : W p l e room_1 s m #[Value.ref b] below meth c s.heap [] 0 0 (lw_Z below #[Value.ref b] s) (entryFrame m ([Value.ref b] : List Value).toArray 4) := by
  obtain ⟨hx, hb, hr, hml, hown, hts0, hX, hbl, hlocks, hgv⟩ := id C0
  have hts := hts0
  obtain ⟨c0, iS0, hK0⟩ := u_known (C := RX0) (T := TX0) (N := 7) (n := 7) hts tlX00 (hts0 _ tq_inX0)
  obtain ⟨c1, iS1, hK1⟩ := u_known (C := RX1) (T := TX1) (N := 1) (n := 1) hts tlX10 (hts0 _ tq_inX1)
  obtain ⟨c2, iS2, hK2⟩ := u_known (C := RX2) (T := TX2) (N := 3) (n := 3) hts tlX20 (hts0 _ tq_inX2)
  obtain ⟨c3, iS3, hK3⟩ := u_known (C := RX3) (T := TX3) (N := 11) (n := 11) hts tlX30 (hts0 _ tq_inX3)
  obtain ⟨c4, iS4, hK4⟩ := u_known (C := RX4) (T := TX4) (N := 7) (n := 7) hts tlX40 (hts0 _ tq_inX4)
  obtain ⟨c5, iS5, hK5⟩ := u_known (C := RX5) (T := TX5) (N := 19) (n := 19) hts tlX50 (hts0 _ tq_inX5)
  obtain ⟨dC, dI, hKc⟩ : ∃ (dC : Nat → ClassId) (dI : Nat → Nat → Nat), ∀ (k : Nat) (q : vw_C), vwCl[k]? = some q → u_Kn s q.1 q.2.1 q.2.2 (dC k) (dI k) := by
    refine ⟨fun k => [c0, c1, c2, c3, c4, c5].getD k c0, fun k => [iS0, iS1, iS2, iS3, iS4, iS5].getD k iS0, ?_⟩
    intro k q hq
    match k, hq with
    | 0, hq => cases hq; exact hK0
    | 1, hq => cases hq; exact hK1
    | 2, hq => cases hq; exact hK2
    | 3, hq => cases hq; exact hK3
    | 4, hq => cases hq; exact hK4
    | 5, hq => cases hq; exact hK5
    | k + 6, hq => simp [vwCl] at hq
  obtain ⟨cI, kI, pI, fI, gI, jI⟩ := Cond.arrayClass_spec (hts0 _ tq_I)
  obtain ⟨cJ, kJ, pJ, fJ, gJ, jJ⟩ := Cond.arrayClass_spec (hts0 _ tq_J)
  obtain ⟨cZ, kZ, pZ, fZ, gZ, jZ⟩ := Cond.arrayClass_spec (hts0 _ tq_Z)
  have hO : va_AO RX3 s := va_AO.of (hts0 _ tq_OW)
  have hO2 : va_AOA .long s := hts0 _ tq_OJ
  obtain ⟨pW, cW, kW, fW, -, gW, jW, nW⟩ := Cond.arrayOver_spec hO
  obtain ⟨pR, cR, kR, fR, gR, jR, nR⟩ := Cond.arrayOver_specA hO2
  have hK : va_K (dC, dI) vwCl (yT cI cJ cZ cW cR) s := ⟨hKc, fun k q h => by
    match k, h with
    | 0, h => cases h; exact ⟨fun n z => ⟨fun k h => (by cases h), kI, gI, pI, jI⟩, fI⟩
    | 1, h => cases h; exact ⟨fun n z => ⟨fun k h => (by cases h), kJ, gJ, pJ, jJ⟩, fJ⟩
    | 2, h => cases h; exact ⟨fun n z => ⟨fun k h => (by cases h), kZ, gZ, pZ, jZ⟩, fZ⟩
    | 3, h => cases h; exact ⟨fun n z => ⟨fun k h => (by cases h), kW, gW, pW, jW⟩, kW, pW, gW, jW, fW, nW⟩
    | 4, h => cases h; exact ⟨fun n z => ⟨fun k h => (by cases h), kR, gR, pR, jR⟩, nR⟩
    | k + 5, h => simp [yT] at h⟩
  have hN : yN s := by
    intro q hq
    simp only [yNl, List.mem_cons, List.not_mem_nil, or_false] at hq
    rcases hq with rfl | rfl | rfl | rfl | rfl | rfl | rfl | rfl | rfl | rfl
    · exact va_Nw.of rfl (hts0 _ tq_nX4_9)
    · exact va_Nw.of rfl (hts0 _ tq_nX2_24)
    · exact va_Nw.of rfl (hts0 _ tq_nX4_25)
    · exact va_Nw.of rfl (hts0 _ tq_nX4_32)
    · exact va_Nw.of rfl (hts0 _ tq_nX0_11)
    · exact va_Nw.of rfl (hts0 _ tq_nX3_56)
    · exact va_Nw.of rfl (hts0 _ tq_nX1_21)
    · exact va_Nw.of rfl (hts0 _ tq_nX3_64)
    · exact va_Nw.of rfl (hts0 _ tq_nX0_73)
    · exact va_Nw.of rfl (hts0 _ tq_nX0_111)
  have Γ : yC p room_1 s m #[Value.ref b] meth c code 4 RL lw_tbl (dC, dI) (yT cI cJ cZ cW cR) (fun q : Nat => s.heap.size ≤ q) 0 0 := ⟨hx, hb, hml, hown, hts, hlocks, hK, fun q h => h, Nat.zero_le _, Nat.zero_le _, hN⟩
  have hbA : ¬ (fun q : Nat => s.heap.size ≤ q) b := Nat.not_le.mpr hbl
  have G : yG p l e room_1 s m #[Value.ref b] below meth c (dC, dI) (fun q : Nat => s.heap.size ≤ q) 4 0 0 (lw_Z below #[Value.ref b] s) 0 [(0, .ref b)] [] [] := by
    refine g_new (ci := 4) (fs := [.null, .null, .null, .null, .null, .null, .null]) (k' := 1) (n' := 7) Γ (C := RX4) (T := TX4) (N := 7) tlX40 tyX4_ok tq_l7 tq_inX4 tq_i4 rfl (fun j hj => by rcases (show j = 0 ∨ j = 1 ∨ j = 2 ∨ j = 3 ∨ j = 4 ∨ j = 5 ∨ j = 6 by omega) with rfl | rfl | rfl | rfl | rfl | rfl | rfl <;> rfl) rfl rfl (Nat.le_of_ble_eq_true rfl) (Nat.le_of_ble_eq_true rfl) dL_law_0 (fun h_x => ?_)
    have Γ := Γ.grow (k' := 1) (n' := 7) (Nat.le_of_ble_eq_true rfl) (Nat.le_of_ble_eq_true rfl)
    refine g_weq (ws' := [(h_x, .inr (4, [.null, .null, .null, .null, .null, .null, .null]))]) rfl ?_
    refine g_dup Γ dL_law_3 rfl ?_
    refine g_iniP (S := (Nat → Nat) × (Nat → Nat) × (Nat → Nat) × (Nat → Nat) × (Nat → Nat → Nat) × (Nat → Nat) × (Nat → Nat) × (Nat → Nat) × (Nat → Nat) × (Nat → Nat) × (Nat → Nat)) (wr := []) (k' := 86) (n' := 1818) Γ hO hO2 (fun sz => mX4_init (h_t := h_x)) eX4_init ggL_law_X4_init tq_m9 tq_y4 tq_i4 rfl (Nat.le_of_ble_eq_true rfl) ⟨Nat.le_of_ble_eq_true rfl, Nat.le_of_ble_eq_true rfl⟩ dL_law_4 [0] [] rfl rfl rfl rfl (by decide) rfl rfl (Nat.le_of_ble_eq_true rfl) (Nat.le_of_ble_eq_true rfl) (fun u => ?_)
    obtain ⟨A_x, A_x_now, A_x_past, A_x_past_kept, B_x_past_kept, A_x_groups, A_x_fit, A_x_fit_heaps, A_x_fit_pieces, A_x_fit_sides, A_x_fit_rows⟩ := u
    have Γ := Γ.grow (k' := 86) (n' := 1818) (Nat.le_of_ble_eq_true rfl) (Nat.le_of_ble_eq_true rfl)
    refine g_weq (ws' := (wX4_init h_x cI cJ cZ cW cR A_x A_x_now A_x_past A_x_past_kept B_x_past_kept A_x_groups A_x_fit A_x_fit_heaps A_x_fit_pieces A_x_fit_sides A_x_fit_rows)) rfl ?_
    refine g_astore_n (lv' := [(1, .ref h_x), (0, .ref b)]) Γ dL_law_7 (by decide) rfl ?_
    refine g_new (ci := 5) (fs := [.null, .null, .int 0, .null, .null, .null, .null, .null, .null, .null, .long 0, .null, .null, .long 0, .long 0, .null, .null, .null, .null]) (k' := 87) (n' := 1837) Γ (C := RX5) (T := TX5) (N := 19) tlX50 tyX5_ok tq_l10 tq_inX5 tq_i5 rfl (fun j hj => by rcases (show j = 0 ∨ j = 1 ∨ j = 2 ∨ j = 3 ∨ j = 4 ∨ j = 5 ∨ j = 6 ∨ j = 7 ∨ j = 8 ∨ j = 9 ∨ j = 10 ∨ j = 11 ∨ j = 12 ∨ j = 13 ∨ j = 14 ∨ j = 15 ∨ j = 16 ∨ j = 17 ∨ j = 18 by omega) with rfl | rfl | rfl | rfl | rfl | rfl | rfl | rfl | rfl | rfl | rfl | rfl | rfl | rfl | rfl | rfl | rfl | rfl | rfl <;> rfl) rfl rfl (Nat.le_of_ble_eq_true rfl) (Nat.le_of_ble_eq_true rfl) dL_law_8 (fun h_m => ?_)
    have Γ := Γ.grow (k' := 87) (n' := 1837) (Nat.le_of_ble_eq_true rfl) (Nat.le_of_ble_eq_true rfl)
    refine g_dup Γ dL_law_11 rfl ?_
    refine g_iniP (S := (Nat → Nat)) (wr := (wX4_init h_x cI cJ cZ cW cR A_x A_x_now A_x_past A_x_past_kept B_x_past_kept A_x_groups A_x_fit A_x_fit_heaps A_x_fit_pieces A_x_fit_sides A_x_fit_rows)) (k' := 102) (n' := 3865) Γ hO hO2 (fun sz => mX5_init (h_t := h_m)) eX5_init ggL_law_X5_init tq_m12 tq_y5 tq_i5 rfl (Nat.le_of_ble_eq_true rfl) ⟨Nat.le_of_ble_eq_true rfl, Nat.le_of_ble_eq_true rfl⟩ dL_law_12 [86] [0, 1, 2, 3, 4, 5, 6, 7, 8, 9, 10, 11, 12, 13, 14, 15, 16, 17, 18, 19, 20, 21, 22, 23, 24, 25, 26, 27, 28, 29, 30, 31, 32, 33, 34, 35, 36, 37, 38, 39, 40, 41, 42, 43, 44, 45, 46, 47, 48, 49, 50, 51, 52, 53, 54, 55, 56, 57, 58, 59, 60, 61, 62, 63, 64, 65, 66, 67, 68, 69, 70, 71, 72, 73, 74, 75, 76, 77, 78, 79, 80, 81, 82, 83, 84, 85] rfl rfl rfl rfl (by decide) rfl rfl (Nat.le_of_ble_eq_true rfl) (Nat.le_of_ble_eq_true rfl) (fun A_m => ?_)
    have Γ := Γ.grow (k' := 102) (n' := 3865) (Nat.le_of_ble_eq_true rfl) (Nat.le_of_ble_eq_true rfl)
    refine g_weq (ws' := (wLaw cI cJ cZ cW cR h_x A_x A_x_now A_x_past A_x_past_kept B_x_past_kept A_x_groups A_x_fit A_x_fit_heaps A_x_fit_pieces A_x_fit_sides A_x_fit_rows h_m A_m 2 0 0 (fun _ => 0) (fun _ => 0) (fun _ => 0) (fun _ => 0) (fun _ => 0) (fun _ => 0) (fun _ => 0) (fun _ => 0) 0 0 (fun _ => 0) (fun _ => 0) (fun _ => 0) (fun _ _ => 0) (fun _ _ => 0) (fun _ _ => 0) (fun _ _ => 0) (fun _ _ => 0) (fun _ _ => 0) (fun _ _ => 0) (fun _ _ => 0) (fun _ => 0) 0 1 (fun _ => 0) (fun _ => 0) (fun _ => 0) (fun _ _ => 0) (fun _ => 0) (fun _ => 0) (fun _ => 0) (fun _ => 0) 0 0 0 0 (ya_up (fun _ => 0) 0 2) (fun _ => 0) (fun _ => 0) (fun _ => 0) (fun _ => 0) (fun _ => 0) (fun _ => 0) (fun _ => 0) (fun _ => 0) (fun _ => 0) (fun _ => 0) (fun _ => 0) (fun _ => 0) (fun _ => 0) (fun _ => 0))) rfl ?_
    refine g_astore_n (lv' := [(2, .ref h_m), (1, .ref h_x), (0, .ref b)]) Γ dL_law_15 (by decide) rfl ?_
    refine g_iconst (v := 0) Γ dL_law_16 (by decide) ?_
    refine g_istore_n (lv' := [(3, .int 0), (2, .ref h_m), (1, .ref h_x), (0, .ref b)]) Γ dL_law_17 (by decide) rfl ?_
    refine g_lv [3, 2, 1, 0] rfl ?_
    refine law_loop Γ hOb hX hbl hbA hL ?_ (L + 9) 0 0 _ _ _ _ _ _ _ _ _ _ _ _ _ _ _ _ _ _ _ _ _ _ _ _ _ _ _ _ _ _ _ _ _ _ _ _ _ _ _ _ _ _ _ _ _ _ _ _ _ _ _ _ _ _ (by omega) (by omega) rfl hOb.1
    intro x3 c_x_now_knots c_x_now_flows c_x_now_readSet c_x_now_from c_x_now_to c_x_now_reading c_x_now_miss c_x_now_price c_x_now_kind c_x_now_length c_x_now_bytes c_x_past_next c_x_past_count c_x_past_keptK_knots c_x_past_keptK_flows c_x_past_keptK_readSet c_x_past_keptK_from c_x_past_keptK_to c_x_past_keptK_reading c_x_past_keptK_miss c_x_past_keptK_price c_x_past_keptK_kind c_x_past_keptK_length c_x_past_keptK_bytes c_x_groups_least c_x_fit_unread c_x_fit_below c_x_fit_heaps_least c_x_fit_pieces_least c_x_fit_sides_least c_x_fit_rows c_x_fit_surplus c_x_away c_x_testAbove c_x_testBelow c_m_many c_m_below c_m_above1 c_m_below1 c_m_now c_m_before c_m_heapOf c_m_partOf c_m_place c_m_matrix c_m_right c_m_force c_m_work c_m_side c_m_far c_m_fallAbove c_m_fallBelow c_m_ranks c_m_was
    refine g_iconst (v := 1) Γ dL_law_935 (by decide) ?_
    exact fun H locs ls h1 h2 h3 h4 => va_forget h3.2.2 (W.widen (k := 600000) (n := 7302250) (Nat.le_of_ble_eq_true rfl) (Nat.le_of_ble_eq_true rfl) (lw_ret hx hb hr hlocks dL_law_936))
  have hl := lv_entry ([.ref b]) (n := 4) (Nat.le_of_ble_eq_true rfl)
  rw [lg_entry_eq]
  exact G s.heap [] _ (fun k q h => by simp at h) ⟨fun i j p q h => by simp at h, fun k q h => by simp at h⟩ va_S.rf hl
