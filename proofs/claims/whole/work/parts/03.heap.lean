/-! ===== cells ===== -/
abbrev oF (A : Nat → Nat) (v_unread : Int32) (v_below : Int64) : va_E := .inr (0, [.ref (A 0), .ref (A 1), .ref (A 2), .ref (A 3), .ref (A 4), .int v_unread, .long v_below])
abbrev oG (A : Nat → Nat)  : va_E := .inr (1, [.ref (A 0)])
abbrev oP (A : Nat → Nat) (v_next : Int32) (v_count : Int32) : va_E := .inr (2, [.ref (A 0), .int v_next, .int v_count])
abbrev oW (A : Nat → Nat) (v_knots : Int32) (v_flows : Int32) (v_readSet : Int32) : va_E := .inr (3, [.int v_knots, .int v_flows, .int v_readSet, .ref (A 0), .ref (A 1), .ref (A 2), .ref (A 3), .ref (A 4), .ref (A 5), .ref (A 6), .ref (A 7)])
abbrev oM (A : Nat → Nat)  : va_E := .inr (4, [.ref (A 0), .ref (A 1), .ref (A 2), .ref (A 3), .ref (A 4), .ref (A 5), .ref (A 6)])
abbrev oR (A : Nat → Nat) (v_many : Int32) (v_below : Int64) (v_above1 : Int64) (v_below1 : Int64) : va_E := .inr (5, [.ref (A 0), .ref (A 1), .int v_many, .ref (A 2), .ref (A 3), .ref (A 4), .ref (A 5), .ref (A 6), .ref (A 7), .ref (A 8), .long v_below, .ref (A 9), .ref (A 10), .long v_above1, .long v_below1, .ref (A 11), .ref (A 12), .ref (A 13), .ref (A 14)])
abbrev eI (cI : ClassId) (n : Nat) (f : Nat → Int32) : va_E := .inl (cI, n, .inl f)
abbrev eJ (cJ : ClassId) (n : Nat) (f : Nat → Int64) : va_E := .inl (cJ, n, .inr (.inl f))
abbrev eQ (cW : ClassId) (n : Nat) (A : Nat → Nat) : va_E := .inl (cW, n, .inr (.inr (.inr (.inr (fun i => if i < n then some (A i) else none)))))
section YH
variable {p : Program} {l : Launch} {e : Env} {R : Room} {s : State} {m : MethodId} {args : Array Value} {below : List Frame} {meth : Method} {c : Code} {k n : Nat} {Q : State → Prop}
variable {cc : ByteArray} {nL : Nat} {own : String} {Ts : List Cond} {D : va_G} {tys : List (ClassId × FieldType)} {A : Nat → Prop} {pc : Nat} {lv lv' : List (Nat × Value)} {st : List Value} {ws ws' : va_W} {a : Nat}
/-- fewer cells, in any order -/
theorem g_ws (is : List Nat) (hn : va_nd is = true) (hs : is.map (fun i => ws[i]?) = ws'.map some) (kk : yG p l e R s m args below meth c D A nL k n Q pc lv st ws') : yG p l e R s m args below meth c D A nL k n Q pc lv st ws :=
  fun H locs ls h1 h2 h3 h4 => kk H locs ls (fun j q hj => by
    have h5 : (ws'.map some)[j]? = some (some q) := by rw [List.getElem?_map, hj]; rfl
    rw [← hs, List.getElem?_map] at h5
    obtain ⟨i, -, hi⟩ := Option.map_eq_some_iff.mp h5
    exact h1 i q hi) (h2.sub is hn hs) h3 h4
/-- fewer locals, in any order -/
theorem g_lv (is : List Nat) (hs : lv_pick lv is = lv') (kk : yG p l e R s m args below meth c D A nL k n Q pc lv' st ws) : yG p l e R s m args below meth c D A nL k n Q pc lv st ws :=
  fun H locs ls h1 h2 h3 h4 => kk H locs ls h1 h2 h3 (lv_sub h4 is hs)
/-- a field of a class's table, as a method's words know it -/
def yF (Ts : List Cond) (own : String) (index ci f : Nat) (C : String) (T : u_T) (N : Nat) : Prop :=
  vwCl[ci]? = some (C, T, N) ∧ f < N ∧ (∀ w ∈ u_ws C T N, w ∈ Ts) ∧ Cond.fieldLink own index (T f).1 (T f).2.1 (T f).2.2.1 ∈ Ts
theorem g_get {index ci f N : Nat} {C : String} {T : u_T} {fs : List Value} {v : Value} (Γ : yC p R s m args meth c cc nL own Ts D tys A k n) (hF : yF Ts own index ci f C T N) (q0 : Nat) (he : ws[q0]? = some (a, .inr (ci, fs))) (hv : fs[f]? = some v) (hd : decode cc pc = .ok (.getfield index, 3)) (kk : yG p l e R s m args below meth c D A nL k n Q (pc + 3) lv (v :: st) ws) : yG p l e R s m args below meth c D A nL k n Q pc lv (.ref a :: st) ws :=
  fun H locs ls h1 h2 h3 h4 => va_get Γ.1 Γ.2.1 Γ.2.2.2.2.1 hF.2.2.1 Γ.2.2.2.1 Γ.2.2.2.2.2.2.1 h1 q0 he hF.1 f hF.2.1 (Γ.2.2.2.2.1 _ hF.2.2.2) (fun _ h => h) hv hd (kk H locs ls h1 h2 h3 h4)
theorem g_put {index ci f N : Nat} {C : String} {T : u_T} {fs : List Value} {v : Value} {ty0 : Nat → FieldType} (Γ : yC p R s m args meth c cc nL own Ts D tys A k n) (hF : yF Ts own index ci f C T N) (hty : ∀ k, k < N → parseFieldDescriptor (T k).2.2.1 = some (ty0 k)) (hnm : ∀ a, a < N → ∀ b, b < N → a ≠ b → (T a).2.1 ≠ (T b).2.1) (q0 : Nat) (he : ws[q0]? = some (a, .inr (ci, fs))) (hfin : (T f).2.2.2 = false) (hnr : narrow (ty0 f) v = v) (hfit : fits (ty0 f) v = true) (hlen : f < fs.length) (hd : decode cc pc = .ok (.putfield index, 3)) (hws : ws.set q0 (a, .inr (ci, fs.set f v)) = ws') (kk : yG p l e R s m args below meth c D A nL k n Q (pc + 3) lv st ws') : yG p l e R s m args below meth c D A nL k n Q pc lv (v :: .ref a :: st) ws := by
  subst hws
  exact fun H locs ls h1 h2 h3 h4 => va_put Γ.1 Γ.2.1 Γ.2.2.2.2.1 hF.2.2.1 ty0 hty hnm Γ.2.2.2.1 Γ.2.2.2.2.2.2.1 h1 h2 h3 q0 he hF.1 f hF.2.1 (Γ.2.2.2.2.1 _ hF.2.2.2) (fun _ h => h) hfin (hty f hF.2.1) hnr hfit hlen hd (fun H locs h1 h2 h3 => kk H locs ls h1 h2 h3 h4)
theorem g_iald {cA : ClassId} {N : Nat} {f : Nat → Int32} {i v : Int32} (Γ : yC p R s m args meth c cc nL own Ts D tys A k n) (hv : ya_rd f N i = some v) (q0 t0 : Nat) (he : ws[q0]? = some (a, .inl (cA, N, .inl f))) (ht : tys[t0]? = some (cA, .int)) (hd : decode cc pc = .ok (.iaload, 1)) (kk : yG p l e R s m args below meth c D A nL k n Q (pc + 1) lv (.int v :: st) ws) : yG p l e R s m args below meth c D A nL k n Q pc lv (.int i :: .ref a :: st) ws := by
  obtain ⟨hin, rfl⟩ := ya_rd_inv hv
  exact fun H locs ls h1 h2 h3 h4 => va_iald Γ.1 Γ.2.1 Γ.2.2.2.2.2.2.1 h1 q0 t0 he ht hin hd (kk H locs ls h1 h2 h3 h4)
theorem g_zald {cA : ClassId} {N : Nat} {f : Nat → Int32} {i v : Int32} (Γ : yC p R s m args meth c cc nL own Ts D tys A k n) (hv : ya_rd f N i = some v) (q0 t0 : Nat) (he : ws[q0]? = some (a, .inl (cA, N, .inl f))) (ht : tys[t0]? = some (cA, .boolean)) (hd : decode cc pc = .ok (.baload, 1)) (kk : yG p l e R s m args below meth c D A nL k n Q (pc + 1) lv (.int v :: st) ws) : yG p l e R s m args below meth c D A nL k n Q pc lv (.int i :: .ref a :: st) ws := by
  obtain ⟨hin, rfl⟩ := ya_rd_inv hv
  exact fun H locs ls h1 h2 h3 h4 => va_zald Γ.1 Γ.2.1 Γ.2.2.2.2.2.2.1 h1 q0 t0 he ht hin hd (kk H locs ls h1 h2 h3 h4)
theorem g_lald {cA : ClassId} {N : Nat} {f : Nat → Int64} {i : Int32} {v : Int64} (Γ : yC p R s m args meth c cc nL own Ts D tys A k n) (hv : ya_rd f N i = some v) (q0 t0 : Nat) (he : ws[q0]? = some (a, .inl (cA, N, .inr (.inl f)))) (ht : tys[t0]? = some (cA, .long)) (hd : decode cc pc = .ok (.laload, 1)) (kk : yG p l e R s m args below meth c D A nL k n Q (pc + 1) lv (.long v :: st) ws) : yG p l e R s m args below meth c D A nL k n Q pc lv (.int i :: .ref a :: st) ws := by
  obtain ⟨hin, rfl⟩ := ya_rd_inv hv
  exact fun H locs ls h1 h2 h3 h4 => va_lald Γ.1 Γ.2.1 Γ.2.2.2.2.2.2.1 h1 q0 t0 he ht hin hd (kk H locs ls h1 h2 h3 h4)
theorem g_iast {cA : ClassId} {N : Nat} {f g : Nat → Int32} {i x : Int32} (Γ : yC p R s m args meth c cc nL own Ts D tys A k n) (hv : ya_wr f N i x = some g) (q0 t0 : Nat) (he : ws[q0]? = some (a, .inl (cA, N, .inl f))) (ht : tys[t0]? = some (cA, .int)) (hd : decode cc pc = .ok (.iastore, 1)) (hws : ws.set q0 (a, .inl (cA, N, .inl g)) = ws') (kk : yG p l e R s m args below meth c D A nL k n Q (pc + 1) lv st ws') : yG p l e R s m args below meth c D A nL k n Q pc lv (.int x :: .int i :: .ref a :: st) ws := by
  obtain ⟨hin, rfl⟩ := ya_wr_inv hv
  subst hws
  exact fun H locs ls h1 h2 h3 h4 => va_iast Γ.1 Γ.2.1 Γ.2.2.2.2.2.2.1 h1 h2 h3 q0 t0 he ht hin hd (fun H locs h1 h2 h3 => kk H locs ls h1 h2 h3 h4)
theorem g_zast {cA : ClassId} {N : Nat} {f g : Nat → Int32} {i x : Int32} (Γ : yC p R s m args meth c cc nL own Ts D tys A k n) (hv : ya_wr f N i (vp_nar .boolean x) = some g) (q0 t0 : Nat) (he : ws[q0]? = some (a, .inl (cA, N, .inl f))) (ht : tys[t0]? = some (cA, .boolean)) (hd : decode cc pc = .ok (.bastore, 1)) (hws : ws.set q0 (a, .inl (cA, N, .inl g)) = ws') (kk : yG p l e R s m args below meth c D A nL k n Q (pc + 1) lv st ws') : yG p l e R s m args below meth c D A nL k n Q pc lv (.int x :: .int i :: .ref a :: st) ws := by
  obtain ⟨hin, rfl⟩ := ya_wr_inv hv
  subst hws
  exact fun H locs ls h1 h2 h3 h4 => va_zast Γ.1 Γ.2.1 Γ.2.2.2.2.2.2.1 h1 h2 h3 q0 t0 he ht hin hd (fun H locs h1 h2 h3 => kk H locs ls h1 h2 h3 h4)
theorem g_last {cA : ClassId} {N : Nat} {f g : Nat → Int64} {i : Int32} {x : Int64} (Γ : yC p R s m args meth c cc nL own Ts D tys A k n) (hv : ya_wr f N i x = some g) (q0 t0 : Nat) (he : ws[q0]? = some (a, .inl (cA, N, .inr (.inl f)))) (ht : tys[t0]? = some (cA, .long)) (hd : decode cc pc = .ok (.lastore, 1)) (hws : ws.set q0 (a, .inl (cA, N, .inr (.inl g))) = ws') (kk : yG p l e R s m args below meth c D A nL k n Q (pc + 1) lv st ws') : yG p l e R s m args below meth c D A nL k n Q pc lv (.long x :: .int i :: .ref a :: st) ws := by
  obtain ⟨hin, rfl⟩ := ya_wr_inv hv
  subst hws
  exact fun H locs ls h1 h2 h3 h4 => va_last Γ.1 Γ.2.1 Γ.2.2.2.2.2.2.1 h1 h2 h3 q0 t0 he ht hin hd (fun H locs h1 h2 h3 => kk H locs ls h1 h2 h3 h4)
/-! returns -/
theorem g_iret {r : Int32} {Ar : Array Value} (Γ : yC p R s m Ar meth c cc nL own Ts D tys A k n) (hr : meth.sig.returnType = some .int) (hd : decode cc pc = .ok (.ireturn, 1)) (is : List Nat) (hn : va_nd is = true) (hs : is.map (fun i => ws[i]?) = ws'.map some) : yG p l e R s m Ar below meth c D A nL k n (MQ below (yQi D tys r ws' A) Ar s k n A) pc lv [.int r] ws :=
  g_ws is hn hs (fun H locs ls h1 h2 h3 _ => W.iret (hlocks := Γ.2.2.2.2.2.1) Γ.1 Γ.2.1 hr (fun t ht hW => ⟨⟨r, (), rfl, rfl, by rw [ht]; exact h1, va_K.moved hW.alike Γ.2.2.2.2.2.2.1, h2⟩, h3.F ht⟩) h3.2.2 hd)
theorem g_zret {r : Int32} {Ar : Array Value} (Γ : yC p R s m Ar meth c cc nL own Ts D tys A k n) (hr : meth.sig.returnType = some .boolean) {x : Int32} (hb : ya_bo x = some r) (hd : decode cc pc = .ok (.ireturn, 1)) (is : List Nat) (hn : va_nd is = true) (hs : is.map (fun i => ws[i]?) = ws'.map some) : yG p l e R s m Ar below meth c D A nL k n (MQ below (yQi D tys r ws' A) Ar s k n A) pc lv [.int x] ws := by
  obtain ⟨h0, rfl⟩ := ya_bo_inv hb
  exact g_ws is hn hs (fun H locs ls h1 h2 h3 _ => W.zret (hlocks := Γ.2.2.2.2.2.1) Γ.1 Γ.2.1 hr h0 (fun t ht hW => ⟨⟨x, (), rfl, rfl, by rw [ht]; exact h1, va_K.moved hW.alike Γ.2.2.2.2.2.2.1, h2⟩, h3.F ht⟩) h3.2.2 hd)
theorem g_lret {r : Int64} {Ar : Array Value} (Γ : yC p R s m Ar meth c cc nL own Ts D tys A k n) (hr : meth.sig.returnType = some .long) (hd : decode cc pc = .ok (.lreturn, 1)) (is : List Nat) (hn : va_nd is = true) (hs : is.map (fun i => ws[i]?) = ws'.map some) : yG p l e R s m Ar below meth c D A nL k n (MQ below (yQl D tys r ws' A) Ar s k n A) pc lv [.long r] ws :=
  g_ws is hn hs (fun H locs ls h1 h2 h3 _ => W.lret (hlocks := Γ.2.2.2.2.2.1) Γ.1 Γ.2.1 hr (fun t ht hW => ⟨⟨r, (), rfl, rfl, by rw [ht]; exact h1, va_K.moved hW.alike Γ.2.2.2.2.2.2.1, h2⟩, h3.F ht⟩) h3.2.2 hd)
theorem g_vret {Ar : Array Value} (Γ : yC p R s m Ar meth c cc nL own Ts D tys A k n) (hr : meth.sig.returnType = none) (hd : decode cc pc = .ok (.return_, 1)) (is : List Nat) (hn : va_nd is = true) (hs : is.map (fun i => ws[i]?) = ws'.map some) : yG p l e R s m Ar below meth c D A nL k n (MQ below (yQv D tys ws' A) Ar s k n A) pc lv [] ws :=
  g_ws is hn hs (fun H locs ls h1 h2 h3 _ => W.vret (hlocks := Γ.2.2.2.2.2.1) Γ.1 Γ.2.1 hr (fun t ht hW => ⟨⟨(), rfl, trivial, by rw [ht]; exact h1, va_K.moved hW.alike Γ.2.2.2.2.2.2.1, h2⟩, h3.F ht⟩) h3.2.2 hd)
/-! calls: the callee's cells cut out and put back behind the rest -/
theorem va_P.subM {cl : List vw_C} {H : Heap} (h : va_P D cl ws H) (is : List Nat) (hs : is.map (fun i => ws[i]?) = ws'.map some) : va_P D cl ws' H := fun j q hj => by
  have h5 : (ws'.map some)[j]? = some (some q) := by rw [List.getElem?_map, hj]; rfl
  rw [← hs, List.getElem?_map] at h5
  obtain ⟨i, -, hi⟩ := Option.map_eq_some_iff.mp h5
  exact h i q hi
/-- a call's answer, its world, its continuation -/
theorem y_bi {wc wr w1 : va_W} {r : Int32} {st0 : List Value} {av : Array Value} (Γ : yC p R s m args meth c cc nL own Ts D tys A k n) (isC isR : List Nat) (hC : isC.map (fun i => ws[i]?) = wc.map some) (hR : isR.map (fun i => ws[i]?) = wr.map some) (hn : va_nd isR = true) (hdis : ∀ i ∈ isR, i ∉ isC)
    (hrun : ∀ (H : Heap) (locs : List Loc) (ls : Array Slot), ls.size = nL → va_P D vwCl wc H → va_D A wc → va_Run p l e R s m args below meth c H locs k n 0 0 (F0 m pc ls st0) st (yQi D tys r w1 (va_A wc H.size) av) (va_A wc H.size)) (hcn : va_nd isC = true)
    (kk : yG p l e R s m args below meth c D A nL k n Q (pc + 3) lv (.int r :: st) (wr ++ w1)) : yG p l e R s m args below meth c D A nL k n Q pc lv st0 ws := by
  intro H locs ls h1 h2 h3 h4
  have hF := va_free (wc := wc) h2 h3 Γ.2.2.2.2.2.2.2.1 isC hC
  refine va_calli (hrun H locs ls h4.1 (h1.subM isC hC) (h2.sub isC hcn hC)) h3 (fun q _ h => hF q h) hF (fun x u t H1 locs1 ht hvm hx hB hz hk hS => ?_)
  obtain ⟨hP1, hK1, hD1⟩ := hB
  rw [ht] at hP1
  subst hx
  obtain ⟨hP, hD⟩ := va_join h1 h2 isC isR hC hR hn hdis hk hF hP1 hD1
  exact kk H1 locs1 ls hP hD hS h4
theorem y_bl {wc wr w1 : va_W} {r : Int64} {st0 : List Value} {av : Array Value} (Γ : yC p R s m args meth c cc nL own Ts D tys A k n) (isC isR : List Nat) (hC : isC.map (fun i => ws[i]?) = wc.map some) (hR : isR.map (fun i => ws[i]?) = wr.map some) (hn : va_nd isR = true) (hdis : ∀ i ∈ isR, i ∉ isC)
    (hrun : ∀ (H : Heap) (locs : List Loc) (ls : Array Slot), ls.size = nL → va_P D vwCl wc H → va_D A wc → va_Run p l e R s m args below meth c H locs k n 0 0 (F0 m pc ls st0) st (yQl D tys r w1 (va_A wc H.size) av) (va_A wc H.size)) (hcn : va_nd isC = true)
    (kk : yG p l e R s m args below meth c D A nL k n Q (pc + 3) lv (.long r :: st) (wr ++ w1)) : yG p l e R s m args below meth c D A nL k n Q pc lv st0 ws := by
  intro H locs ls h1 h2 h3 h4
  have hF := va_free (wc := wc) h2 h3 Γ.2.2.2.2.2.2.2.1 isC hC
  refine va_calll (hrun H locs ls h4.1 (h1.subM isC hC) (h2.sub isC hcn hC)) h3 (fun q _ h => hF q h) hF (fun x u t H1 locs1 ht hvm hx hB hz hk hS => ?_)
  obtain ⟨hP1, hK1, hD1⟩ := hB
  rw [ht] at hP1
  subst hx
  obtain ⟨hP, hD⟩ := va_join h1 h2 isC isR hC hR hn hdis hk hF hP1 hD1
  exact kk H1 locs1 ls hP hD hS h4
theorem y_bv {wc wr w1 : va_W} {st0 : List Value} {av : Array Value} (Γ : yC p R s m args meth c cc nL own Ts D tys A k n) (isC isR : List Nat) (hC : isC.map (fun i => ws[i]?) = wc.map some) (hR : isR.map (fun i => ws[i]?) = wr.map some) (hn : va_nd isR = true) (hdis : ∀ i ∈ isR, i ∉ isC)
    (hrun : ∀ (H : Heap) (locs : List Loc) (ls : Array Slot), ls.size = nL → va_P D vwCl wc H → va_D A wc → va_Run p l e R s m args below meth c H locs k n 0 0 (F0 m pc ls st0) st (yQv D tys w1 (va_A wc H.size) av) (va_A wc H.size)) (hcn : va_nd isC = true)
    (kk : yG p l e R s m args below meth c D A nL k n Q (pc + 3) lv st (wr ++ w1)) : yG p l e R s m args below meth c D A nL k n Q pc lv st0 ws := by
  intro H locs ls h1 h2 h3 h4
  have hF := va_free (wc := wc) h2 h3 Γ.2.2.2.2.2.2.2.1 isC hC
  refine va_callv (hrun H locs ls h4.1 (h1.subM isC hC) (h2.sub isC hcn hC)) h3 (fun q _ h => hF q h) hF (fun u t H1 locs1 ht hvm hx hB hz hk hS => ?_)
  obtain ⟨hP1, hK1, hD1⟩ := hB
  rw [ht] at hP1
  obtain ⟨hP, hD⟩ := va_join h1 h2 isC isR hC hR hn hdis hk hF hP1 hD1
  exact kk H1 locs1 ls hP hD hS h4
/-- what a caller must know of a callee -/
def yY (y : MethodName) (wsy : List Cond) (bytes : ByteArray) (maxL : Nat) (ret : Option FieldType) (rm : Room) (na : Nat) : Prop :=
  (∃ w9, wsy = Cond.code y bytes maxL ret :: w9) ∧ rm.cells = 0 ∧ rm.slots = 0 ∧ y.cls ≠ "java/lang/invoke/MethodHandle" ∧ y.cls ≠ "java/lang/invoke/VarHandle" ∧ (parseMethodDescriptor y.desc).map (fun d => d.parameters.length) = some na
theorem g_vi {r : Int32} {y : MethodName} {wsy : List Cond} {bytes : ByteArray} {maxL : Nat} {ret : Option FieldType} {rm : Room} {na index : Nat} {wc wr w1 : va_W} {As st0 : List Value} {b ci : Nat} {q : vw_C} {fs : List Value} (Γ : yC p R s m args meth c cc nL own Ts D tys A k n) (hM : ∀ sz : Nat, Met l y wsy rm (yP D tys wc sz (.ref b :: As)) (yQi D tys r w1 (va_A wc sz)) 0 0 (va_A wc sz)) (hY : yY y wsy bytes maxL ret rm na) (hG : GoodIn Ts (wsV own index q.1 y wsy)) (hq : y.cls = q.1) (hc : vwCl[ci]? = some q) (q0 : Nat) (he : wc[q0]? = some (b, .inr (ci, fs))) (hst : st0 = As.reverse ++ .ref b :: st) (hna : As.length = na) (hW : (st.map fun v => v.category).sum ≤ 8) (hRm : rm.frames + 1 ≤ R.frames ∧ 8 + (maxL + 11) + rm.locals ≤ R.locals) (hd : decode cc pc = .ok (.invokevirtual index, 3)) (isC isR : List Nat) (hC : isC.map (fun i => ws[i]?) = wc.map some) (hcn : va_nd isC = true) (hR : isR.map (fun i => ws[i]?) = wr.map some) (hn : va_nd isR = true) (hdis : ∀ i ∈ isR, i ∉ isC) (hws : wr ++ w1 = ws') (kk : yG p l e R s m args below meth c D A nL k n Q (pc + 3) lv (.int r :: st) ws') : yG p l e R s m args below meth c D A nL k n Q pc lv st0 ws := by
  subst hws
  obtain ⟨⟨w9, hw⟩, hr1, hr2, hd1, hd2, hd3⟩ := hY
  refine y_bi (av := (Value.ref b :: As).toArray) Γ isC isR hC hR hn hdis (fun H locs ls hls hP hD => ?_) hcn kk
  exact va_runV ⟨Γ.1, Γ.2.1, Γ.2.2.1, Γ.2.2.2.1, Γ.2.2.2.2.1⟩ (hM H.size) (cwV na Γ.2.2.2.2.1 hG hw hr1 hr2 ⟨hq, hd1, hd2, hd3⟩ hRm) (yP_preV Γ.2.2.2.2.2.2.2.2.2.2 Γ.2.2.2.2.2.2.1 hP hD hc he) rfl hna hls hst (lv_room hW) hd ⟨Γ.2.2.2.2.2.2.2.2.1, Γ.2.2.2.2.2.2.2.2.2.1⟩
theorem g_si {r : Int32} {y : MethodName} {wsy : List Cond} {bytes : ByteArray} {maxL : Nat} {ret : Option FieldType} {rm : Room} {na index : Nat} {wc wr w1 : va_W} {As st0 : List Value} (Γ : yC p R s m args meth c cc nL own Ts D tys A k n) (hM : ∀ sz : Nat, Met l y wsy rm (yP D tys wc sz As) (yQi D tys r w1 (va_A wc sz)) 0 0 (va_A wc sz)) (hY : yY y wsy bytes maxL ret rm na) (hG : GoodIn Ts wsy) (hl : Cond.methodLink own index y ∈ Ts) (hs : Cond.static y ∈ Ts) (hi : Cond.initialized y.cls ∈ Ts) (hst : st0 = As.reverse ++ st) (hna : As.length = na) (hW : (st.map fun v => v.category).sum ≤ 8) (hRm : rm.frames + 1 ≤ R.frames ∧ 8 + (maxL + 11) + rm.locals ≤ R.locals) (hd : decode cc pc = .ok (.invokestatic index, 3)) (isC isR : List Nat) (hC : isC.map (fun i => ws[i]?) = wc.map some) (hcn : va_nd isC = true) (hR : isR.map (fun i => ws[i]?) = wr.map some) (hn : va_nd isR = true) (hdis : ∀ i ∈ isR, i ∉ isC) (hws : wr ++ w1 = ws') (kk : yG p l e R s m args below meth c D A nL k n Q (pc + 3) lv (.int r :: st) ws') : yG p l e R s m args below meth c D A nL k n Q pc lv st0 ws := by
  subst hws
  obtain ⟨⟨w9, hw⟩, hr1, hr2, hd1, hd2, hd3⟩ := hY
  refine y_bi (av := As.toArray) Γ isC isR hC hR hn hdis (fun H locs ls hls hP hD => ?_) hcn kk
  exact va_runS ⟨Γ.1, Γ.2.1, Γ.2.2.1, Γ.2.2.2.1, Γ.2.2.2.2.1⟩ (hM H.size) ⟨callB_of na Γ.2.2.2.2.1 hG hw hr1 hr2 (Γ.2.2.2.2.1 _ hi) (Γ.2.2.2.2.1 _ hl) ⟨hd1, hd2, hd3⟩ hRm, Γ.2.2.2.2.1 _ hs⟩ (yP_preS Γ.2.2.2.2.2.2.2.2.2.2 Γ.2.2.2.2.2.2.1 hP hD) rfl hna hls hst (lv_room hW) hd ⟨Γ.2.2.2.2.2.2.2.2.1, Γ.2.2.2.2.2.2.2.2.2.1⟩
theorem g_ni {r : Int32} {y : MethodName} {wsy : List Cond} {bytes : ByteArray} {maxL : Nat} {ret : Option FieldType} {rm : Room} {na index : Nat} {wc wr w1 : va_W} {As st0 : List Value} (Γ : yC p R s m args meth c cc nL own Ts D tys A k n) (hM : ∀ sz : Nat, Met l y wsy rm (yP D tys wc sz As) (yQi D tys r w1 (va_A wc sz)) 0 0 (va_A wc sz)) (hY : yY y wsy bytes maxL ret rm na) (hG : GoodIn Ts wsy) (hl : (own, index, y) ∈ yNl) (hs : Cond.static y ∈ Ts) (hi : Cond.initialized y.cls ∈ Ts) (hst : st0 = As.reverse ++ st) (hna : As.length = na) (hW : (st.map fun v => v.category).sum ≤ 8) (hRm : rm.frames + 1 ≤ R.frames ∧ 8 + (maxL + 11) + rm.locals ≤ R.locals) (hd : decode cc pc = .ok (.invokestatic index, 3)) (isC isR : List Nat) (hC : isC.map (fun i => ws[i]?) = wc.map some) (hcn : va_nd isC = true) (hR : isR.map (fun i => ws[i]?) = wr.map some) (hn : va_nd isR = true) (hdis : ∀ i ∈ isR, i ∉ isC) (hws : wr ++ w1 = ws') (kk : yG p l e R s m args below meth c D A nL k n Q (pc + 3) lv (.int r :: st) ws') : yG p l e R s m args below meth c D A nL k n Q pc lv st0 ws := by
  subst hws
  obtain ⟨⟨w9, hw⟩, hr1, hr2, hd1, hd2, hd3⟩ := hY
  refine y_bi (av := As.toArray) Γ isC isR hC hR hn hdis (fun H locs ls hls hP hD => ?_) hcn kk
  exact va_runSN ⟨Γ.1, Γ.2.1, Γ.2.2.1, Γ.2.2.2.1, Γ.2.2.2.2.1⟩ (hM H.size) ⟨va_cnB na Γ.2.2.2.2.1 hG hw hr1 hr2 (Γ.2.2.2.2.2.2.2.2.2.2 _ hl) (Γ.2.2.2.2.1 _ hi) ⟨hd1, hd2, hd3⟩ hRm, Γ.2.2.2.2.1 _ hs, trivial⟩ (yP_preS Γ.2.2.2.2.2.2.2.2.2.2 Γ.2.2.2.2.2.2.1 hP hD) rfl hna hls hst (lv_room hW) hd ⟨Γ.2.2.2.2.2.2.2.2.1, Γ.2.2.2.2.2.2.2.2.2.1⟩
theorem g_vl {r : Int64} {y : MethodName} {wsy : List Cond} {bytes : ByteArray} {maxL : Nat} {ret : Option FieldType} {rm : Room} {na index : Nat} {wc wr w1 : va_W} {As st0 : List Value} {b ci : Nat} {q : vw_C} {fs : List Value} (Γ : yC p R s m args meth c cc nL own Ts D tys A k n) (hM : ∀ sz : Nat, Met l y wsy rm (yP D tys wc sz (.ref b :: As)) (yQl D tys r w1 (va_A wc sz)) 0 0 (va_A wc sz)) (hY : yY y wsy bytes maxL ret rm na) (hG : GoodIn Ts (wsV own index q.1 y wsy)) (hq : y.cls = q.1) (hc : vwCl[ci]? = some q) (q0 : Nat) (he : wc[q0]? = some (b, .inr (ci, fs))) (hst : st0 = As.reverse ++ .ref b :: st) (hna : As.length = na) (hW : (st.map fun v => v.category).sum ≤ 8) (hRm : rm.frames + 1 ≤ R.frames ∧ 8 + (maxL + 11) + rm.locals ≤ R.locals) (hd : decode cc pc = .ok (.invokevirtual index, 3)) (isC isR : List Nat) (hC : isC.map (fun i => ws[i]?) = wc.map some) (hcn : va_nd isC = true) (hR : isR.map (fun i => ws[i]?) = wr.map some) (hn : va_nd isR = true) (hdis : ∀ i ∈ isR, i ∉ isC) (hws : wr ++ w1 = ws') (kk : yG p l e R s m args below meth c D A nL k n Q (pc + 3) lv (.long r :: st) ws') : yG p l e R s m args below meth c D A nL k n Q pc lv st0 ws := by
  subst hws
  obtain ⟨⟨w9, hw⟩, hr1, hr2, hd1, hd2, hd3⟩ := hY
  refine y_bl (av := (Value.ref b :: As).toArray) Γ isC isR hC hR hn hdis (fun H locs ls hls hP hD => ?_) hcn kk
  exact va_runV ⟨Γ.1, Γ.2.1, Γ.2.2.1, Γ.2.2.2.1, Γ.2.2.2.2.1⟩ (hM H.size) (cwV na Γ.2.2.2.2.1 hG hw hr1 hr2 ⟨hq, hd1, hd2, hd3⟩ hRm) (yP_preV Γ.2.2.2.2.2.2.2.2.2.2 Γ.2.2.2.2.2.2.1 hP hD hc he) rfl hna hls hst (lv_room hW) hd ⟨Γ.2.2.2.2.2.2.2.2.1, Γ.2.2.2.2.2.2.2.2.2.1⟩
theorem g_sl {r : Int64} {y : MethodName} {wsy : List Cond} {bytes : ByteArray} {maxL : Nat} {ret : Option FieldType} {rm : Room} {na index : Nat} {wc wr w1 : va_W} {As st0 : List Value} (Γ : yC p R s m args meth c cc nL own Ts D tys A k n) (hM : ∀ sz : Nat, Met l y wsy rm (yP D tys wc sz As) (yQl D tys r w1 (va_A wc sz)) 0 0 (va_A wc sz)) (hY : yY y wsy bytes maxL ret rm na) (hG : GoodIn Ts wsy) (hl : Cond.methodLink own index y ∈ Ts) (hs : Cond.static y ∈ Ts) (hi : Cond.initialized y.cls ∈ Ts) (hst : st0 = As.reverse ++ st) (hna : As.length = na) (hW : (st.map fun v => v.category).sum ≤ 8) (hRm : rm.frames + 1 ≤ R.frames ∧ 8 + (maxL + 11) + rm.locals ≤ R.locals) (hd : decode cc pc = .ok (.invokestatic index, 3)) (isC isR : List Nat) (hC : isC.map (fun i => ws[i]?) = wc.map some) (hcn : va_nd isC = true) (hR : isR.map (fun i => ws[i]?) = wr.map some) (hn : va_nd isR = true) (hdis : ∀ i ∈ isR, i ∉ isC) (hws : wr ++ w1 = ws') (kk : yG p l e R s m args below meth c D A nL k n Q (pc + 3) lv (.long r :: st) ws') : yG p l e R s m args below meth c D A nL k n Q pc lv st0 ws := by
  subst hws
  obtain ⟨⟨w9, hw⟩, hr1, hr2, hd1, hd2, hd3⟩ := hY
  refine y_bl (av := As.toArray) Γ isC isR hC hR hn hdis (fun H locs ls hls hP hD => ?_) hcn kk
  exact va_runS ⟨Γ.1, Γ.2.1, Γ.2.2.1, Γ.2.2.2.1, Γ.2.2.2.2.1⟩ (hM H.size) ⟨callB_of na Γ.2.2.2.2.1 hG hw hr1 hr2 (Γ.2.2.2.2.1 _ hi) (Γ.2.2.2.2.1 _ hl) ⟨hd1, hd2, hd3⟩ hRm, Γ.2.2.2.2.1 _ hs⟩ (yP_preS Γ.2.2.2.2.2.2.2.2.2.2 Γ.2.2.2.2.2.2.1 hP hD) rfl hna hls hst (lv_room hW) hd ⟨Γ.2.2.2.2.2.2.2.2.1, Γ.2.2.2.2.2.2.2.2.2.1⟩
theorem g_nl {r : Int64} {y : MethodName} {wsy : List Cond} {bytes : ByteArray} {maxL : Nat} {ret : Option FieldType} {rm : Room} {na index : Nat} {wc wr w1 : va_W} {As st0 : List Value} (Γ : yC p R s m args meth c cc nL own Ts D tys A k n) (hM : ∀ sz : Nat, Met l y wsy rm (yP D tys wc sz As) (yQl D tys r w1 (va_A wc sz)) 0 0 (va_A wc sz)) (hY : yY y wsy bytes maxL ret rm na) (hG : GoodIn Ts wsy) (hl : (own, index, y) ∈ yNl) (hs : Cond.static y ∈ Ts) (hi : Cond.initialized y.cls ∈ Ts) (hst : st0 = As.reverse ++ st) (hna : As.length = na) (hW : (st.map fun v => v.category).sum ≤ 8) (hRm : rm.frames + 1 ≤ R.frames ∧ 8 + (maxL + 11) + rm.locals ≤ R.locals) (hd : decode cc pc = .ok (.invokestatic index, 3)) (isC isR : List Nat) (hC : isC.map (fun i => ws[i]?) = wc.map some) (hcn : va_nd isC = true) (hR : isR.map (fun i => ws[i]?) = wr.map some) (hn : va_nd isR = true) (hdis : ∀ i ∈ isR, i ∉ isC) (hws : wr ++ w1 = ws') (kk : yG p l e R s m args below meth c D A nL k n Q (pc + 3) lv (.long r :: st) ws') : yG p l e R s m args below meth c D A nL k n Q pc lv st0 ws := by
  subst hws
  obtain ⟨⟨w9, hw⟩, hr1, hr2, hd1, hd2, hd3⟩ := hY
  refine y_bl (av := As.toArray) Γ isC isR hC hR hn hdis (fun H locs ls hls hP hD => ?_) hcn kk
  exact va_runSN ⟨Γ.1, Γ.2.1, Γ.2.2.1, Γ.2.2.2.1, Γ.2.2.2.2.1⟩ (hM H.size) ⟨va_cnB na Γ.2.2.2.2.1 hG hw hr1 hr2 (Γ.2.2.2.2.2.2.2.2.2.2 _ hl) (Γ.2.2.2.2.1 _ hi) ⟨hd1, hd2, hd3⟩ hRm, Γ.2.2.2.2.1 _ hs, trivial⟩ (yP_preS Γ.2.2.2.2.2.2.2.2.2.2 Γ.2.2.2.2.2.2.1 hP hD) rfl hna hls hst (lv_room hW) hd ⟨Γ.2.2.2.2.2.2.2.2.1, Γ.2.2.2.2.2.2.2.2.2.1⟩
theorem g_vv {y : MethodName} {wsy : List Cond} {bytes : ByteArray} {maxL : Nat} {ret : Option FieldType} {rm : Room} {na index : Nat} {wc wr w1 : va_W} {As st0 : List Value} {b ci : Nat} {q : vw_C} {fs : List Value} (Γ : yC p R s m args meth c cc nL own Ts D tys A k n) (hM : ∀ sz : Nat, Met l y wsy rm (yP D tys wc sz (.ref b :: As)) (yQv D tys w1 (va_A wc sz)) 0 0 (va_A wc sz)) (hY : yY y wsy bytes maxL ret rm na) (hG : GoodIn Ts (wsV own index q.1 y wsy)) (hq : y.cls = q.1) (hc : vwCl[ci]? = some q) (q0 : Nat) (he : wc[q0]? = some (b, .inr (ci, fs))) (hst : st0 = As.reverse ++ .ref b :: st) (hna : As.length = na) (hW : (st.map fun v => v.category).sum ≤ 8) (hRm : rm.frames + 1 ≤ R.frames ∧ 8 + (maxL + 11) + rm.locals ≤ R.locals) (hd : decode cc pc = .ok (.invokevirtual index, 3)) (isC isR : List Nat) (hC : isC.map (fun i => ws[i]?) = wc.map some) (hcn : va_nd isC = true) (hR : isR.map (fun i => ws[i]?) = wr.map some) (hn : va_nd isR = true) (hdis : ∀ i ∈ isR, i ∉ isC) (hws : wr ++ w1 = ws') (kk : yG p l e R s m args below meth c D A nL k n Q (pc + 3) lv st ws') : yG p l e R s m args below meth c D A nL k n Q pc lv st0 ws := by
  subst hws
  obtain ⟨⟨w9, hw⟩, hr1, hr2, hd1, hd2, hd3⟩ := hY
  refine y_bv (av := (Value.ref b :: As).toArray) Γ isC isR hC hR hn hdis (fun H locs ls hls hP hD => ?_) hcn kk
  exact va_runV ⟨Γ.1, Γ.2.1, Γ.2.2.1, Γ.2.2.2.1, Γ.2.2.2.2.1⟩ (hM H.size) (cwV na Γ.2.2.2.2.1 hG hw hr1 hr2 ⟨hq, hd1, hd2, hd3⟩ hRm) (yP_preV Γ.2.2.2.2.2.2.2.2.2.2 Γ.2.2.2.2.2.2.1 hP hD hc he) rfl hna hls hst (lv_room hW) hd ⟨Γ.2.2.2.2.2.2.2.2.1, Γ.2.2.2.2.2.2.2.2.2.1⟩
theorem g_sv {y : MethodName} {wsy : List Cond} {bytes : ByteArray} {maxL : Nat} {ret : Option FieldType} {rm : Room} {na index : Nat} {wc wr w1 : va_W} {As st0 : List Value} (Γ : yC p R s m args meth c cc nL own Ts D tys A k n) (hM : ∀ sz : Nat, Met l y wsy rm (yP D tys wc sz As) (yQv D tys w1 (va_A wc sz)) 0 0 (va_A wc sz)) (hY : yY y wsy bytes maxL ret rm na) (hG : GoodIn Ts wsy) (hl : Cond.methodLink own index y ∈ Ts) (hs : Cond.static y ∈ Ts) (hi : Cond.initialized y.cls ∈ Ts) (hst : st0 = As.reverse ++ st) (hna : As.length = na) (hW : (st.map fun v => v.category).sum ≤ 8) (hRm : rm.frames + 1 ≤ R.frames ∧ 8 + (maxL + 11) + rm.locals ≤ R.locals) (hd : decode cc pc = .ok (.invokestatic index, 3)) (isC isR : List Nat) (hC : isC.map (fun i => ws[i]?) = wc.map some) (hcn : va_nd isC = true) (hR : isR.map (fun i => ws[i]?) = wr.map some) (hn : va_nd isR = true) (hdis : ∀ i ∈ isR, i ∉ isC) (hws : wr ++ w1 = ws') (kk : yG p l e R s m args below meth c D A nL k n Q (pc + 3) lv st ws') : yG p l e R s m args below meth c D A nL k n Q pc lv st0 ws := by
  subst hws
  obtain ⟨⟨w9, hw⟩, hr1, hr2, hd1, hd2, hd3⟩ := hY
  refine y_bv (av := As.toArray) Γ isC isR hC hR hn hdis (fun H locs ls hls hP hD => ?_) hcn kk
  exact va_runS ⟨Γ.1, Γ.2.1, Γ.2.2.1, Γ.2.2.2.1, Γ.2.2.2.2.1⟩ (hM H.size) ⟨callB_of na Γ.2.2.2.2.1 hG hw hr1 hr2 (Γ.2.2.2.2.1 _ hi) (Γ.2.2.2.2.1 _ hl) ⟨hd1, hd2, hd3⟩ hRm, Γ.2.2.2.2.1 _ hs⟩ (yP_preS Γ.2.2.2.2.2.2.2.2.2.2 Γ.2.2.2.2.2.2.1 hP hD) rfl hna hls hst (lv_room hW) hd ⟨Γ.2.2.2.2.2.2.2.2.1, Γ.2.2.2.2.2.2.2.2.2.1⟩
theorem g_nv {y : MethodName} {wsy : List Cond} {bytes : ByteArray} {maxL : Nat} {ret : Option FieldType} {rm : Room} {na index : Nat} {wc wr w1 : va_W} {As st0 : List Value} (Γ : yC p R s m args meth c cc nL own Ts D tys A k n) (hM : ∀ sz : Nat, Met l y wsy rm (yP D tys wc sz As) (yQv D tys w1 (va_A wc sz)) 0 0 (va_A wc sz)) (hY : yY y wsy bytes maxL ret rm na) (hG : GoodIn Ts wsy) (hl : (own, index, y) ∈ yNl) (hs : Cond.static y ∈ Ts) (hi : Cond.initialized y.cls ∈ Ts) (hst : st0 = As.reverse ++ st) (hna : As.length = na) (hW : (st.map fun v => v.category).sum ≤ 8) (hRm : rm.frames + 1 ≤ R.frames ∧ 8 + (maxL + 11) + rm.locals ≤ R.locals) (hd : decode cc pc = .ok (.invokestatic index, 3)) (isC isR : List Nat) (hC : isC.map (fun i => ws[i]?) = wc.map some) (hcn : va_nd isC = true) (hR : isR.map (fun i => ws[i]?) = wr.map some) (hn : va_nd isR = true) (hdis : ∀ i ∈ isR, i ∉ isC) (hws : wr ++ w1 = ws') (kk : yG p l e R s m args below meth c D A nL k n Q (pc + 3) lv st ws') : yG p l e R s m args below meth c D A nL k n Q pc lv st0 ws := by
  subst hws
  obtain ⟨⟨w9, hw⟩, hr1, hr2, hd1, hd2, hd3⟩ := hY
  refine y_bv (av := As.toArray) Γ isC isR hC hR hn hdis (fun H locs ls hls hP hD => ?_) hcn kk
  exact va_runSN ⟨Γ.1, Γ.2.1, Γ.2.2.1, Γ.2.2.2.1, Γ.2.2.2.2.1⟩ (hM H.size) ⟨va_cnB na Γ.2.2.2.2.1 hG hw hr1 hr2 (Γ.2.2.2.2.2.2.2.2.2.2 _ hl) (Γ.2.2.2.2.1 _ hi) ⟨hd1, hd2, hd3⟩ hRm, Γ.2.2.2.2.1 _ hs, trivial⟩ (yP_preS Γ.2.2.2.2.2.2.2.2.2.2 Γ.2.2.2.2.2.2.1 hP hD) rfl hna hls hst (lv_room hW) hd ⟨Γ.2.2.2.2.2.2.2.2.1, Γ.2.2.2.2.2.2.2.2.2.1⟩
end YH
