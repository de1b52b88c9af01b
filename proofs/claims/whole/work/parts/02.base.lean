/-! ===== reads, writes and divisions that may fail ===== -/
def ya_rd {α : Type} (f : Nat → α) (n : Nat) (i : Int32) : Option α := if i < 0 ∨ n ≤ i.toNatClampNeg then none else some (f i.toNatClampNeg)
def ya_up {α : Type} (f : Nat → α) (k : Nat) (x : α) : Nat → α := fun j => if j = k then x else f j
def ya_wr {α : Type} (f : Nat → α) (n : Nat) (i : Int32) (x : α) : Option (Nat → α) := if i < 0 ∨ n ≤ i.toNatClampNeg then none else some (ya_up f i.toNatClampNeg x)
def ya_ldv (x y : Int64) : Option Int64 := if y = 0 then none else some (x / y)
def ya_lrm (x y : Int64) : Option Int64 := if y = 0 then none else some (x - x / y * y)
def ya_irm (x y : Int32) : Option Int32 := if y = 0 then none else some (x - x / y * y)
/-- a number that a boolean may be -/
def ya_bo (x : Int32) : Option Int32 := if x = 0 ∨ x = 1 then some x else none
theorem ya_rd_inv {α : Type} {f : Nat → α} {n : Nat} {i : Int32} {v : α} (h : ya_rd f n i = some v) : vp_in i n ∧ f i.toNatClampNeg = v := by
  unfold ya_rd at h
  split at h
  · cases h
  · exact ⟨‹_›, Option.some.inj h⟩
theorem ya_wr_inv {α : Type} {f g : Nat → α} {n : Nat} {i : Int32} {x : α} (h : ya_wr f n i x = some g) : vp_in i n ∧ ya_up f i.toNatClampNeg x = g := by
  unfold ya_wr at h
  split at h
  · cases h
  · exact ⟨‹_›, Option.some.inj h⟩
theorem ya_ldv_inv {x y v : Int64} (h : ya_ldv x y = some v) : ¬ y = 0 ∧ x / y = v := by
  unfold ya_ldv at h
  split at h
  · cases h
  · exact ⟨‹_›, Option.some.inj h⟩
theorem ya_lrm_inv {x y v : Int64} (h : ya_lrm x y = some v) : ¬ y = 0 ∧ x - x / y * y = v := by
  unfold ya_lrm at h
  split at h
  · cases h
  · exact ⟨‹_›, Option.some.inj h⟩
theorem ya_irm_inv {x y v : Int32} (h : ya_irm x y = some v) : ¬ y = 0 ∧ x - x / y * y = v := by
  unfold ya_irm at h
  split at h
  · cases h
  · exact ⟨‹_›, Option.some.inj h⟩
theorem ya_bo_inv {x v : Int32} (h : ya_bo x = some v) : narrow .boolean (.int x) = .int x ∧ x = v := by
  unfold ya_bo at h
  split at h
  · rename_i h1
    refine ⟨?_, Option.some.inj h⟩
    rcases h1 with rfl | rfl <;> rfl
  · cases h
theorem ya_ob {α β : Type} {o : Option α} {k : α → Option β} {b : β} (h : o.bind k = some b) : ∃ a, o = some a ∧ k a = some b := by
  cases o with
  | none => cases h
  | some a => exact ⟨a, rfl, h⟩
/-- a name for a computed number -/
def ya_lt {α β : Type} (a : α) (k : α → Option β) : Option β := k a
theorem ya_lt_inv {α β : Type} {a : α} {k : α → Option β} {b : β} (h : ya_lt a k = some b) : ∃ x, x = a ∧ k x = some b := ⟨a, rfl, h⟩
/-! ===== the worlds of contracts ===== -/
abbrev yT (cI cJ cZ cW cR : ClassId) : List (ClassId × FieldType) := [(cI, .int), (cJ, .long), (cZ, .boolean), (cW, .object RX3), (cR, .array .long)]
/-- the links among nest mates -/
def yNl : List (String × Nat × MethodName) := [(RX4, 9, yX3_init), (RX2, 24, yX3_init), (RX4, 25, yX1_init), (RX4, 32, yX0_init), (RX0, 11, yX1_init), (RX3, 56, yX4_bit), (RX1, 21, yX4_holds), (RX3, 64, yX4_holds), (RX0, 73, yX4_holds), (RX0, 111, yX4_bit)]
def yN (U : State) : Prop := ∀ q ∈ yNl, va_Nw (.methodLinkNest q.1 q.2.1 q.2.2 RX4) U
theorem yN.warm {s U : State} (hW : s.WarmedH U.vm) (h : yN s) : yN U := fun q hq => va_Nw.warmM hW (h q hq)
theorem yN.same {u U : State} (e : u.vm = U.vm) (h : yN u) : yN U := fun q hq => va_Nw.same rfl e (h q hq)
def yP (D : va_G) (tys : List (ClassId × FieldType)) (ws : va_W) (sz : Nat) (av : List Value) : Array Value → State → Prop := va_Pc av (fun U => U.heap.size = sz ∧ va_P D vwCl ws U.heap ∧ va_K D vwCl tys U ∧ va_D (fun _ => True) ws ∧ yN U)
def yB (D : va_G) (tys : List (ClassId × FieldType)) (ws : va_W) (A : Nat → Prop) : Unit → State → Prop := fun _ t => va_P D vwCl ws t.heap ∧ va_K D vwCl tys t ∧ va_D A ws
abbrev yQi (D : va_G) (tys : List (ClassId × FieldType)) (r : Int32) (ws : va_W) (A : Nat → Prop) : Array Value → State → Outcome → State → Prop := va_Qi (fun (x : Int32) (_ : Unit) => x = r) (yB D tys ws A) A
abbrev yQl (D : va_G) (tys : List (ClassId × FieldType)) (r : Int64) (ws : va_W) (A : Nat → Prop) : Array Value → State → Outcome → State → Prop := va_Ql (fun (x : Int64) (_ : Unit) => x = r) (yB D tys ws A) A
abbrev yQv (D : va_G) (tys : List (ClassId × FieldType)) (ws : va_W) (A : Nat → Prop) : Array Value → State → Outcome → State → Prop := va_Qv (fun (_ : Unit) => True) (yB D tys ws A) A
theorem yP_blind {D : va_G} {tys : List (ClassId × FieldType)} {ws : va_W} {sz : Nat} {av : List Value} : FrameBlind (yP D tys ws sz av) := fun a U g mk q => by
  obtain ⟨q0, q1, qP, qK, qD, qN⟩ := q
  exact ⟨q0, q1, qP, va_K.moved (u := U) (U := U.calling g mk a) (Vm.Alike.refl U.vm) qK, qD, yN.same (u := U) (U := U.calling g mk a) rfl qN⟩
theorem yP_preS {D : va_G} {tys : List (ClassId × FieldType)} {wc : va_W} {A : Nat → Prop} {s : State} {H : Heap} {As : List Value} (hN : yN s) (hK : va_K D vwCl tys s) (hP : va_P D vwCl wc H) (hD : va_D A wc) : PreS s H (yP D tys wc H.size As) As :=
  ⟨yP_blind, fun U hU hW => ⟨rfl, by rw [hU], by rw [hU]; exact hP, va_K.moved hW.alike hK, hD.weaken (fun _ _ _ _ => trivial), hN.warm hW⟩⟩
theorem yP_preV {D : va_G} {tys : List (ClassId × FieldType)} {wc : va_W} {A : Nat → Prop} {s : State} {H : Heap} {b q0 ci : Nat} {q : vw_C} {fs : List Value} {As : List Value} (hN : yN s) (hK : va_K D vwCl tys s) (hP : va_P D vwCl wc H) (hD : va_D A wc) (hc : vwCl[ci]? = some q) (he : wc[q0]? = some (b, .inr (ci, fs))) : PreV s H q.1 b (yP D tys wc H.size (.ref b :: As)) As :=
  ⟨yP_blind, va_recv hK hP hc he, fun U hU hW => ⟨rfl, by rw [hU], by rw [hU]; exact hP, va_K.moved hW.alike hK, hD.weaken (fun _ _ _ _ => trivial), hN.warm hW⟩⟩
/-- what a walk knows of its method -/
def yC (p : Program) (R : Room) (s : State) (m : MethodId) (args : Array Value) (meth : Method) (c : Code) (cc : ByteArray) (nL : Nat) (own : String) (Ts : List Cond) (D : va_G) (tys : List (ClassId × FieldType)) (A : Nat → Prop) (k n : Nat) : Prop :=
  p.tables.exec = Jvm.exec ∧ c.code = cc ∧ c.maxLocals = nL ∧ s.vm.findClass own = some m.cls ∧ (∀ w ∈ Ts, w.before args s = true) ∧ meth.locks = false ∧ va_K D vwCl tys s ∧ (∀ q, s.heap.size ≤ q → A q) ∧ k ≤ R.cells ∧ n ≤ R.slots ∧ yN s
/-- the machine at pc, with these locals, this stack, this world -/
def yG (p : Program) (l : Launch) (e : Env) (R : Room) (s : State) (m : MethodId) (args : Array Value) (below : List Frame) (meth : Method) (c : Code) (D : va_G) (A : Nat → Prop) (nL k n : Nat) (Q : State → Prop) (pc : Nat) (lv : List (Nat × Value)) (st : List Value) (ws : va_W) : Prop :=
  ∀ (H : Heap) (locs : List Loc) (ls : Array Slot), va_P D vwCl ws H → va_D A ws → va_S A s.heap H locs → lv_has ls nL lv → W p l e R s m args below meth c H locs k n Q (F0 m pc ls st)
theorem yM {l : Launch} {y : MethodName} {ws ws' : List Cond} {rm : Room} {D : va_G} {tys : List (ClassId × FieldType)} {wc : va_W} {sz : Nat} {av : List Value} {Qc : Array Value → State → Outcome → State → Prop} {cc : ByteArray} {maxL : Nat} {ret : Option FieldType} (own : String)
    (hy : plainName y.cls = true) (hw : ws = Cond.code y cc maxL ret :: ws') (ho : y.cls = own) (hlen : (lg_sl av).length ≤ maxL)
    (body : ∀ (p : Program) (e : Env) (s : State) (m : MethodId) (below : List Frame) (meth : Method) (c : Code), yC p (headSpec ws rm).room s m av.toArray meth c cc maxL own ws D tys (va_A wc sz) 0 0 → meth.sig.returnType = ret →
      yG p l e (headSpec ws rm).room s m av.toArray below meth c D (va_A wc sz) maxL 0 0 (MQ below Qc av.toArray s 0 0 (va_A wc sz)) 0 (lv_args 0 av) [] wc) : Met l y ws rm (yP D tys wc sz av) Qc 0 0 (va_A wc sz) := by
  refine Met.ofW (cc := cc) (maxL := maxL) (ret := ret) hy hw ?_
  intro p e s m args below meth c s₁ B hml hv
  obtain ⟨rfl, hsz, hP, hK, hD0, hN⟩ := hv
  have hts := atoms_spec (ws := ws) B.pre
  have hown : s.vm.findClass own = some m.cls := ho ▸ findClass_of_methodNamed B.named
  subst hsz
  have hD := hD0.self (sz := s.heap.size)
  have hl := lv_entry av (n := maxL) hlen
  rw [lg_entry_eq]
  exact body p e s m below meth c ⟨B.exec, B.bytes, hml, hown, hts, B.notSynchronized, hK, fun q h => Or.inr h, Nat.zero_le _, Nat.zero_le _, hN⟩ B.returns s.heap [] _ hP hD va_S.rf hl
section YR
variable {p : Program} {l : Launch} {e : Env} {R : Room} {s : State} {m : MethodId} {args : Array Value} {below : List Frame} {meth : Method} {c : Code} {k n : Nat} {Q : State → Prop}
variable {cc : ByteArray} {nL : Nat} {own : String} {Ts : List Cond} {D : va_G} {tys : List (ClassId × FieldType)} {A : Nat → Prop} {pc : Nat} {lv lv' : List (Nat × Value)} {st : List Value} {ws ws' : va_W} {a : Nat}
/-! straight instructions -/
theorem g_iconst (Γ : yC p R s m args meth c cc nL own Ts D tys A k n) {x : Int} {v : Int32} (hd : decode cc pc = .ok (.iconst x, 1)) (hv : Int32.ofInt x = v) (kk : yG p l e R s m args below meth c D A nL k n Q (pc + 1) lv (.int v :: st) ws) : yG p l e R s m args below meth c D A nL k n Q pc lv st ws :=
  fun H locs ls h1 h2 h3 h4 => lv_iconst Γ.1 Γ.2.1 hd hv (kk H locs ls h1 h2 h3 h4)
theorem g_bipush (Γ : yC p R s m args meth c cc nL own Ts D tys A k n) {x : Int} {v : Int32} (hd : decode cc pc = .ok (.bipush x, 2)) (hv : (Int8.ofInt x).toInt32 = v) (kk : yG p l e R s m args below meth c D A nL k n Q (pc + 2) lv (.int v :: st) ws) : yG p l e R s m args below meth c D A nL k n Q pc lv st ws :=
  fun H locs ls h1 h2 h3 h4 => lv_bipush Γ.1 Γ.2.1 hd hv (kk H locs ls h1 h2 h3 h4)
theorem g_sipush (Γ : yC p R s m args meth c cc nL own Ts D tys A k n) {x : Int} {v : Int32} (hd : decode cc pc = .ok (.sipush x, 3)) (hv : (Int16.ofInt x).toInt32 = v) (kk : yG p l e R s m args below meth c D A nL k n Q (pc + 3) lv (.int v :: st) ws) : yG p l e R s m args below meth c D A nL k n Q pc lv st ws :=
  fun H locs ls h1 h2 h3 h4 => lv_sipush Γ.1 Γ.2.1 hd hv (kk H locs ls h1 h2 h3 h4)
theorem g_lconst (Γ : yC p R s m args meth c cc nL own Ts D tys A k n) {x : Fin 2} {v : Int64} (hd : decode cc pc = .ok (.lconst x, 1)) (hv : Int64.ofNat (x : Nat) = v) (kk : yG p l e R s m args below meth c D A nL k n Q (pc + 1) lv (.long v :: st) ws) : yG p l e R s m args below meth c D A nL k n Q pc lv st ws :=
  fun H locs ls h1 h2 h3 h4 => lv_lconst Γ.1 Γ.2.1 hd hv (kk H locs ls h1 h2 h3 h4)
theorem g_ldc (Γ : yC p R s m args meth c cc nL own Ts D tys A k n) {x : Nat} {v : Int32} (hd : decode cc pc = .ok (.ldc x, 2)) (hw : Cond.constant own x v ∈ Ts) (kk : yG p l e R s m args below meth c D A nL k n Q (pc + 2) lv (.int v :: st) ws) : yG p l e R s m args below meth c D A nL k n Q pc lv st ws :=
  fun H locs ls h1 h2 h3 h4 => lv_ldc Γ.1 Γ.2.1 Γ.2.2.2.1 (Γ.2.2.2.2.1 _ hw) hd (kk H locs ls h1 h2 h3 h4)
theorem g_ldc2 (Γ : yC p R s m args meth c cc nL own Ts D tys A k n) {x : Nat} {v : Int64} (hd : decode cc pc = .ok (.ldc2_w x, 3)) (hw : Cond.constantLong own x v ∈ Ts) (kk : yG p l e R s m args below meth c D A nL k n Q (pc + 3) lv (.long v :: st) ws) : yG p l e R s m args below meth c D A nL k n Q pc lv st ws :=
  fun H locs ls h1 h2 h3 h4 => lv_ldc2 Γ.1 Γ.2.1 Γ.2.2.2.1 (Γ.2.2.2.2.1 _ hw) hd (kk H locs ls h1 h2 h3 h4)
theorem g_iload_n (Γ : yC p R s m args meth c cc nL own Ts D tys A k n) {j : Fin 4} {x : Int32} (i : Nat) (hd : decode cc pc = .ok (.iload_n j, 1)) (hi : lv[i]? = some ((j : Nat), .int x)) (kk : yG p l e R s m args below meth c D A nL k n Q (pc + 1) lv (.int x :: st) ws) : yG p l e R s m args below meth c D A nL k n Q pc lv st ws :=
  fun H locs ls h1 h2 h3 h4 => lv_iload_n Γ.1 Γ.2.1 hd rfl (lv_at h4 i hi) (kk H locs ls h1 h2 h3 h4)
theorem g_iload (Γ : yC p R s m args meth c cc nL own Ts D tys A k n) {j : Nat} {x : Int32} (i : Nat) (hd : decode cc pc = .ok (.iload j, 2)) (hi : lv[i]? = some (j, .int x)) (kk : yG p l e R s m args below meth c D A nL k n Q (pc + 2) lv (.int x :: st) ws) : yG p l e R s m args below meth c D A nL k n Q pc lv st ws :=
  fun H locs ls h1 h2 h3 h4 => lv_iload Γ.1 Γ.2.1 hd (lv_at h4 i hi) (kk H locs ls h1 h2 h3 h4)
theorem g_lload_n (Γ : yC p R s m args meth c cc nL own Ts D tys A k n) {j : Fin 4} {x : Int64} (i : Nat) (hd : decode cc pc = .ok (.lload_n j, 1)) (hi : lv[i]? = some ((j : Nat), .long x)) (kk : yG p l e R s m args below meth c D A nL k n Q (pc + 1) lv (.long x :: st) ws) : yG p l e R s m args below meth c D A nL k n Q pc lv st ws :=
  fun H locs ls h1 h2 h3 h4 => lv_lload_n Γ.1 Γ.2.1 hd rfl (lv_at h4 i hi) (kk H locs ls h1 h2 h3 h4)
theorem g_lload (Γ : yC p R s m args meth c cc nL own Ts D tys A k n) {j : Nat} {x : Int64} (i : Nat) (hd : decode cc pc = .ok (.lload j, 2)) (hi : lv[i]? = some (j, .long x)) (kk : yG p l e R s m args below meth c D A nL k n Q (pc + 2) lv (.long x :: st) ws) : yG p l e R s m args below meth c D A nL k n Q pc lv st ws :=
  fun H locs ls h1 h2 h3 h4 => lv_lload Γ.1 Γ.2.1 hd (lv_at h4 i hi) (kk H locs ls h1 h2 h3 h4)
theorem g_aload_n (Γ : yC p R s m args meth c cc nL own Ts D tys A k n) {j : Fin 4} {x : Nat} (i : Nat) (hd : decode cc pc = .ok (.aload_n j, 1)) (hi : lv[i]? = some ((j : Nat), .ref x)) (kk : yG p l e R s m args below meth c D A nL k n Q (pc + 1) lv (.ref x :: st) ws) : yG p l e R s m args below meth c D A nL k n Q pc lv st ws :=
  fun H locs ls h1 h2 h3 h4 => lv_aload_n Γ.1 Γ.2.1 hd rfl (lv_at h4 i hi) (kk H locs ls h1 h2 h3 h4)
theorem g_istore_n (Γ : yC p R s m args meth c cc nL own Ts D tys A k n) {j : Fin 4} {x : Int32} (hd : decode cc pc = .ok (.istore_n j, 1)) (hn : (j : Nat) < nL) (hl : ((j : Nat), Value.int x) :: lv.filter (fun q => !(q.1 == (j : Nat)) && !(q.1 + 1 == (j : Nat) && q.2.category == 2)) = lv') (kk : yG p l e R s m args below meth c D A nL k n Q (pc + 1) lv' st ws) : yG p l e R s m args below meth c D A nL k n Q pc lv (.int x :: st) ws :=
  fun H locs _ h1 h2 h3 h4 => lv_istore_n Γ.1 Γ.2.1 hd rfl h4 hn hl (fun ls h4 => kk H locs ls h1 h2 h3 h4)
theorem g_istore (Γ : yC p R s m args meth c cc nL own Ts D tys A k n) {j : Nat} {x : Int32} (hd : decode cc pc = .ok (.istore j, 2)) (hn : j < nL) (hl : (j, Value.int x) :: lv.filter (fun q => !(q.1 == j) && !(q.1 + 1 == j && q.2.category == 2)) = lv') (kk : yG p l e R s m args below meth c D A nL k n Q (pc + 2) lv' st ws) : yG p l e R s m args below meth c D A nL k n Q pc lv (.int x :: st) ws :=
  fun H locs _ h1 h2 h3 h4 => lv_istore Γ.1 Γ.2.1 hd h4 hn hl (fun ls h4 => kk H locs ls h1 h2 h3 h4)
theorem g_lstore_n (Γ : yC p R s m args meth c cc nL own Ts D tys A k n) {j : Fin 4} {x : Int64} (hd : decode cc pc = .ok (.lstore_n j, 1)) (hn : (j : Nat) + 1 < nL) (hl : ((j : Nat), Value.long x) :: lv.filter (fun q => !(q.1 == (j : Nat)) && (!(q.1 == (j : Nat) + 1) && !(q.1 + 1 == (j : Nat) && q.2.category == 2))) = lv') (kk : yG p l e R s m args below meth c D A nL k n Q (pc + 1) lv' st ws) : yG p l e R s m args below meth c D A nL k n Q pc lv (.long x :: st) ws :=
  fun H locs _ h1 h2 h3 h4 => lv_lstore_n Γ.1 Γ.2.1 hd rfl h4 hn hl (fun ls h4 => kk H locs ls h1 h2 h3 h4)
theorem g_lstore (Γ : yC p R s m args meth c cc nL own Ts D tys A k n) {j : Nat} {x : Int64} (hd : decode cc pc = .ok (.lstore j, 2)) (hn : j + 1 < nL) (hl : (j, Value.long x) :: lv.filter (fun q => !(q.1 == j) && (!(q.1 == j + 1) && !(q.1 + 1 == j && q.2.category == 2))) = lv') (kk : yG p l e R s m args below meth c D A nL k n Q (pc + 2) lv' st ws) : yG p l e R s m args below meth c D A nL k n Q pc lv (.long x :: st) ws :=
  fun H locs _ h1 h2 h3 h4 => lv_lstore Γ.1 Γ.2.1 hd h4 hn hl (fun ls h4 => kk H locs ls h1 h2 h3 h4)
theorem g_iinc (Γ : yC p R s m args meth c cc nL own Ts D tys A k n) {j : Nat} {d : Int} {x v : Int32} (i : Nat) (hd : decode cc pc = .ok (.iinc j d, 3)) (hi : lv[i]? = some (j, .int x)) (hv : x + Int32.ofInt d = v) (hn : j < nL) (hl : (j, Value.int v) :: lv.filter (fun q => !(q.1 == j) && !(q.1 + 1 == j && q.2.category == 2)) = lv') (kk : yG p l e R s m args below meth c D A nL k n Q (pc + 3) lv' st ws) : yG p l e R s m args below meth c D A nL k n Q pc lv st ws :=
  fun H locs _ h1 h2 h3 h4 => lv_iinc Γ.1 Γ.2.1 hd h4 hi hv hn hl (fun ls h4 => kk H locs ls h1 h2 h3 h4)
theorem g_iadd (Γ : yC p R s m args meth c cc nL own Ts D tys A k n) {x y : Int32} (hd : decode cc pc = .ok (.iadd, 1)) (kk : yG p l e R s m args below meth c D A nL k n Q (pc + 1) lv (.int (x + y) :: st) ws) : yG p l e R s m args below meth c D A nL k n Q pc lv (.int y :: .int x :: st) ws :=
  fun H locs ls h1 h2 h3 h4 => lv_iadd Γ.1 Γ.2.1 hd (kk H locs ls h1 h2 h3 h4)
theorem g_isub (Γ : yC p R s m args meth c cc nL own Ts D tys A k n) {x y : Int32} (hd : decode cc pc = .ok (.isub, 1)) (kk : yG p l e R s m args below meth c D A nL k n Q (pc + 1) lv (.int (x - y) :: st) ws) : yG p l e R s m args below meth c D A nL k n Q pc lv (.int y :: .int x :: st) ws :=
  fun H locs ls h1 h2 h3 h4 => lv_isub Γ.1 Γ.2.1 hd (kk H locs ls h1 h2 h3 h4)
theorem g_imul (Γ : yC p R s m args meth c cc nL own Ts D tys A k n) {x y : Int32} (hd : decode cc pc = .ok (.imul, 1)) (kk : yG p l e R s m args below meth c D A nL k n Q (pc + 1) lv (.int (x * y) :: st) ws) : yG p l e R s m args below meth c D A nL k n Q pc lv (.int y :: .int x :: st) ws :=
  fun H locs ls h1 h2 h3 h4 => lv_imul Γ.1 Γ.2.1 hd (kk H locs ls h1 h2 h3 h4)
theorem g_iand (Γ : yC p R s m args meth c cc nL own Ts D tys A k n) {x y : Int32} (hd : decode cc pc = .ok (.iand, 1)) (kk : yG p l e R s m args below meth c D A nL k n Q (pc + 1) lv (.int (x &&& y) :: st) ws) : yG p l e R s m args below meth c D A nL k n Q pc lv (.int y :: .int x :: st) ws :=
  fun H locs ls h1 h2 h3 h4 => lv_iand Γ.1 Γ.2.1 hd (kk H locs ls h1 h2 h3 h4)
theorem g_ior (Γ : yC p R s m args meth c cc nL own Ts D tys A k n) {x y : Int32} (hd : decode cc pc = .ok (.ior, 1)) (kk : yG p l e R s m args below meth c D A nL k n Q (pc + 1) lv (.int (x ||| y) :: st) ws) : yG p l e R s m args below meth c D A nL k n Q pc lv (.int y :: .int x :: st) ws :=
  fun H locs ls h1 h2 h3 h4 => lv_ior Γ.1 Γ.2.1 hd (kk H locs ls h1 h2 h3 h4)
theorem g_ixor (Γ : yC p R s m args meth c cc nL own Ts D tys A k n) {x y : Int32} (hd : decode cc pc = .ok (.ixor, 1)) (kk : yG p l e R s m args below meth c D A nL k n Q (pc + 1) lv (.int (x ^^^ y) :: st) ws) : yG p l e R s m args below meth c D A nL k n Q pc lv (.int y :: .int x :: st) ws :=
  fun H locs ls h1 h2 h3 h4 => lv_ixor Γ.1 Γ.2.1 hd (kk H locs ls h1 h2 h3 h4)
theorem g_ishl (Γ : yC p R s m args meth c cc nL own Ts D tys A k n) {x y : Int32} (hd : decode cc pc = .ok (.ishl, 1)) (kk : yG p l e R s m args below meth c D A nL k n Q (pc + 1) lv (.int (x <<< (y &&& 31)) :: st) ws) : yG p l e R s m args below meth c D A nL k n Q pc lv (.int y :: .int x :: st) ws :=
  fun H locs ls h1 h2 h3 h4 => lv_ishl Γ.1 Γ.2.1 hd (kk H locs ls h1 h2 h3 h4)
theorem g_ishr (Γ : yC p R s m args meth c cc nL own Ts D tys A k n) {x y : Int32} (hd : decode cc pc = .ok (.ishr, 1)) (kk : yG p l e R s m args below meth c D A nL k n Q (pc + 1) lv (.int (x >>> (y &&& 31)) :: st) ws) : yG p l e R s m args below meth c D A nL k n Q pc lv (.int y :: .int x :: st) ws :=
  fun H locs ls h1 h2 h3 h4 => lv_ishr Γ.1 Γ.2.1 hd (kk H locs ls h1 h2 h3 h4)
theorem g_ladd (Γ : yC p R s m args meth c cc nL own Ts D tys A k n) {x y : Int64} (hd : decode cc pc = .ok (.ladd, 1)) (kk : yG p l e R s m args below meth c D A nL k n Q (pc + 1) lv (.long (x + y) :: st) ws) : yG p l e R s m args below meth c D A nL k n Q pc lv (.long y :: .long x :: st) ws :=
  fun H locs ls h1 h2 h3 h4 => lv_ladd Γ.1 Γ.2.1 hd (kk H locs ls h1 h2 h3 h4)
theorem g_lsub (Γ : yC p R s m args meth c cc nL own Ts D tys A k n) {x y : Int64} (hd : decode cc pc = .ok (.lsub, 1)) (kk : yG p l e R s m args below meth c D A nL k n Q (pc + 1) lv (.long (x - y) :: st) ws) : yG p l e R s m args below meth c D A nL k n Q pc lv (.long y :: .long x :: st) ws :=
  fun H locs ls h1 h2 h3 h4 => lv_lsub Γ.1 Γ.2.1 hd (kk H locs ls h1 h2 h3 h4)
theorem g_lmul (Γ : yC p R s m args meth c cc nL own Ts D tys A k n) {x y : Int64} (hd : decode cc pc = .ok (.lmul, 1)) (kk : yG p l e R s m args below meth c D A nL k n Q (pc + 1) lv (.long (x * y) :: st) ws) : yG p l e R s m args below meth c D A nL k n Q pc lv (.long y :: .long x :: st) ws :=
  fun H locs ls h1 h2 h3 h4 => lv_lmul Γ.1 Γ.2.1 hd (kk H locs ls h1 h2 h3 h4)
theorem g_lcmp (Γ : yC p R s m args meth c cc nL own Ts D tys A k n) {x y : Int64} (hd : decode cc pc = .ok (.lcmp, 1)) (kk : yG p l e R s m args below meth c D A nL k n Q (pc + 1) lv (.int (lg_cmp x y) :: st) ws) : yG p l e R s m args below meth c D A nL k n Q pc lv (.long y :: .long x :: st) ws :=
  fun H locs ls h1 h2 h3 h4 => W.lcmp Γ.1 Γ.2.1 hd (kk H locs ls h1 h2 h3 h4)
theorem g_ineg (Γ : yC p R s m args meth c cc nL own Ts D tys A k n) {x : Int32} (hd : decode cc pc = .ok (.ineg, 1)) (kk : yG p l e R s m args below meth c D A nL k n Q (pc + 1) lv (.int (-x) :: st) ws) : yG p l e R s m args below meth c D A nL k n Q pc lv (.int x :: st) ws :=
  fun H locs ls h1 h2 h3 h4 => lv_ineg Γ.1 Γ.2.1 hd (kk H locs ls h1 h2 h3 h4)
theorem g_lneg (Γ : yC p R s m args meth c cc nL own Ts D tys A k n) {x : Int64} (hd : decode cc pc = .ok (.lneg, 1)) (kk : yG p l e R s m args below meth c D A nL k n Q (pc + 1) lv (.long (-x) :: st) ws) : yG p l e R s m args below meth c D A nL k n Q pc lv (.long x :: st) ws :=
  fun H locs ls h1 h2 h3 h4 => lv_lneg Γ.1 Γ.2.1 hd (kk H locs ls h1 h2 h3 h4)
theorem g_i2l (Γ : yC p R s m args meth c cc nL own Ts D tys A k n) {x : Int32} (hd : decode cc pc = .ok (.i2l, 1)) (kk : yG p l e R s m args below meth c D A nL k n Q (pc + 1) lv (.long x.toInt64 :: st) ws) : yG p l e R s m args below meth c D A nL k n Q pc lv (.int x :: st) ws :=
  fun H locs ls h1 h2 h3 h4 => lv_i2l Γ.1 Γ.2.1 hd rfl (kk H locs ls h1 h2 h3 h4)
theorem g_ldiv (Γ : yC p R s m args meth c cc nL own Ts D tys A k n) {x y v : Int64} (hv : ya_ldv x y = some v) (hd : decode cc pc = .ok (.ldiv, 1)) (kk : yG p l e R s m args below meth c D A nL k n Q (pc + 1) lv (.long v :: st) ws) : yG p l e R s m args below meth c D A nL k n Q pc lv (.long y :: .long x :: st) ws := by
  obtain ⟨h0, rfl⟩ := ya_ldv_inv hv
  exact fun H locs ls h1 h2 h3 h4 => lv_ldiv Γ.1 Γ.2.1 hd h0 (kk H locs ls h1 h2 h3 h4)
theorem g_lrem (Γ : yC p R s m args meth c cc nL own Ts D tys A k n) {x y v : Int64} (hv : ya_lrm x y = some v) (hd : decode cc pc = .ok (.lrem, 1)) (kk : yG p l e R s m args below meth c D A nL k n Q (pc + 1) lv (.long v :: st) ws) : yG p l e R s m args below meth c D A nL k n Q pc lv (.long y :: .long x :: st) ws := by
  obtain ⟨h0, rfl⟩ := ya_lrm_inv hv
  exact fun H locs ls h1 h2 h3 h4 => lv_lrem Γ.1 Γ.2.1 hd h0 (kk H locs ls h1 h2 h3 h4)
theorem g_irem (Γ : yC p R s m args meth c cc nL own Ts D tys A k n) {x y v : Int32} (hv : ya_irm x y = some v) (hd : decode cc pc = .ok (.irem, 1)) (kk : yG p l e R s m args below meth c D A nL k n Q (pc + 1) lv (.int v :: st) ws) : yG p l e R s m args below meth c D A nL k n Q pc lv (.int y :: .int x :: st) ws := by
  obtain ⟨h0, rfl⟩ := ya_irm_inv hv
  exact fun H locs ls h1 h2 h3 h4 => lv_irem Γ.1 Γ.2.1 hd h0 (kk H locs ls h1 h2 h3 h4)
theorem g_iushr (Γ : yC p R s m args meth c cc nL own Ts D tys A k n) {x y : Int32} (hd : decode cc pc = .ok (.iushr, 1)) (kk : yG p l e R s m args below meth c D A nL k n Q (pc + 1) lv (.int (x.toUInt32 >>> (y.toUInt32 &&& Int32.toUInt32 31)).toInt32 :: st) ws) : yG p l e R s m args below meth c D A nL k n Q pc lv (.int y :: .int x :: st) ws :=
  fun H locs ls h1 h2 h3 h4 => lv_iushr Γ.1 Γ.2.1 hd rfl (kk H locs ls h1 h2 h3 h4)
theorem g_dup (Γ : yC p R s m args meth c cc nL own Ts D tys A k n) {v : Value} (hd : decode cc pc = .ok (.dup, 1)) (hc : v.category = 1) (kk : yG p l e R s m args below meth c D A nL k n Q (pc + 1) lv (v :: v :: st) ws) : yG p l e R s m args below meth c D A nL k n Q pc lv (v :: st) ws :=
  fun H locs ls h1 h2 h3 h4 => lv_dup Γ.1 Γ.2.1 hd hc (kk H locs ls h1 h2 h3 h4)
theorem g_dup2 (Γ : yC p R s m args meth c cc nL own Ts D tys A k n) {v w : Value} (hd : decode cc pc = .ok (.dup2, 1)) (hc : v.category = 1) (hc2 : w.category = 1) (kk : yG p l e R s m args below meth c D A nL k n Q (pc + 1) lv (v :: w :: v :: w :: st) ws) : yG p l e R s m args below meth c D A nL k n Q pc lv (v :: w :: st) ws :=
  fun H locs ls h1 h2 h3 h4 => lv_dup2_11 Γ.1 Γ.2.1 hd hc hc2 (kk H locs ls h1 h2 h3 h4)
theorem g_pop (Γ : yC p R s m args meth c cc nL own Ts D tys A k n) {v : Value} (hd : decode cc pc = .ok (.pop, 1)) (hc : v.category = 1) (kk : yG p l e R s m args below meth c D A nL k n Q (pc + 1) lv st ws) : yG p l e R s m args below meth c D A nL k n Q pc lv (v :: st) ws :=
  fun H locs ls h1 h2 h3 h4 => lv_pop Γ.1 Γ.2.1 hd hc (kk H locs ls h1 h2 h3 h4)
theorem g_goto (Γ : yC p R s m args meth c cc nL own Ts D tys A k n) {off : Int} (tgt : Nat) (hd : decode cc pc = .ok (.goto off, 3)) (ht : (pc : Int) + off = (tgt : Int)) (kk : yG p l e R s m args below meth c D A nL k n Q tgt lv st ws) : yG p l e R s m args below meth c D A nL k n Q pc lv st ws :=
  fun H locs ls h1 h2 h3 h4 => lv_goto Γ.1 Γ.2.1 hd ht (kk H locs ls h1 h2 h3 h4)
theorem g_if_eq (Γ : yC p R s m args meth c cc nL own Ts D tys A k n) {x : Int32} {off : Int} (tgt : Nat) (hd : decode cc pc = .ok (.ifCond .eq off, 3)) (ht : (pc : Int) + off = (tgt : Int)) (kt : x = 0 → yG p l e R s m args below meth c D A nL k n Q tgt lv st ws) (kf : ¬ (x = 0) → yG p l e R s m args below meth c D A nL k n Q (pc + 3) lv st ws) : yG p l e R s m args below meth c D A nL k n Q pc lv (.int x :: st) ws :=
  fun H locs ls h1 h2 h3 h4 => lv_if_eq Γ.1 Γ.2.1 hd ht (fun q => kt q H locs ls h1 h2 h3 h4) (fun q => kf q H locs ls h1 h2 h3 h4)
theorem g_icmp_eq (Γ : yC p R s m args meth c cc nL own Ts D tys A k n) {x y : Int32} {off : Int} (tgt : Nat) (hd : decode cc pc = .ok (.if_icmp .eq off, 3)) (ht : (pc : Int) + off = (tgt : Int)) (kt : x = y → yG p l e R s m args below meth c D A nL k n Q tgt lv st ws) (kf : ¬ (x = y) → yG p l e R s m args below meth c D A nL k n Q (pc + 3) lv st ws) : yG p l e R s m args below meth c D A nL k n Q pc lv (.int y :: .int x :: st) ws :=
  fun H locs ls h1 h2 h3 h4 => lv_icmp_eq Γ.1 Γ.2.1 hd ht (fun q => kt q H locs ls h1 h2 h3 h4) (fun q => kf q H locs ls h1 h2 h3 h4)
theorem g_if_ne (Γ : yC p R s m args meth c cc nL own Ts D tys A k n) {x : Int32} {off : Int} (tgt : Nat) (hd : decode cc pc = .ok (.ifCond .ne off, 3)) (ht : (pc : Int) + off = (tgt : Int)) (kt : ¬ x = 0 → yG p l e R s m args below meth c D A nL k n Q tgt lv st ws) (kf : x = 0 → yG p l e R s m args below meth c D A nL k n Q (pc + 3) lv st ws) : yG p l e R s m args below meth c D A nL k n Q pc lv (.int x :: st) ws :=
  fun H locs ls h1 h2 h3 h4 => lv_if_ne Γ.1 Γ.2.1 hd ht (fun q => kt q H locs ls h1 h2 h3 h4) (fun q => kf q H locs ls h1 h2 h3 h4)
theorem g_icmp_ne (Γ : yC p R s m args meth c cc nL own Ts D tys A k n) {x y : Int32} {off : Int} (tgt : Nat) (hd : decode cc pc = .ok (.if_icmp .ne off, 3)) (ht : (pc : Int) + off = (tgt : Int)) (kt : ¬ x = y → yG p l e R s m args below meth c D A nL k n Q tgt lv st ws) (kf : x = y → yG p l e R s m args below meth c D A nL k n Q (pc + 3) lv st ws) : yG p l e R s m args below meth c D A nL k n Q pc lv (.int y :: .int x :: st) ws :=
  fun H locs ls h1 h2 h3 h4 => lv_icmp_ne Γ.1 Γ.2.1 hd ht (fun q => kt q H locs ls h1 h2 h3 h4) (fun q => kf q H locs ls h1 h2 h3 h4)
theorem g_if_lt (Γ : yC p R s m args meth c cc nL own Ts D tys A k n) {x : Int32} {off : Int} (tgt : Nat) (hd : decode cc pc = .ok (.ifCond .lt off, 3)) (ht : (pc : Int) + off = (tgt : Int)) (kt : x < 0 → yG p l e R s m args below meth c D A nL k n Q tgt lv st ws) (kf : ¬ (x < 0) → yG p l e R s m args below meth c D A nL k n Q (pc + 3) lv st ws) : yG p l e R s m args below meth c D A nL k n Q pc lv (.int x :: st) ws :=
  fun H locs ls h1 h2 h3 h4 => lv_if_lt Γ.1 Γ.2.1 hd ht (fun q => kt q H locs ls h1 h2 h3 h4) (fun q => kf q H locs ls h1 h2 h3 h4)
theorem g_icmp_lt (Γ : yC p R s m args meth c cc nL own Ts D tys A k n) {x y : Int32} {off : Int} (tgt : Nat) (hd : decode cc pc = .ok (.if_icmp .lt off, 3)) (ht : (pc : Int) + off = (tgt : Int)) (kt : x < y → yG p l e R s m args below meth c D A nL k n Q tgt lv st ws) (kf : ¬ (x < y) → yG p l e R s m args below meth c D A nL k n Q (pc + 3) lv st ws) : yG p l e R s m args below meth c D A nL k n Q pc lv (.int y :: .int x :: st) ws :=
  fun H locs ls h1 h2 h3 h4 => lv_icmp_lt Γ.1 Γ.2.1 hd ht (fun q => kt q H locs ls h1 h2 h3 h4) (fun q => kf q H locs ls h1 h2 h3 h4)
theorem g_if_ge (Γ : yC p R s m args meth c cc nL own Ts D tys A k n) {x : Int32} {off : Int} (tgt : Nat) (hd : decode cc pc = .ok (.ifCond .ge off, 3)) (ht : (pc : Int) + off = (tgt : Int)) (kt : 0 ≤ x → yG p l e R s m args below meth c D A nL k n Q tgt lv st ws) (kf : ¬ (0 ≤ x) → yG p l e R s m args below meth c D A nL k n Q (pc + 3) lv st ws) : yG p l e R s m args below meth c D A nL k n Q pc lv (.int x :: st) ws :=
  fun H locs ls h1 h2 h3 h4 => lv_if_ge Γ.1 Γ.2.1 hd ht (fun q => kt q H locs ls h1 h2 h3 h4) (fun q => kf q H locs ls h1 h2 h3 h4)
theorem g_icmp_ge (Γ : yC p R s m args meth c cc nL own Ts D tys A k n) {x y : Int32} {off : Int} (tgt : Nat) (hd : decode cc pc = .ok (.if_icmp .ge off, 3)) (ht : (pc : Int) + off = (tgt : Int)) (kt : y ≤ x → yG p l e R s m args below meth c D A nL k n Q tgt lv st ws) (kf : ¬ (y ≤ x) → yG p l e R s m args below meth c D A nL k n Q (pc + 3) lv st ws) : yG p l e R s m args below meth c D A nL k n Q pc lv (.int y :: .int x :: st) ws :=
  fun H locs ls h1 h2 h3 h4 => lv_icmp_ge Γ.1 Γ.2.1 hd ht (fun q => kt q H locs ls h1 h2 h3 h4) (fun q => kf q H locs ls h1 h2 h3 h4)
theorem g_if_gt (Γ : yC p R s m args meth c cc nL own Ts D tys A k n) {x : Int32} {off : Int} (tgt : Nat) (hd : decode cc pc = .ok (.ifCond .gt off, 3)) (ht : (pc : Int) + off = (tgt : Int)) (kt : 0 < x → yG p l e R s m args below meth c D A nL k n Q tgt lv st ws) (kf : ¬ (0 < x) → yG p l e R s m args below meth c D A nL k n Q (pc + 3) lv st ws) : yG p l e R s m args below meth c D A nL k n Q pc lv (.int x :: st) ws :=
  fun H locs ls h1 h2 h3 h4 => lv_if_gt Γ.1 Γ.2.1 hd ht (fun q => kt q H locs ls h1 h2 h3 h4) (fun q => kf q H locs ls h1 h2 h3 h4)
theorem g_icmp_gt (Γ : yC p R s m args meth c cc nL own Ts D tys A k n) {x y : Int32} {off : Int} (tgt : Nat) (hd : decode cc pc = .ok (.if_icmp .gt off, 3)) (ht : (pc : Int) + off = (tgt : Int)) (kt : y < x → yG p l e R s m args below meth c D A nL k n Q tgt lv st ws) (kf : ¬ (y < x) → yG p l e R s m args below meth c D A nL k n Q (pc + 3) lv st ws) : yG p l e R s m args below meth c D A nL k n Q pc lv (.int y :: .int x :: st) ws :=
  fun H locs ls h1 h2 h3 h4 => lv_icmp_gt Γ.1 Γ.2.1 hd ht (fun q => kt q H locs ls h1 h2 h3 h4) (fun q => kf q H locs ls h1 h2 h3 h4)
theorem g_if_le (Γ : yC p R s m args meth c cc nL own Ts D tys A k n) {x : Int32} {off : Int} (tgt : Nat) (hd : decode cc pc = .ok (.ifCond .le off, 3)) (ht : (pc : Int) + off = (tgt : Int)) (kt : x ≤ 0 → yG p l e R s m args below meth c D A nL k n Q tgt lv st ws) (kf : ¬ (x ≤ 0) → yG p l e R s m args below meth c D A nL k n Q (pc + 3) lv st ws) : yG p l e R s m args below meth c D A nL k n Q pc lv (.int x :: st) ws :=
  fun H locs ls h1 h2 h3 h4 => lv_if_le Γ.1 Γ.2.1 hd ht (fun q => kt q H locs ls h1 h2 h3 h4) (fun q => kf q H locs ls h1 h2 h3 h4)
theorem g_icmp_le (Γ : yC p R s m args meth c cc nL own Ts D tys A k n) {x y : Int32} {off : Int} (tgt : Nat) (hd : decode cc pc = .ok (.if_icmp .le off, 3)) (ht : (pc : Int) + off = (tgt : Int)) (kt : x ≤ y → yG p l e R s m args below meth c D A nL k n Q tgt lv st ws) (kf : ¬ (x ≤ y) → yG p l e R s m args below meth c D A nL k n Q (pc + 3) lv st ws) : yG p l e R s m args below meth c D A nL k n Q pc lv (.int y :: .int x :: st) ws :=
  fun H locs ls h1 h2 h3 h4 => lv_icmp_le Γ.1 Γ.2.1 hd ht (fun q => kt q H locs ls h1 h2 h3 h4) (fun q => kf q H locs ls h1 h2 h3 h4)
end YR
