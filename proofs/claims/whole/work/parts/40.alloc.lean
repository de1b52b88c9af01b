/-! ===== rows that make cells; constructors ===== -/
def va_AOA (ty : FieldType) (U : State) : Prop := (Cond.arrayOver (.array ty)).before #[] U = true
theorem va_AOA.use {ty : FieldType} {A : Array Value} {U : State} (h : va_AOA ty U) : (Cond.arrayOver (.array ty)).before A U = true := h
theorem va_AOA.same {ty : FieldType} {u U : State} (e : u.vm = U.vm) (h : va_AOA ty u) : va_AOA ty U := by
  unfold va_AOA Cond.before Cond.holds at h ⊢
  simp only [Cond.value] at h ⊢
  rw [← e]
  exact h
theorem va_AOA.moved {ty : FieldType} {u U : State} (hvm : u.vm.Alike U.vm) (h : va_AOA ty u) : va_AOA ty U :=
  va_AOA.same (u := u.setVm U.vm) rfl ((Cond.arrayOver_setVmC (args := #[]) hvm (.array ty)).trans h)
/-! ===== BEGIN new T[n][m]: the outer array a place, the inner ones among the pooled ===== -/
/-- f, but v at every address of l -/
def vr_up {α : Type} (f : Nat → α) (l : List Nat) (v : α) : Nat → α := fun a => if a ∈ l then v else f a
theorem vr_up_in {α : Type} {f : Nat → α} {l : List Nat} {v : α} {a : Nat} (h : a ∈ l) : vr_up f l v a = v := if_pos h
theorem vr_up_ne {α : Type} {f : Nat → α} {l : List Nat} {v : α} {a : Nat} (h : a ∉ l) : vr_up f l v a = f a := if_neg h
theorem vr_rows {L l : List Nat} {f : Nat → va_E} {e : va_E} (h : ∀ a, a ∈ l → a ∉ L) : va_pl L f ++ l.map (fun a => (a, e)) = va_pl (L ++ l) (vr_up f l e) := by
  unfold va_pl
  rw [List.map_append]
  congr 1
  · apply List.map_congr_left
    intro a ha
    rw [vr_up_ne (fun q => h a q ha)]
  · apply List.map_congr_left
    intro a ha
    rw [vr_up_in ha]
theorem vr_lay {X rows : va_W} {x : Nat × va_E} {pl : va_W} {D : va_G} {cl : List vw_C} {H : Heap} (hP : va_P D cl (((X ++ pl) ++ [x]) ++ rows) H) : va_P D cl ((X ++ [x]) ++ (pl ++ rows)) H := by
  rw [List.append_assoc (X ++ pl)] at hP
  have h := va_P.swap hP
  rw [← List.append_assoc X] at h
  have h2 := va_P.swap h
  rw [List.append_assoc (X ++ [x])] at h2
  exact h2
theorem vr_layD {X rows : va_W} {x : Nat × va_E} {pl : va_W} {A : Nat → Prop} (hD : va_D A (((X ++ pl) ++ [x]) ++ rows)) : va_D A ((X ++ [x]) ++ (pl ++ rows)) := by
  rw [List.append_assoc (X ++ pl)] at hD
  have h := va_D.swap hD
  rw [← List.append_assoc X] at h
  have h2 := va_D.swap h
  rw [List.append_assoc (X ++ [x])] at h2
  exact h2
theorem vr_outer (c : ClassId) (N h0 : Nat) : ∀ i : Nat, Jvm.Free.Multi.outerC c N h0 i = arrV c N (fun j => va_rf (if j < i then some (h0 + 1 + j) else none))
  | 0 => by
    show ({ cls := c, slots := Array.replicate N .null, vm := .none } : Cell) = _
    rw [arrV_new]
    refine congrArg (arrV c N) (funext fun j => ?_)
    simp [va_rf]
  | i + 1 => by
    show (Jvm.Free.Multi.outerC c N h0 i).setSlot i (.ref (h0 + 1 + i)) = _
    rw [vr_outer c N h0 i, arrV_store]
    refine congrArg (arrV c N) (funext fun j => ?_)
    by_cases e : j = i
    · subst e
      simp [updV, va_rf]
    · by_cases h : j < i
      · simp [updV, e, h, Nat.lt_succ_of_lt h]
      · simp [updV, e, h, show ¬ j < i + 1 by omega]
section VGM
variable {p : Program} {l : Launch} {e : Env} {R : Room} {s : State} {m : MethodId} {args : Array Value} {below : List Frame} {meth : Method} {c : Code} {H : Heap} {locs : List Loc} {cells slots : Nat} {Q : State → Prop}
variable {cc : ByteArray} {pc : Nat} {ls : Array Slot} {rest : List Value} {D : va_G} {cl : List vw_C} {A : Nat → Prop} {a : Nat} {tys : List (ClassId × FieldType)} {ws : va_W} {H0 : Heap}
theorem va_mna {X : va_W} {L : List Nat} {f : Nat → va_E} {cc : ByteArray} (hexec : p.tables.exec = Jvm.exec) (hb : c.code = cc) {own : String} {index : Nat} {ty : FieldType} {cy : ClassId} (hown : s.vm.findClass own = some m.cls) (hclink : (Cond.classLink own index ("[" ++ (FieldType.array ty).toString)).before args s = true) (hover : va_AOA ty s) (harr : (Cond.arrayClass ty).before args s = true) (hcy : s.vm.findClass (FieldType.array ty).toString = some cy)
    (hK : va_K D cl tys s) (hP : va_P D cl (X ++ va_pl L f) H) (hD : va_D A (X ++ va_pl L f)) (hS : va_S A H0 H locs) (hA : ∀ q, H0.size ≤ q → A q) {n k : Int32} {N' K' : Nat} {z : vp_A} (hn : ¬ n < 0) (hk : ¬ k < 0) (hN : n.toNatClampNeg = N') (hM : k.toNatClampNeg = K')
    (hb1 : N' * 4 ≤ 536870912) (hb2 : K' * componentBytes ty ≤ 536870912) (hb3 : K' ≤ 536870912) (hdf : fits ty (defaultValue ty) = true) (hdd : (defaultValue ty).isDefault = true) (hcells : cells + (1 + N') ≤ R.cells) (hslots : slots + (N' + N' * K') ≤ R.slots) (hz : ∀ c : ClassId, Jvm.Free.Multi.innerC c K' (defaultValue ty) = vp_cell c z) (hdg : decode cc pc = .ok (.multianewarray index 2, 4))
    (kk : ∀ (q : Nat) (r : Nat → Nat) (cA : ClassId) (H1 : Heap), (∀ i j : Nat, i < N' → j < N' → r i = r j → i = j) → (∀ i : Nat, i < N' → r i ∉ L) → va_K D cl (tys ++ [(cA, .array ty)]) s →
      va_P D cl ((X ++ [(q, .inl (cA, N', .inr (.inr (.inr (.inr (fun i => if i < N' then some (r i) else none))))))]) ++ va_pl (L ++ (List.range N').map r) (vr_up f ((List.range N').map r) (.inl (cy, z)))) H1 → va_D A ((X ++ [(q, .inl (cA, N', .inr (.inr (.inr (.inr (fun i => if i < N' then some (r i) else none))))))]) ++ va_pl (L ++ (List.range N').map r) (vr_up f ((List.range N').map r) (.inl (cy, z)))) → va_S A H0 H1 locs →
      W p l e R s m args below meth c H1 locs (cells + 1 + N') (slots + N' + N' * K') Q (F0 m (pc + 4) ls (.ref q :: rest))) : W p l e R s m args below meth c H locs cells slots Q (F0 m pc ls (.int k :: .int n :: rest)) := by
  subst hN
  subst hM
  intro T hT Xs
  obtain ⟨vm₁, cA, comp, -, fA, fC, hO, -, X', step⟩ := Xs.multianewarray2F hexec hown hclink (va_AOA.use hover) harr (g := F0 m pc ls (.int k :: .int n :: rest)) rfl (by rw [hb]; exact hdg) rfl hn hk hb1 hb2 hb3 hdf hdd hcells hslots
  have ec : some cy = some comp := hcy.symm.trans fC
  cases ec
  generalize hF : Jvm.Free.Multi.fill (T.setVm vm₁) cA cy n.toNatClampNeg k.toNatClampNeg (defaultValue ty) n.toNatClampNeg = F at X' step
  have hTh : (T.setVm vm₁).heap = H := hT
  obtain ⟨f1, f2, -, -⟩ := Jvm.Free.Multi.fill_facts (T.setVm vm₁) cA cy n.toNatClampNeg k.toNatClampNeg (defaultValue ty) n.toNatClampNeg
  rw [hF, hTh] at f1 f2
  have hold : ∀ x : Nat, x < H.size → F.heap[x]? = H[x]? := fun x hx => by
    have := Jvm.Free.Multi.fill_old (T.setVm vm₁) cA cy n.toNatClampNeg k.toNatClampNeg (defaultValue ty) (a := x) (by rw [hTh]; exact hx) n.toNatClampNeg
    rw [hF, hTh] at this
    exact this
  have hrow : ∀ j : Nat, j < n.toNatClampNeg → F.heap[H.size + 1 + j]? = some (vp_cell cy z) := fun j hj => by
    have := Jvm.Free.Multi.fill_inner (T.setVm vm₁) cA cy n.toNatClampNeg k.toNatClampNeg (defaultValue ty) n.toNatClampNeg j hj
    rw [hF, hTh, hz] at this
    exact this
  have hout : Jvm.Free.Multi.outerC cA n.toNatClampNeg H.size n.toNatClampNeg = vp_cell cA (n.toNatClampNeg, .inr (.inr (.inr (.inr (fun i => if i < n.toNatClampNeg then some (H.size + 1 + i) else none))))) := by
    rw [vp_cell_q]
    exact vr_outer cA n.toNatClampNeg H.size n.toNatClampNeg
  rw [hout] at f2
  have hlt : ∀ a, a ∈ L → a < H.size := fun a ha => by
    obtain ⟨k9, hk9⟩ := va_pl_get (X := X) (f := f) ha
    exact (hP k9 _ hk9).lt
  have hnl : ∀ i : Nat, i < n.toNatClampNeg → H.size + 1 + i ∉ L := fun i _ h => by
    have := hlt _ h
    omega
  have hnm : ∀ a, a ∈ (List.range n.toNatClampNeg).map (fun i => H.size + 1 + i) → a ∉ L := fun a ha h => by
    obtain ⟨i, -, rfl⟩ := List.mem_map.mp ha
    have := hlt _ h
    omega
  have hP0 : va_P D cl (X ++ va_pl L f) F.heap := hP.kept (fun k9 x hx => hold x.1 ((hP k9 x hx).lt))
  have hP1 : va_P D cl ((X ++ va_pl L f) ++ [(H.size, .inl (cA, n.toNatClampNeg, .inr (.inr (.inr (.inr (fun i => if i < n.toNatClampNeg then some (H.size + 1 + i) else none))))))]) F.heap := hP0.app (fun k9 x hx => by
    have h0 : k9 < 1 := (List.getElem?_eq_some_iff.mp hx).1
    rw [show k9 = 0 by omega] at hx
    cases hx
    exact f2)
  have hP2 : va_P D cl (((X ++ va_pl L f) ++ [(H.size, .inl (cA, n.toNatClampNeg, .inr (.inr (.inr (.inr (fun i => if i < n.toNatClampNeg then some (H.size + 1 + i) else none))))))]) ++ ((List.range n.toNatClampNeg).map (fun i => H.size + 1 + i)).map (fun a => (a, .inl (cy, z)))) F.heap := hP1.app (fun k9 x hx => by
    obtain ⟨a, ha, rfl⟩ := List.mem_map.mp (List.mem_of_getElem? hx)
    obtain ⟨i, hi, rfl⟩ := List.mem_map.mp ha
    exact hrow i (List.mem_range.mp hi))
  have hD2 : va_D A (((X ++ va_pl L f) ++ [(H.size, .inl (cA, n.toNatClampNeg, .inr (.inr (.inr (.inr (fun i => if i < n.toNatClampNeg then some (H.size + 1 + i) else none))))))]) ++ ((List.range n.toNatClampNeg).map (fun i => H.size + 1 + i)).map (fun a => (a, .inl (cy, z)))) := by
    have hD1 := hD.push (e := .inl (cA, n.toNatClampNeg, .inr (.inr (.inr (.inr (fun i => if i < n.toNatClampNeg then some (H.size + 1 + i) else none)))))) hP rfl (hA _ hS.1)
    generalize hW1 : (X ++ va_pl L f) ++ [(H.size, .inl (cA, n.toNatClampNeg, .inr (.inr (.inr (.inr (fun i => if i < n.toNatClampNeg then some (H.size + 1 + i) else none))))))] = W1 at hD1 hP1 ⊢
    have hle : ∀ (k9 : Nat) (x : Nat × va_E), W1[k9]? = some x → x.1 ≤ H.size := fun k9 x hx => by
      rw [← hW1] at hx
      by_cases hl : k9 < (X ++ va_pl L f).length
      · rw [List.getElem?_append_left hl] at hx
        exact Nat.le_of_lt ((hP k9 x hx).lt)
      · rw [List.getElem?_append_right (by omega)] at hx
        have h0 : k9 - (X ++ va_pl L f).length < 1 := (List.getElem?_eq_some_iff.mp hx).1
        rw [show k9 - (X ++ va_pl L f).length = 0 by omega] at hx
        cases hx
        exact Nat.le_refl _
    have hr : ∀ (k9 : Nat) (x : Nat × va_E), (((List.range n.toNatClampNeg).map (fun i => H.size + 1 + i)).map (fun a => ((a, .inl (cy, z)) : Nat × va_E)))[k9]? = some x → x.1 = H.size + 1 + k9 := fun k9 x hx => by
      rw [List.getElem?_map, List.getElem?_map] at hx
      by_cases h9 : k9 < n.toNatClampNeg
      · rw [List.getElem?_range h9] at hx
        cases hx
        rfl
      · have hn0 : (List.range n.toNatClampNeg)[k9]? = none := List.getElem?_eq_none (by rw [List.length_range]; omega)
        rw [hn0] at hx
        cases hx
    refine ⟨fun i j x y hi hj hxy => ?_, fun k9 x hx => ?_⟩
    · by_cases h1 : i < W1.length <;> by_cases h2 : j < W1.length
      · rw [List.getElem?_append_left h1] at hi
        rw [List.getElem?_append_left h2] at hj
        exact hD1.1 i j x y hi hj hxy
      · rw [List.getElem?_append_left h1] at hi
        rw [List.getElem?_append_right (by omega)] at hj
        have := hle _ _ hi
        have := hr _ _ hj
        omega
      · rw [List.getElem?_append_right (by omega)] at hi
        rw [List.getElem?_append_left h2] at hj
        have := hle _ _ hj
        have := hr _ _ hi
        omega
      · rw [List.getElem?_append_right (by omega)] at hi hj
        have := hr _ _ hi
        have := hr _ _ hj
        omega
    · by_cases h1 : k9 < W1.length
      · rw [List.getElem?_append_left h1] at hx
        exact hD1.2 k9 x hx
      · rw [List.getElem?_append_right (by omega)] at hx
        have := hr _ _ hx
        exact hA _ (by have := hS.1; omega)
  have hAr : ArrOfT s cA (.array ty) := fun N9 z9 => by
    obtain ⟨-, k9, hk9, cm9, hkk9⟩ := (hO 0 0 0).1
    exact ⟨(fun q hq => by cases hq), k9, hk9, cm9, hkk9⟩
  have hK2 : va_K D cl (tys ++ [(cA, .array ty)]) s := ⟨hK.1, fun k9 x hx => by
    by_cases hl : k9 < tys.length
    · rw [List.getElem?_append_left hl] at hx
      exact hK.2 k9 x hx
    · rw [List.getElem?_append_right (by omega)] at hx
      have h0 : k9 - tys.length < 1 := (List.getElem?_eq_some_iff.mp hx).1
      rw [show k9 - tys.length = 0 by omega] at hx
      cases hx
      exact ⟨hAr, fA⟩⟩
  obtain ⟨t, a1, b1⟩ := kk H.size (fun i => H.size + 1 + i) cA F.heap (fun i j _ _ h => by have h9 : H.size + 1 + i = H.size + 1 + j := h; omega) hnl hK2 (by rw [← vr_rows hnm]; exact vr_lay hP2) (by rw [← vr_rows hnm]; exact vr_layD hD2) ⟨by rw [f1]; have := hS.1; omega, fun x h1 h2 => (hold x (Nat.lt_of_lt_of_le h1 hS.1)).trans (hS.2.1 x h1 h2), hS.2.2⟩ F rfl X'
  refine ⟨t, step t ?_, b1⟩
  have e : T.heap.size = H.size := by rw [hT]
  rw [e]
  exact a1
end VGM
/-! ===== END ===== -/
def yPI (D : va_G) (tys : List (ClassId × FieldType)) (ws : va_W) (sz : Nat) (av : List Value) : Array Value → State → Prop := fun v U => yP D tys ws sz av v U ∧ va_AO RX3 U ∧ va_AOA .long U
abbrev yQe {S : Type} (D : va_G) (tys : List (ClassId × FieldType)) (w : S → va_W) (A : Nat → Prop) : Array Value → State → Outcome → State → Prop := va_Qv (fun (_ : S) => True) (fun u t => va_P D vwCl (w u) t.heap ∧ va_K D vwCl tys t ∧ va_D A (w u)) A
theorem yPI_blind {D : va_G} {tys : List (ClassId × FieldType)} {ws : va_W} {sz : Nat} {av : List Value} : FrameBlind (yPI D tys ws sz av) := fun a U g mk q =>
  ⟨yP_blind a U g mk q.1, va_AO.moved (u := U) (U := U.calling g mk a) (Vm.Alike.refl U.vm) q.2.1, va_AOA.same (u := U) (U := U.calling g mk a) rfl q.2.2⟩
theorem yPI_preS {D : va_G} {tys : List (ClassId × FieldType)} {wc : va_W} {A : Nat → Prop} {s : State} {H : Heap} {As : List Value} (hN : yN s) (hO : va_AO RX3 s) (hO2 : va_AOA .long s) (hK : va_K D vwCl tys s) (hP : va_P D vwCl wc H) (hD : va_D A wc) : PreS s H (yPI D tys wc H.size As) As :=
  ⟨yPI_blind, fun U hU hW => ⟨(yP_preS hN hK hP hD).2 U hU hW, hO.moved hW.alike, hO2.moved hW.alike⟩⟩
theorem yMI {l : Launch} {y : MethodName} {ws ws' : List Cond} {rm : Room} {D : va_G} {tys : List (ClassId × FieldType)} {wc : va_W} {sz mc ms : Nat} {av : List Value} {Qc : Array Value → State → Outcome → State → Prop} {cc : ByteArray} {maxL : Nat} {ret : Option FieldType} (own : String)
    (hy : plainName y.cls = true) (hw : ws = Cond.code y cc maxL ret :: ws') (ho : y.cls = own) (hni : y.name = "<init>") (hlen : (lg_sl av).length ≤ maxL)
    (body : ∀ (p : Program) (e : Env) (s : State) (m : MethodId) (below : List Frame) (meth : Method) (c : Code), yC p (headSpec ws rm).room s m av.toArray meth c cc maxL own ws D tys (va_A wc sz) 0 0 → meth.sig.returnType = ret → meth.name = "<init>" → va_AO RX3 s → va_AOA .long s →
      yG p l e (headSpec ws rm).room s m av.toArray below meth c D (va_A wc sz) maxL 0 0 (MQ below Qc av.toArray s mc ms (va_A wc sz)) 0 (lv_args 0 av) [] wc) : Met l y ws rm (yPI D tys wc sz av) Qc mc ms (va_A wc sz) := by
  refine Met.ofW (cc := cc) (maxL := maxL) (ret := ret) hy hw ?_
  intro p e s m args below meth c s₁ B hml hv
  obtain ⟨⟨rfl, hsz, hP, hK, hD0, hN⟩, hO, hO2⟩ := hv
  have hts := atoms_spec (ws := ws) B.pre
  have hown : s.vm.findClass own = some m.cls := ho ▸ findClass_of_methodNamed B.named
  subst hsz
  have hD := hD0.self (sz := s.heap.size)
  have hl := lv_entry av (n := maxL) hlen
  have hin : meth.name = "<init>" := (name_of_methodNamed B.named B.method).1.trans hni
  rw [lg_entry_eq]
  exact body p e s m below meth c ⟨B.exec, B.bytes, hml, hown, hts, B.notSynchronized, hK, fun q h => Or.inr h, Nat.zero_le _, Nat.zero_le _, hN⟩ B.returns hin hO hO2 s.heap [] _ hP hD va_S.rf hl
section YA
variable {p : Program} {l : Launch} {e : Env} {R : Room} {s : State} {m : MethodId} {args : Array Value} {below : List Frame} {meth : Method} {c : Code} {k n k' n' : Nat} {Q : State → Prop}
variable {cc : ByteArray} {nL : Nat} {own : String} {Ts : List Cond} {D : va_G} {tys : List (ClassId × FieldType)} {A : Nat → Prop} {pc : Nat} {lv lv' : List (Nat × Value)} {st : List Value} {ws ws' : va_W} {a : Nat}
theorem yC.grow (Γ : yC p R s m args meth c cc nL own Ts D tys A k n) (h1 : k' ≤ R.cells) (h2 : n' ≤ R.slots) : yC p R s m args meth c cc nL own Ts D tys A k' n' :=
  ⟨Γ.1, Γ.2.1, Γ.2.2.1, Γ.2.2.2.1, Γ.2.2.2.2.1, Γ.2.2.2.2.2.1, Γ.2.2.2.2.2.2.1, Γ.2.2.2.2.2.2.2.1, h1, h2, Γ.2.2.2.2.2.2.2.2.2.2⟩
theorem g_obj {idx : Nat} (Γ : yC p R s m args meth c cc nL own Ts D tys A k n) (w1 : Cond.methodLink own idx objectInit ∈ Ts) (w2 : Cond.instanceMethod objectInit ∈ Ts) (w3 : Cond.code objectInit ⟨#[0xb1]⟩ 1 none ∈ Ts) (hd : decode cc pc = .ok (.invokespecial idx, 3)) (hf : 1 ≤ R.frames) (hl : (st.map fun v => v.category).sum + 12 ≤ R.locals) (kk : yG p l e R s m args below meth c D A nL k n Q (pc + 3) lv st ws) : yG p l e R s m args below meth c D A nL k n Q pc lv (.ref a :: st) ws :=
  fun H locs ls h1 h2 h3 h4 => W.objInit Γ.1 Γ.2.1 Γ.2.2.2.1 (Γ.2.2.2.2.1 _ w1) (Γ.2.2.2.2.1 _ w2) (Γ.2.2.2.2.1 _ w3) rfl (h4.1.trans Γ.2.2.1.symm) rfl hd hf (by show 2 * 0 + _ + 12 ≤ _; omega) (kk H locs ls h1 h2 h3 h4)
theorem g_new {index ci N : Nat} {C : String} {T : u_T} {ty : Nat → FieldType} {fs : List Value} (Γ : yC p R s m args meth c cc nL own Ts D tys A k n) (hin : ∀ w ∈ u_ws C T N, w ∈ Ts) (hty : ∀ k, k < N → parseFieldDescriptor (T k).2.2.1 = some (ty k)) (w1 : Cond.classLink own index C ∈ Ts) (w2 : Cond.instantiable C N ∈ Ts) (w3 : Cond.initialized C ∈ Ts) (hc : vwCl[ci]? = some (C, T, N)) (hfs : ∀ j, j < N → defaultValue (ty j) = vp_V fs j) (hk : k + 1 = k') (hn : n + N = n') (hk2 : k' ≤ R.cells) (hn2 : n' ≤ R.slots) (hd : decode cc pc = .ok (.new index, 3))
    (kk : ∀ q : Nat, yG p l e R s m args below meth c D A nL k' n' Q (pc + 3) lv (.ref q :: st) (ws ++ [(q, .inr (ci, fs))])) : yG p l e R s m args below meth c D A nL k n Q pc lv st ws := by
  subst hk hn
  exact fun H locs ls h1 h2 h3 h4 => va_new Γ.1 Γ.2.1 Γ.2.2.2.2.1 hin ty hty Γ.2.2.2.1 (Γ.2.2.2.2.1 _ w1) (Γ.2.2.2.2.1 _ w2) (Γ.2.2.2.2.1 _ w3) Γ.2.2.2.2.2.2.1 h1 h2 h3 Γ.2.2.2.2.2.2.2.1 hc hfs hk2 hn2 hd (fun q H1 h1 h2 h3 => kk q H1 locs ls h1 h2 h3 h4)
theorem ya_same {ty : FieldType} {cA cB : ClassId} (hK : va_K D vwCl (tys ++ [(cB, ty)]) s) (t0 : Nat) (ht : tys[t0]? = some (cA, ty)) : cB = cA := by
  have h0 : t0 < tys.length := (List.getElem?_eq_some_iff.mp ht).1
  have h1 := (hK.2 t0 (cA, ty) (by rw [List.getElem?_append_left h0]; exact ht)).2
  have h2 := (hK.2 tys.length (cB, ty) (by rw [List.getElem?_append_right (Nat.le_refl _), Nat.sub_self]; rfl)).2
  cases ty with
  | object C =>
    obtain ⟨_, _, _, _, _, f1⟩ := h1
    obtain ⟨_, _, _, _, _, f2⟩ := h2
    exact Option.some.inj (f2.symm.trans f1)
  | _ =>
    have f1 : s.vm.findClass _ = some cA := h1
    have f2 : s.vm.findClass _ = some cB := h2
    exact Option.some.inj (f2.symm.trans f1)
theorem g_newa {atype : ArrayType} {ty : FieldType} {cA : ClassId} {x : Int32} {N' : Nat} {a0 : vp_A} (Γ : yC p R s m args meth c cc nL own Ts D tys A k n) (t0 : Nat) (ht : tys[t0]? = some (cA, ty)) (w1 : Cond.arrayClass ty ∈ Ts) (hty : newarray.typeOf atype = ty) (ha : ∀ cA : ClassId, vp_cell cA a0 = arrV cA N' (fun _ => defaultValue ty)) (hx : ¬ x < 0) (hN : x.toNatClampNeg = N') (hbytes : N' * componentBytes ty ≤ 536870912) (hk : k + 1 = k') (hn : n + N' = n') (hk2 : k' ≤ R.cells) (hn2 : n' ≤ R.slots) (hd : decode cc pc = .ok (.newarray atype, 2))
    (kk : ∀ q : Nat, yG p l e R s m args below meth c D A nL k' n' Q (pc + 2) lv (.ref q :: st) (ws ++ [(q, .inl (cA, a0))])) : yG p l e R s m args below meth c D A nL k n Q pc lv (.int x :: st) ws := by
  subst hk hn
  refine fun H locs ls h1 h2 h3 h4 => va_newa Γ.1 Γ.2.1 (by rw [hty]; exact Γ.2.2.2.2.1 _ w1) hty Γ.2.2.2.2.2.2.1 h1 h2 h3 Γ.2.2.2.2.2.2.2.1 ha hx hN hbytes hk2 hn2 hd (fun q cB H1 hK h1 h2 h3 => ?_)
  have e := ya_same hK t0 ht
  subst e
  exact kk q H1 locs ls h1 h2 h3 h4
theorem ya_newI {N : Nat} : ∀ cA : ClassId, vp_cell cA (N, .inl (fun _ => 0)) = arrV cA N (fun _ => defaultValue .int) := fun _ => rfl
theorem ya_newZ {N : Nat} : ∀ cA : ClassId, vp_cell cA (N, .inl (fun _ => 0)) = arrV cA N (fun _ => defaultValue .boolean) := fun _ => rfl
theorem ya_newJ {N : Nat} : ∀ cA : ClassId, vp_cell cA (N, .inr (.inl (fun _ => 0))) = arrV cA N (fun _ => defaultValue .long) := fun _ => rfl
theorem g_newq {C : String} {cA : ClassId} {x : Int32} {N' index : Nat} (Γ : yC p R s m args meth c cc nL own Ts D tys A k n) (t0 : Nat) (ht : tys[t0]? = some (cA, .object C)) (hO : va_AO C s) (w1 : Cond.classLink own index C ∈ Ts) (hx : ¬ x < 0) (hN : x.toNatClampNeg = N') (hbytes : N' * 4 ≤ 536870912) (hk : k + 1 = k') (hn : n + N' = n') (hk2 : k' ≤ R.cells) (hn2 : n' ≤ R.slots) (hd : decode cc pc = .ok (.anewarray index, 3))
    (kk : ∀ q : Nat, yG p l e R s m args below meth c D A nL k' n' Q (pc + 3) lv (.ref q :: st) (ws ++ [(q, .inl (cA, N', .inr (.inr (.inr (.inr (fun _ => none))))))])) : yG p l e R s m args below meth c D A nL k n Q pc lv (.int x :: st) ws := by
  subst hk hn
  refine fun H locs ls h1 h2 h3 h4 => va_newq Γ.1 Γ.2.1 Γ.2.2.2.1 (Γ.2.2.2.2.1 _ w1) hO Γ.2.2.2.2.2.2.1 h1 h2 h3 Γ.2.2.2.2.2.2.2.1 hx hN hbytes hk2 hn2 hd (fun q cB H1 hK h1 h2 h3 => ?_)
  have e := ya_same hK t0 ht
  subst e
  exact kk q H1 locs ls h1 h2 h3 h4
theorem g_astq {cA : ClassId} {r : vw_C} {N v ci : Nat} {vs : List Value} {f : Nat → Option Nat} {i : Int32} (Γ : yC p R s m args meth c cc nL own Ts D tys A k n) (q0 t0 : Nat) (ha : ws[q0]? = some (a, .inl (cA, N, .inr (.inr (.inr (.inr f)))))) (ht : tys[t0]? = some (cA, .object r.1)) (qk : Nat) (hv : ws[qk]? = some (v, .inr (ci, vs))) (hc : vwCl[ci]? = some r) (hin : vp_in i N) (hd : decode cc pc = .ok (.aastore, 1)) (hws : ws.set q0 (a, .inl (cA, N, .inr (.inr (.inr (.inr (fun j => if j = i.toNatClampNeg then some v else f j)))))) = ws') (kk : yG p l e R s m args below meth c D A nL k n Q (pc + 1) lv st ws') : yG p l e R s m args below meth c D A nL k n Q pc lv (.ref v :: .int i :: .ref a :: st) ws := by
  subst hws
  exact fun H locs ls h1 h2 h3 h4 => va_astq Γ.1 Γ.2.1 Γ.2.2.2.2.2.2.1 h1 h2 h3 q0 t0 qk ci ha ht hv hc hin hd (fun H locs h1 h2 h3 => kk H locs ls h1 h2 h3 h4)
theorem g_mna {ty : FieldType} {cA cy : ClassId} {x1 x2 : Int32} {K' index : Nat} {z : vp_A} (Γ : yC p R s m args meth c cc nL own Ts D tys A k n) (t0 t1 : Nat) (ht : tys[t0]? = some (cA, .array ty)) (ht1 : tys[t1]? = some (cy, ty)) (hcy : s.vm.findClass (FieldType.array ty).toString = some cy) (hO : va_AOA ty s) (w1 : Cond.classLink own index ("[" ++ (FieldType.array ty).toString) ∈ Ts) (w2 : Cond.arrayClass ty ∈ Ts) (hx1 : x1.toNatClampNeg = 6) (hx1n : ¬ x1 < 0) (hx2 : ¬ x2 < 0) (hK2 : x2.toNatClampNeg = K') (hz : ∀ c : ClassId, Jvm.Free.Multi.innerC c K' (defaultValue ty) = vp_cell c z) (hb2 : K' * componentBytes ty ≤ 536870912) (hb3 : K' ≤ 536870912) (hdf : fits ty (defaultValue ty) = true) (hdd : (defaultValue ty).isDefault = true) (hk : k + 1 + 6 = k') (hn : n + 6 + 6 * K' = n') (hk2 : k' ≤ R.cells) (hn2 : n' ≤ R.slots) (hd : decode cc pc = .ok (.multianewarray index 2, 4))
    (kk : ∀ (q : Nat) (r : Nat → Nat), yG p l e R s m args below meth c D A nL k' n' Q (pc + 4) lv (.ref q :: st) (ws ++ [(q, eQ cA 6 r), (r 0, .inl (cy, z)), (r 1, .inl (cy, z)), (r 2, .inl (cy, z)), (r 3, .inl (cy, z)), (r 4, .inl (cy, z)), (r 5, .inl (cy, z))])) : yG p l e R s m args below meth c D A nL k n Q pc lv (.int x2 :: .int x1 :: st) ws := by
  subst hk hn
  intro H locs ls h1 h2 h3 h4
  have e0 : ws ++ va_pl [] (fun _ => (.inl (cy, z) : va_E)) = ws := List.append_nil ws
  refine va_mna (X := ws) (L := []) (f := fun _ => .inl (cy, z)) Γ.1 Γ.2.1 Γ.2.2.2.1 (Γ.2.2.2.2.1 _ w1) hO (Γ.2.2.2.2.1 _ w2) hcy Γ.2.2.2.2.2.2.1 (by rw [e0]; exact h1) (by rw [e0]; exact h2) h3 Γ.2.2.2.2.2.2.2.1 hx1n hx2 hx1 hK2 (by decide) hb2 hb3 hdf hdd (by omega) (by omega) hz hd (fun q r cB H1 hinj hnl hK h1 h2 h3 => ?_)
  have e := ya_same hK t0 ht
  subst e
  have hE : ∀ i, i < 6 → vr_up (fun _ => (.inl (cy, z) : va_E)) ((List.range 6).map r) (.inl (cy, z)) (r i) = .inl (cy, z) := fun i hi => vr_up_in (List.mem_map.mpr ⟨i, List.mem_range.mpr hi, rfl⟩)
  have hw : (ws ++ [(q, .inl (cB, 6, .inr (.inr (.inr (.inr (fun i => if i < 6 then some (r i) else none))))))]) ++ va_pl ([] ++ (List.range 6).map r) (vr_up (fun _ => (.inl (cy, z) : va_E)) ((List.range 6).map r) (.inl (cy, z))) = ws ++ [(q, eQ cB 6 r), (r 0, .inl (cy, z)), (r 1, .inl (cy, z)), (r 2, .inl (cy, z)), (r 3, .inl (cy, z)), (r 4, .inl (cy, z)), (r 5, .inl (cy, z))] := by
    rw [List.append_assoc]
    refine congrArg (fun t => ws ++ t) ?_
    show (q, eQ cB 6 r) :: [(r 0, vr_up _ _ _ (r 0)), (r 1, vr_up _ _ _ (r 1)), (r 2, vr_up _ _ _ (r 2)), (r 3, vr_up _ _ _ (r 3)), (r 4, vr_up _ _ _ (r 4)), (r 5, vr_up _ _ _ (r 5))] = _
    rw [hE 0 (by decide), hE 1 (by decide), hE 2 (by decide), hE 3 (by decide), hE 4 (by decide), hE 5 (by decide)]
  rw [hw] at h1 h2
  exact kk q r H1 locs ls h1 h2 h3 h4
theorem ya_mnJ {N : Nat} : ∀ c : ClassId, Jvm.Free.Multi.innerC c N (defaultValue .long) = vp_cell c (N, .inr (.inl (fun _ => 0))) := fun c => by
  show ({ cls := c, slots := Array.replicate N (.long 0), vm := .none } : Cell) = _
  rw [arrV_new]
  rfl
theorem ya_wr_ok {α : Type} {f : Nat → α} {N : Nat} {i : Int32} {x : α} (h : ¬ (i < 0 ∨ N ≤ i.toNatClampNeg)) : ya_wr f N i x = some (ya_up f i.toNatClampNeg x) := if_neg h
theorem g_putF {index ci f N : Nat} {T : u_T} {fs : List Value} {v : Value} {ty0 : Nat → FieldType} (Γ : yC p R s m args meth c cc nL own Ts D tys A k n) (hi : meth.name = "<init>") (hF : yF Ts own index ci f own T N) (hty : ∀ k, k < N → parseFieldDescriptor (T k).2.2.1 = some (ty0 k)) (hnm : ∀ a, a < N → ∀ b, b < N → a ≠ b → (T a).2.1 ≠ (T b).2.1) (q0 : Nat) (he : ws[q0]? = some (a, .inr (ci, fs))) (hfin : (T f).2.2.2 = true) (hdecl : (T f).1 = own) (hnr : narrow (ty0 f) v = v) (hfit : fits (ty0 f) v = true) (hlen : f < fs.length) (hd : decode cc pc = .ok (.putfield index, 3)) (hws : ws.set q0 (a, .inr (ci, fs.set f v)) = ws') (kk : yG p l e R s m args below meth c D A nL k n Q (pc + 3) lv st ws') : yG p l e R s m args below meth c D A nL k n Q pc lv (v :: .ref a :: st) ws := by
  subst hws
  exact fun H locs ls h1 h2 h3 h4 => va_putF Γ.1 Γ.2.1 Γ.2.2.2.2.1 hF.2.2.1 ty0 hty hnm Γ.2.2.2.1 Γ.2.2.2.2.2.2.1 h1 h2 h3 q0 he hF.1 f hF.2.1 (Γ.2.2.2.2.1 _ hF.2.2.2) (fun _ h => h) hfin hi hdecl (hty f hF.2.1) hnr hfit hlen hd (fun H locs h1 h2 h3 => kk H locs ls h1 h2 h3 h4)
theorem g_eret {S : Type} {w : S → va_W} {Ar : Array Value} (u : S) (Γ : yC p R s m Ar meth c cc nL own Ts D tys A k n) (hr : meth.sig.returnType = none) (hd : decode cc pc = .ok (.return_, 1)) (is : List Nat) (hn : va_nd is = true) (hs : is.map (fun i => ws[i]?) = (w u).map some) : yG p l e R s m Ar below meth c D A nL k n (MQ below (yQe D tys w A) Ar s k n A) pc lv [] ws :=
  g_ws is hn hs (fun H locs ls h1 h2 h3 _ => W.vret (hlocks := Γ.2.2.2.2.2.1) Γ.1 Γ.2.1 hr (fun t ht hW => ⟨⟨u, rfl, trivial, by rw [ht]; exact h1, va_K.moved hW.alike Γ.2.2.2.2.2.2.1, h2⟩, h3.F ht⟩) h3.2.2 hd)
/-- what a caller must know of a constructor -/
def yYI (y : MethodName) (wsy : List Cond) (bytes : ByteArray) (maxL : Nat) (rm : Room) (mc ms : Nat) : Prop :=
  (∃ w9, wsy = Cond.code y bytes maxL none :: w9) ∧ rm.cells = mc ∧ rm.slots = ms ∧ y.name = "<init>" ∧ y.cls ≠ "java/lang/invoke/MethodHandle" ∧ y.cls ≠ "java/lang/invoke/VarHandle" ∧ (parseMethodDescriptor y.desc).map (fun d => d.parameters.length) = some 0
theorem y_be {S : Type} {wc wr : va_W} {w : S → va_W} {st0 : List Value} {av : Array Value} {mc ms : Nat} (Γ : yC p R s m args meth c cc nL own Ts D tys A k n) (isC isR : List Nat) (hC : isC.map (fun i => ws[i]?) = wc.map some) (hR : isR.map (fun i => ws[i]?) = wr.map some) (hn : va_nd isR = true) (hdis : ∀ i ∈ isR, i ∉ isC)
    (hrun : ∀ (H : Heap) (locs : List Loc) (ls : Array Slot), ls.size = nL → va_P D vwCl wc H → va_D A wc → va_Run p l e R s m args below meth c H locs k n mc ms (F0 m pc ls st0) st (yQe D tys w (va_A wc H.size) av) (va_A wc H.size)) (hcn : va_nd isC = true)
    (kk : ∀ u : S, yG p l e R s m args below meth c D A nL (k + mc) (n + ms) Q (pc + 3) lv st (wr ++ w u)) : yG p l e R s m args below meth c D A nL k n Q pc lv st0 ws := by
  intro H locs ls h1 h2 h3 h4
  have hF := va_free (wc := wc) h2 h3 Γ.2.2.2.2.2.2.2.1 isC hC
  refine va_callv (hrun H locs ls h4.1 (h1.subM isC hC) (h2.sub isC hcn hC)) h3 (fun q _ h => hF q h) hF (fun u t H1 locs1 ht hvm hx hB hz hk hS => ?_)
  obtain ⟨hP1, hK1, hD1⟩ := hB
  rw [ht] at hP1
  obtain ⟨hP, hD⟩ := va_join h1 h2 isC isR hC hR hn hdis hk hF hP1 hD1
  exact kk u H1 locs1 ls hP hD hS h4
theorem g_iniN {S : Type} {y : MethodName} {wsy : List Cond} {bytes : ByteArray} {maxL : Nat} {rm : Room} {index mc ms b : Nat} {wc wr : va_W} {w : S → va_W} {st0 : List Value} (Γ : yC p R s m args meth c cc nL own Ts D tys A k n) (hO : va_AO RX3 s) (hO2 : va_AOA .long s) (hM : ∀ sz : Nat, Met l y wsy rm (yPI D tys wc sz [.ref b]) (yQe D tys w (va_A wc sz)) mc ms (va_A wc sz)) (hY : yYI y wsy bytes maxL rm mc ms) (hG : GoodIn Ts wsy) (hl : (own, index, y) ∈ yNl) (hs : Cond.instanceMethod y ∈ Ts) (hi : Cond.initialized y.cls ∈ Ts) (hst : st0 = .ref b :: st) (hW : (st.map fun v => v.category).sum ≤ 8) (hRm : rm.frames + 1 ≤ R.frames ∧ 8 + (maxL + 11) + rm.locals ≤ R.locals) (hd : decode cc pc = .ok (.invokespecial index, 3)) (isC isR : List Nat) (hC : isC.map (fun i => ws[i]?) = wc.map some) (hcn : va_nd isC = true) (hR : isR.map (fun i => ws[i]?) = wr.map some) (hn : va_nd isR = true) (hdis : ∀ i ∈ isR, i ∉ isC) (hk' : k + mc = k') (hn' : n + ms = n') (hk2 : k' ≤ R.cells) (hn2 : n' ≤ R.slots)
    (kk : ∀ u : S, yG p l e R s m args below meth c D A nL k' n' Q (pc + 3) lv st (wr ++ w u)) : yG p l e R s m args below meth c D A nL k n Q pc lv st0 ws := by
  subst hk' hn'
  obtain ⟨⟨w9, hw⟩, hr1, hr2, hni, hd1, hd2, hd3⟩ := hY
  refine y_be (av := (Value.ref b :: []).toArray) Γ isC isR hC hR hn hdis (fun H locs ls hls hP hD => ?_) hcn kk
  exact va_runIN (As := []) ⟨Γ.1, Γ.2.1, Γ.2.2.1, Γ.2.2.2.1, Γ.2.2.2.2.1⟩ (hM H.size) ⟨va_cnB 0 Γ.2.2.2.2.1 hG hw hr1 hr2 (Γ.2.2.2.2.2.2.2.2.2.2 _ hl) (Γ.2.2.2.2.1 _ hi) ⟨hd1, hd2, hd3⟩ hRm, hni, Γ.2.2.2.2.1 _ hs⟩ (yPI_preS Γ.2.2.2.2.2.2.2.2.2.2 hO hO2 Γ.2.2.2.2.2.2.1 hP hD) rfl rfl hls hst (lv_room hW) hd ⟨hk2, hn2⟩
theorem g_iniP {S : Type} {y : MethodName} {wsy : List Cond} {bytes : ByteArray} {maxL : Nat} {rm : Room} {index mc ms b : Nat} {wc wr : va_W} {w : S → va_W} {st0 : List Value} (Γ : yC p R s m args meth c cc nL own Ts D tys A k n) (hO : va_AO RX3 s) (hO2 : va_AOA .long s) (hM : ∀ sz : Nat, Met l y wsy rm (yPI D tys wc sz [.ref b]) (yQe D tys w (va_A wc sz)) mc ms (va_A wc sz)) (hY : yYI y wsy bytes maxL rm mc ms) (hG : GoodIn Ts wsy) (hl : Cond.methodLink own index y ∈ Ts) (hs : Cond.instanceMethod y ∈ Ts) (hi : Cond.initialized y.cls ∈ Ts) (hst : st0 = .ref b :: st) (hW : (st.map fun v => v.category).sum ≤ 8) (hRm : rm.frames + 1 ≤ R.frames ∧ 8 + (maxL + 11) + rm.locals ≤ R.locals) (hd : decode cc pc = .ok (.invokespecial index, 3)) (isC isR : List Nat) (hC : isC.map (fun i => ws[i]?) = wc.map some) (hcn : va_nd isC = true) (hR : isR.map (fun i => ws[i]?) = wr.map some) (hn : va_nd isR = true) (hdis : ∀ i ∈ isR, i ∉ isC) (hk' : k + mc = k') (hn' : n + ms = n') (hk2 : k' ≤ R.cells) (hn2 : n' ≤ R.slots)
    (kk : ∀ u : S, yG p l e R s m args below meth c D A nL k' n' Q (pc + 3) lv st (wr ++ w u)) : yG p l e R s m args below meth c D A nL k n Q pc lv st0 ws := by
  subst hk' hn'
  obtain ⟨⟨w9, hw⟩, hr1, hr2, hni, hd1, hd2, hd3⟩ := hY
  refine y_be (av := (Value.ref b :: []).toArray) Γ isC isR hC hR hn hdis (fun H locs ls hls hP hD => ?_) hcn kk
  exact va_runI (As := []) ⟨Γ.1, Γ.2.1, Γ.2.2.1, Γ.2.2.2.1, Γ.2.2.2.2.1⟩ (hM H.size) ⟨callB_of 0 Γ.2.2.2.2.1 hG hw hr1 hr2 (Γ.2.2.2.2.1 _ hi) (Γ.2.2.2.2.1 _ hl) ⟨hd1, hd2, hd3⟩ hRm, hni, Γ.2.2.2.2.1 _ hs⟩ (yPI_preS Γ.2.2.2.2.2.2.2.2.2.2 hO hO2 Γ.2.2.2.2.2.2.1 hP hD) rfl rfl hls hst (lv_room hW) hd ⟨hk2, hn2⟩
/-- the same world, told otherwise -/
theorem g_weq (h : ws = ws') (kk : yG p l e R s m args below meth c D A nL k n Q pc lv st ws') : yG p l e R s m args below meth c D A nL k n Q pc lv st ws := h ▸ kk
end YA
