section YL
variable {p : Program} {l : Launch} {e : Env} {R : Room} {s : State} {m : MethodId} {args : Array Value} {below : List Frame} {meth : Method} {c : Code} {k n : Nat} {Q : State → Prop}
variable {cc : ByteArray} {nL : Nat} {own : String} {Ts : List Cond} {D : va_G} {tys : List (ClassId × FieldType)} {A : Nat → Prop} {pc : Nat} {lv lv' : List (Nat × Value)} {st : List Value} {ws ws' : va_W} {a : Nat}
theorem ya_if1 {α : Type} {c : Prop} [Decidable c] {X Y : Option α} {o : α} (h : c) (hf : (if c then X else Y) = some o) : X = some o := by rw [if_pos h] at hf; exact hf
theorem ya_if2 {α : Type} {c : Prop} [Decidable c] {X Y : Option α} {o : α} (h : ¬ c) (hf : (if c then X else Y) = some o) : Y = some o := by rw [if_neg h] at hf; exact hf
theorem ya_six {P : Nat → Prop} (h0 : P 0) (h1 : P 1) (h2 : P 2) (h3 : P 3) (h4 : P 4) (h5 : P 5) : ∀ i, i < 6 → P i := fun i hi => by
  match i, hi with
  | 0, _ => exact h0
  | 1, _ => exact h1
  | 2, _ => exact h2
  | 3, _ => exact h3
  | 4, _ => exact h4
  | 5, _ => exact h5
/-- an index that is in its row -/
def ya_ix (n : Nat) (i : Int32) : Option Nat := if i < 0 ∨ n ≤ i.toNatClampNeg then none else some i.toNatClampNeg
theorem ya_ix_inv {n j : Nat} {i : Int32} (h : ya_ix n i = some j) : vp_in i n ∧ i.toNatClampNeg = j := by
  unfold ya_ix at h
  split at h
  · cases h
  · exact ⟨‹_›, Option.some.inj h⟩
theorem ya_ix_lt {n j : Nat} {i : Int32} (h : ya_ix n i = some j) : j < n := by
  obtain ⟨h1, rfl⟩ := ya_ix_inv h
  exact Nat.not_le.mp fun q => h1 (Or.inr q)
theorem g_nmi {x v : Int32} (h : x = v) (kk : yG p l e R s m args below meth c D A nL k n Q pc lv (.int x :: st) ws) : yG p l e R s m args below meth c D A nL k n Q pc lv (.int v :: st) ws := h ▸ kk
theorem g_nml {x v : Int64} (h : x = v) (kk : yG p l e R s m args below meth c D A nL k n Q pc lv (.long x :: st) ws) : yG p l e R s m args below meth c D A nL k n Q pc lv (.long v :: st) ws := h ▸ kk
theorem g_ldcw (Γ : yC p R s m args meth c cc nL own Ts D tys A k n) {x : Nat} {v : Int32} (hd : decode cc pc = .ok (.ldc_w x, 3)) (hw : Cond.constant own x v ∈ Ts) (kk : yG p l e R s m args below meth c D A nL k n Q (pc + 3) lv (.int v :: st) ws) : yG p l e R s m args below meth c D A nL k n Q pc lv st ws :=
  fun H locs ls h1 h2 h3 h4 => lv_ldcw Γ.1 Γ.2.1 Γ.2.2.2.1 (Γ.2.2.2.2.1 _ hw) hd (kk H locs ls h1 h2 h3 h4)
theorem g_tableIn {dflt lo hi off : Int} {offs : Array Int} {len : Nat} {x v : Int32} (Γ : yC p R s m args meth c cc nL own Ts D tys A k n) (tgt : Nat) (hd : decode cc pc = .ok (.tableswitch dflt lo hi offs, len)) (h : x = v) (h1 : ¬ v.toInt < lo) (h2 : ¬ hi < v.toInt) (ho : offs[(v.toInt - lo).toNat]? = some off) (ht : (pc : Int) + off = (tgt : Int)) (kk : yG p l e R s m args below meth c D A nL k n Q tgt lv st ws) : yG p l e R s m args below meth c D A nL k n Q pc lv (.int x :: st) ws := by
  subst h
  exact fun H locs ls g1 g2 g3 g4 => lv_tableIn Γ.1 Γ.2.1 hd h1 h2 ho ht (kk H locs ls g1 g2 g3 g4)
theorem g_tableOut {dflt lo hi : Int} {offs : Array Int} {len : Nat} {x : Int32} (Γ : yC p R s m args meth c cc nL own Ts D tys A k n) (tgt : Nat) (hd : decode cc pc = .ok (.tableswitch dflt lo hi offs, len)) (h : x.toInt < lo ∨ hi < x.toInt) (ht : (pc : Int) + dflt = (tgt : Int)) (kk : yG p l e R s m args below meth c D A nL k n Q tgt lv st ws) : yG p l e R s m args below meth c D A nL k n Q pc lv (.int x :: st) ws :=
  fun H locs ls g1 g2 g3 g4 => lv_tableOut Γ.1 Γ.2.1 hd h ht (kk H locs ls g1 g2 g3 g4)
theorem ya_ne {x : Int32} (v : Int32) (h : ¬ x = v) : x.toInt ≠ v.toInt := fun e => h (Int32.toInt_inj.mp e)
theorem ya_out6 {x : Int32} (h0 : ¬ x = 0) (h1 : ¬ x = 1) (h2 : ¬ x = 2) (h3 : ¬ x = 3) (h4 : ¬ x = 4) (h5 : ¬ x = 5) (h6 : ¬ x = 6) : x.toInt < 0 ∨ 6 < x.toInt := by
  have a0 : x.toInt ≠ 0 := ya_ne 0 h0
  have a1 : x.toInt ≠ 1 := ya_ne 1 h1
  have a2 : x.toInt ≠ 2 := ya_ne 2 h2
  have a3 : x.toInt ≠ 3 := ya_ne 3 h3
  have a4 : x.toInt ≠ 4 := ya_ne 4 h4
  have a5 : x.toInt ≠ 5 := ya_ne 5 h5
  have a6 : x.toInt ≠ 6 := ya_ne 6 h6
  omega
theorem ya_out7 {x : Int32} (h0 : ¬ x = 0) (h1 : ¬ x = 1) (h2 : ¬ x = 2) (h3 : ¬ x = 3) (h4 : ¬ x = 4) (h5 : ¬ x = 5) (h6 : ¬ x = 6) (h7 : ¬ x = 7) : x.toInt < 0 ∨ 7 < x.toInt := by
  have := ya_out6 h0 h1 h2 h3 h4 h5 h6
  have a7 : x.toInt ≠ 7 := ya_ne 7 h7
  omega
theorem g_mmin {x y : Int32} {index : Nat} (Γ : yC p R s m args meth c cc nL own Ts D tys A k n) (w1 : Cond.methodLink own index Lib.Math.min.name ∈ Ts) (w2 : Cond.static Lib.Math.min.name ∈ Ts) (w3 : Cond.initialized "java/lang/Math" ∈ Ts) (w4 : Cond.code Lib.Math.min.name Lib.Math.min.code 2 (some .int) ∈ Ts) (hf : 1 ≤ R.frames) (hl : (st.map fun v => v.category).sum + 13 ≤ R.locals) (hd : decode cc pc = .ok (.invokestatic index, 3)) (kk : yG p l e R s m args below meth c D A nL k n Q (pc + 3) lv (.int (if y < x then y else x) :: st) ws) : yG p l e R s m args below meth c D A nL k n Q pc lv (.int y :: .int x :: st) ws :=
  fun H locs ls h1 h2 h3 h4 => va_mmin Γ.1 Γ.2.1 (Γ.2.2.1.trans h4.1.symm) Γ.2.2.2.1 (Γ.2.2.2.2.1 _ w1) (Γ.2.2.2.2.1 _ w2) (Γ.2.2.2.2.1 _ w3) (Γ.2.2.2.2.1 _ w4) hf hl Γ.2.2.2.2.2.2.2.2.1 Γ.2.2.2.2.2.2.2.2.2.1 hd (kk H locs ls h1 h2 h3 h4)
theorem g_mmax {x y : Int32} {index : Nat} (Γ : yC p R s m args meth c cc nL own Ts D tys A k n) (w1 : Cond.methodLink own index Lib.Math.max.name ∈ Ts) (w2 : Cond.static Lib.Math.max.name ∈ Ts) (w3 : Cond.initialized "java/lang/Math" ∈ Ts) (w4 : Cond.code Lib.Math.max.name Lib.Math.max.code 2 (some .int) ∈ Ts) (hf : 1 ≤ R.frames) (hl : (st.map fun v => v.category).sum + 13 ≤ R.locals) (hd : decode cc pc = .ok (.invokestatic index, 3)) (kk : yG p l e R s m args below meth c D A nL k n Q (pc + 3) lv (.int (if x < y then y else x) :: st) ws) : yG p l e R s m args below meth c D A nL k n Q pc lv (.int y :: .int x :: st) ws :=
  fun H locs ls h1 h2 h3 h4 => va_mmax Γ.1 Γ.2.1 (Γ.2.2.1.trans h4.1.symm) Γ.2.2.2.1 (Γ.2.2.2.2.1 _ w1) (Γ.2.2.2.2.1 _ w2) (Γ.2.2.2.2.1 _ w3) (Γ.2.2.2.2.1 _ w4) hf hl Γ.2.2.2.2.2.2.2.2.1 Γ.2.2.2.2.2.2.2.2.2.1 hd (kk H locs ls h1 h2 h3 h4)
theorem g_mabsl {x : Int64} {index : Nat} (Γ : yC p R s m args meth c cc nL own Ts D tys A k n) (w1 : Cond.methodLink own index Lib.MathLoose.abs_long.x ∈ Ts) (w2 : Cond.static Lib.MathLoose.abs_long.x ∈ Ts) (w3 : Cond.initialized "java/lang/Math" ∈ Ts) (w4 : Cond.code Lib.MathLoose.abs_long.x Lib.MathLoose.abs_long.code 2 (some .long) ∈ Ts) (hf : 1 ≤ R.frames) (hl : (st.map fun v => v.category).sum + 13 ≤ R.locals) (hd : decode cc pc = .ok (.invokestatic index, 3)) (kk : yG p l e R s m args below meth c D A nL k n Q (pc + 3) lv (.long (if 0 < x then x else -x) :: st) ws) : yG p l e R s m args below meth c D A nL k n Q pc lv (.long x :: st) ws :=
  fun H locs ls h1 h2 h3 h4 => va_mabs_long Γ.1 Γ.2.1 (Γ.2.2.1.trans h4.1.symm) Γ.2.2.2.1 (Γ.2.2.2.2.1 _ w1) (Γ.2.2.2.2.1 _ w2) (Γ.2.2.2.2.1 _ w3) (Γ.2.2.2.2.1 _ w4) hf hl Γ.2.2.2.2.2.2.2.2.1 Γ.2.2.2.2.2.2.2.2.2.1 hd (kk H locs ls h1 h2 h3 h4)
theorem g_copyi {a0 : Nat} {cA : ClassId} {L : Nat} {f g h9 : Nat → Int32} {index : Nat} {nn : Int32} (Γ : yC p R s m args meth c cc nL own Ts D tys A k n) (w1 : Cond.methodLink own index arraycopyName ∈ Ts) (w2 : Cond.native arraycopyName ∈ Ts) (w3 : Cond.static arraycopyName ∈ Ts) (w4 : Cond.initialized "java/lang/System" ∈ Ts) (q0 q1 t0 : Nat) (he0 : ws[q0]? = some (a0, .inl (cA, L, .inl f))) (he1 : ws[q1]? = some (a, .inl (cA, L, .inl g))) (ht : tys[t0]? = some (cA, .int)) (hn0 : ¬ nn < 0) (hnL : nn.toNatClampNeg = L) (hfr : 1 ≤ R.frames) (hlc : (st.map fun v => v.category).sum + (nativeFrameWords "java/lang/System" "arraycopy" 5 + 11) ≤ R.locals) (hg : h9 = va_cpy f g 0 0 L) (hd : decode cc pc = .ok (.invokestatic index, 3)) (hws : ws.set q1 (a, .inl (cA, L, .inl h9)) = ws') (kk : yG p l e R s m args below meth c D A nL k n Q (pc + 3) lv st ws') : yG p l e R s m args below meth c D A nL k n Q pc lv (.int nn :: .int 0 :: .ref a :: .int 0 :: .ref a0 :: st) ws := by
  subst hws hg hnL
  exact fun H locs ls h1 h2 h3 h4 => va_copyi Γ.1 Γ.2.1 (Γ.2.2.1.trans h4.1.symm) Γ.2.2.2.1 (Γ.2.2.2.2.1 _ w1) (Γ.2.2.2.2.1 _ w2) (Γ.2.2.2.2.1 _ w3) (Γ.2.2.2.2.1 _ w4) Γ.2.2.2.2.2.2.1 h1 h2 h3 q0 q1 t0 t0 he0 he1 ht ht rfl (by decide) (by decide) hn0 (by show 0 + _ ≤ _; omega) (by show 0 + _ ≤ _; omega) (fun i _ => rfl) hfr hlc hd (fun H locs h1 h2 h3 => kk H locs ls h1 h2 h3 h4)
/-! the rows of a matrix: an array of six arrays -/
theorem g_aldR {cA : ClassId} {N j : Nat} {F : Nat → Nat} {i : Int32} {ty : FieldType} (Γ : yC p R s m args meth c cc nL own Ts D tys A k n) (hv : ya_ix N i = some j) (q0 t0 : Nat) (he : ws[q0]? = some (a, eQ cA N F)) (ht : tys[t0]? = some (cA, .array ty)) (hd : decode cc pc = .ok (.aaload, 1)) (kk : yG p l e R s m args below meth c D A nL k n Q (pc + 1) lv (.ref (F j) :: st) ws) : yG p l e R s m args below meth c D A nL k n Q pc lv (.int i :: .ref a :: st) ws := by
  have hlt := ya_ix_lt hv
  obtain ⟨hin, rfl⟩ := ya_ix_inv hv
  intro H locs ls h1 h2 h3 h4
  have h5 := kk H locs ls h1 h2 h3 h4
  refine W.aald (v := va_rf (if i.toNatClampNeg < N then some (F i.toNatClampNeg) else none)) (ty := .array ty) Γ.1 Γ.2.1 (h1 q0 _ he) ((Γ.2.2.2.2.2.2.1.2 t0 _ ht).1 N (fun j => va_rf (if j < N then some (F j) else none))) rfl (fun q => by cases q) (by show ¬ (i < 0 ∨ (arrV _ _ _).slots.size ≤ _); rw [arrV_size]; exact hin) (by show (arrV _ _ _).slots[_]? = _; rw [arrV_read _ _ hlt]) rfl rfl hd ?_
  rw [if_pos hlt]
  exact h5
theorem g_aldQ {cA : ClassId} {N j : Nat} {F : Nat → Nat} {i : Int32} {C : String} (Γ : yC p R s m args meth c cc nL own Ts D tys A k n) (hv : ya_ix N i = some j) (q0 t0 : Nat) (he : ws[q0]? = some (a, eQ cA N F)) (ht : tys[t0]? = some (cA, .object C)) (hd : decode cc pc = .ok (.aaload, 1)) (kk : yG p l e R s m args below meth c D A nL k n Q (pc + 1) lv (.ref (F j) :: st) ws) : yG p l e R s m args below meth c D A nL k n Q pc lv (.int i :: .ref a :: st) ws := by
  have hlt := ya_ix_lt hv
  obtain ⟨hin, rfl⟩ := ya_ix_inv hv
  intro H locs ls h1 h2 h3 h4
  refine va_aldq Γ.1 Γ.2.1 Γ.2.2.2.2.2.2.1 h1 q0 t0 he ht hin hd ?_
  rw [if_pos hlt]
  exact kk H locs ls h1 h2 h3 h4
theorem g_laldR {cA : ClassId} {N j : Nat} {F : Nat → Nat} {M : Nat → Nat → Int64} {i : Int32} {v : Int64} (Γ : yC p R s m args meth c cc nL own Ts D tys A k n) (hv : ya_rd (M j) N i = some v) (hj : j < 6) (q0 t0 : Nat) (he : ∀ j, j < 6 → ws[q0 + j]? = some (F j, eJ cA N (M j))) (ht : tys[t0]? = some (cA, .long)) (hd : decode cc pc = .ok (.laload, 1)) (kk : yG p l e R s m args below meth c D A nL k n Q (pc + 1) lv (.long v :: st) ws) : yG p l e R s m args below meth c D A nL k n Q pc lv (.int i :: .ref (F j) :: st) ws :=
  g_lald Γ hv (q0 + j) t0 (he j hj) ht hd kk
theorem g_lastR {cA : ClassId} {N j : Nat} {F : Nat → Nat} {M : Nat → Nat → Int64} {i : Int32} {x : Int64} {g : Nat → Int64} (Γ : yC p R s m args meth c cc nL own Ts D tys A k n) (hv : ya_wr (M j) N i x = some g) (hj : j < 6) (q0 t0 : Nat) (he : ∀ j, j < 6 → ws[q0 + j]? = some (F j, eJ cA N (M j))) (ht : tys[t0]? = some (cA, .long)) (hd : decode cc pc = .ok (.lastore, 1))
    (w0 : j = 0 → ws.set (q0 + 0) (F 0, eJ cA N g) = ws') (w1 : j = 1 → ws.set (q0 + 1) (F 1, eJ cA N g) = ws') (w2 : j = 2 → ws.set (q0 + 2) (F 2, eJ cA N g) = ws') (w3 : j = 3 → ws.set (q0 + 3) (F 3, eJ cA N g) = ws') (w4 : j = 4 → ws.set (q0 + 4) (F 4, eJ cA N g) = ws') (w5 : j = 5 → ws.set (q0 + 5) (F 5, eJ cA N g) = ws')
    (kk : yG p l e R s m args below meth c D A nL k n Q (pc + 1) lv st ws') : yG p l e R s m args below meth c D A nL k n Q pc lv (.long x :: .int i :: .ref (F j) :: st) ws :=
  g_last Γ hv (q0 + j) t0 (he j hj) ht hd (ya_six (P := fun i => j = i → ws.set (q0 + i) (F i, eJ cA N g) = ws') w0 w1 w2 w3 w4 w5 j hj rfl) kk
end YL
