/-! ===== the reference's heaps; heap ===== -/
/-- what the reference's queries read of a flow -/
def Mb (F R : Nat) (fr tt b : Nat → Int32) : Prop := b 1 = nI F ∧ ∀ f, f < F → b (2 + 24 * f + 0) = fr f ∧ b (2 + 24 * f + 1) = tt f ∧ b (2 + 24 * f + 2) = (if R.testBit f then 1 else 0)
theorem RelW.mb {K F R : Nat} {kn fl rs : Int32} {fr tt rd ms pr kd ln sh b : Nat → Int32} (h : RelW K F R kn fl rs fr tt rd ms pr kd ln sh b) : Mb F R fr tt b :=
  ⟨h.2.2.2.2.2.2.2.2.1, fun f hf => ⟨(h.2.2.2.2.2.2.2.2.2 f hf).2.1, (h.2.2.2.2.2.2.2.2.2 f hf).2.2.1, (h.2.2.2.2.2.2.2.2.2 f hf).2.2.2.1⟩⟩
def eA (fr : Nat → Int32) (f : Nat) : Nat := (fr f).toNatClampNeg
theorem RelW.ends {K F R : Nat} {kn fl rs : Int32} {fr tt rd ms pr kd ln sh b : Nat → Int32} (h : RelW K F R kn fl rs fr tt rd ms pr kd ln sh b) : Ends F fr tt (eA fr) (eA tt) := fun f hf => by
  obtain ⟨a, c, ha, hc, hac, e1, e2⟩ := (h.2.2.2.2.2.2.2.2.2 f hf).1
  have hK := h.2.1
  unfold eA
  rw [e1, e2, nI_clamp (by omega), nI_clamp (by omega)]
  exact ⟨by omega, by omega, hac, rfl, rfl⟩
theorem pu_isRead {F R f : Nat} {fr tt b : Nat → Int32} (hF : F ≤ 10) (hM : Mb F R fr tt b) (hf : f < F) : fX5_isRead b (nI f) = some (if R.testBit f then 1 else 0) := by
  unfold fX5_isRead
  rw [pu_get (f := f) (x := 2) 2 rfl (by omega), Option.bind_some, (hM.2 f hf).2.2]
  by_cases h : R.testBit f = true
  · rw [if_pos h, if_pos rfl]
  · rw [if_neg h, if_neg (by decide)]
/-- one flow of a round of the reference's heaps -/
theorem pu_h31 {N F R i n : Nat} {y1 : Int32} {fr tt b l : Nat → Int32} {a c L : Nat → Nat} (hN : 5000 ≤ N) (hF : F ≤ 10) (hM : Mb F R fr tt b) (hE : Ends F fr tt a c) (hi : i < F) (hL : Lr l L) (hle : ∀ k, L k ≤ k) : ∃ l', fX5_heaps_L31 N (n + 1) y1 (nI i) b l = fX5_heaps_L31 N n y1 (nI (i + 1)) b l' ∧ Lr l' (if R.testBit i then L else jn L (a i) (c i)) := by
  obtain ⟨g1, g2, -, e1, e2⟩ := hE i hi
  obtain ⟨m0, m1, -⟩ := hM.2 i hi
  have h3 := hle (a i)
  have h4 := hle (c i)
  have eu : fX5_heaps_L31 N (n + 1) y1 (nI i) b l = ((fX5_flows b).bind fun v9 => (if v9 ≤ nI i then some l else (fX5_isRead b (nI i)).bind fun v12 => (if v12 = 0 then (fX5_get b (nI i) 0).bind fun v15 => (ya_rd l 6 v15).bind fun v17 => (fX5_get b (nI i) 1).bind fun v19 => (ya_rd l 6 v19).bind fun v21 => (fX5_heaps_L78 N N y1 (nI i) v17 v21 0 l).bind fun v51 => ya_lt (nI i + 1) fun v53 => fX5_heaps_L31 N n y1 v53 b v51 else ya_lt (nI i + 1) fun v55 => fX5_heaps_L31 N n y1 v55 b l))) := rfl
  rw [eu, pu_flows, hM.1, Option.bind_some, if_neg (nI_ge hi (by omega)), pu_isRead hF hM hi, Option.bind_some]
  by_cases h : R.testBit i = true
  · rw [if_pos h, if_neg (show ¬ (1 : Int32) = 0 by decide), pu_lt, nI_1, if_pos h]
    exact ⟨l, rfl, hL⟩
  · rw [if_neg h, if_pos rfl, if_neg h, pu_get (f := i) (x := 0) 0 rfl (by omega), Option.bind_some, m0, e1, pu_rd g1 (by decide), Option.bind_some, pu_get (f := i) (x := 1) 1 rfl (by omega), Option.bind_some, m1, e2, pu_rd g2 (by decide), Option.bind_some, hL _ g1, hL _ g2, show (0 : Int32) = nI 0 from rfl, pu_heaps78 (by omega) (by omega) N 0 l (by decide) (by omega), Option.bind_some, pu_lt, nI_1]
    refine ⟨_, rfl, fun k hk => ?_⟩
    have h5 := hle k
    rw [hL k hk]
    unfold jn
    by_cases hq : L k = max (L (a i)) (L (c i))
    · rw [if_pos hq, if_pos ⟨Nat.zero_le _, hk, by rw [hq]⟩]
    · rw [if_neg hq, if_neg (fun q => hq ((nI_eq (by omega) (by omega)).mp q.2.2))]
theorem pu_h31end {N F n : Nat} {y1 : Int32} {b l : Nat → Int32} (hF : F ≤ 10) (hb : b 1 = nI F) : fX5_heaps_L31 N (n + 1) y1 (nI F) b l = some l := by
  unfold fX5_heaps_L31
  rw [pu_flows, hb, Option.bind_some, if_pos (nI_le (Nat.le_refl _) (by omega))]
