/-! ===== the numbers of a fit stay small ===== -/
theorem sm_absI {f : Nat → Int} (n : Nat) : ((sm n f).natAbs : Int) ≤ sm n (fun c => ((f c).natAbs : Int)) := by
  have h1 := sm_abs (f := f) n
  have h2 := sm_nonneg (f := fun c => ((f c).natAbs : Int)) n (fun c _ => by omega)
  omega
theorem sm_grow {f : Nat → Int} (h : ∀ c, 0 ≤ f c) (m : Nat) : ∀ d, sm m f ≤ sm (m + d) f
  | 0 => Int.le_refl _
  | d + 1 => by
    have h1 := sm_grow h m d
    have h2 := h (m + d)
    show sm m f ≤ sm (m + d) f + f (m + d)
    omega
theorem sm_const (x : Int) : ∀ n : Nat, sm n (fun _ => x) = n * x
  | 0 => by simp [sm]
  | n + 1 => by
    rw [sm_succ, sm_const x n]
    grind
theorem sm_indb {m i0 : Nat} {b : Bool} : sm m (fun i => if b = true ∧ i = i0 then 1 else 0) ≤ 1 := by
  have h := sm_ind (v := fun _ => 1) (m := m) (i0 := i0) (b := b)
  simp only [Int.mul_one] at h
  rw [h]
  split <;> omega
section
variable {hr : Nat → Bool} {L a c : Nat → Nat} {F : Nat} {mv rv : Nat → Int}
theorem wF_abs (f i : Nat) : ((wF hr L a c f i).natAbs : Int) ≤ 1 := by
  unfold wF
  split <;> split <;> decide
theorem wF_sum (f m : Nat) : sm m (fun i => ((wF hr L a c f i).natAbs : Int)) ≤ 2 := by
  have h1 := sm_le (f := fun i => ((wF hr L a c f i).natAbs : Int)) (g := fun i => (if hr (L (a f)) = true ∧ i = plc hr (L (a f)) then 1 else 0) + (if hr (L (c f)) = true ∧ i = plc hr (L (c f)) then 1 else 0)) m (fun i _ => by
    unfold wF
    split <;> split <;> decide)
  rw [sm_add] at h1
  have h2 := sm_indb (m := m) (i0 := plc hr (L (a f))) (b := hr (L (a f)))
  have h3 := sm_indb (m := m) (i0 := plc hr (L (c f))) (b := hr (L (c f)))
  omega
def tF (hr : Nat → Bool) (L a c : Nat → Nat) (F : Nat) (mv : Nat → Int) (i : Nat) : Int := sm F (fun f => 2 * (mv f * ((wF hr L a c f i).natAbs : Int)))
def BF (hr : Nat → Bool) (L a c : Nat → Nat) (F : Nat) (mv : Nat → Int) (i : Nat) : Nat := 1 + (tF hr L a c F mv i).toNat
theorem tF_nonneg (hmv : ∀ f, f < F → 1 ≤ mv f ∧ mv f ≤ 4) (i : Nat) : 0 ≤ tF hr L a c F mv i := sm_nonneg F (fun f hf => by
  have := Int.mul_nonneg (show 0 ≤ mv f by have := (hmv f hf).1; omega) (show 0 ≤ ((wF hr L a c f i).natAbs : Int) by omega)
  omega)
theorem aF_abs (hmv : ∀ f, f < F → 1 ≤ mv f ∧ mv f ≤ 4) {i b : Nat} (hb : b ≠ 6) : ((aF hr L a c F mv rv i b).natAbs : Int) ≤ sm F (fun f => mv f * (((wF hr L a c f i).natAbs : Int) * ((wF hr L a c f b).natAbs : Int))) := by
  unfold aF
  rw [if_neg hb]
  refine Int.le_trans (sm_absI F) (sm_le F (fun f hf => ?_))
  rw [Int.natAbs_mul, Int.natAbs_mul, Int.natCast_mul, Int.natCast_mul]
  have := (hmv f hf).1
  rw [show ((mv f).natAbs : Int) = mv f by omega]
  exact Int.le_refl _
theorem aF_row (hmv : ∀ f, f < F → 1 ≤ mv f ∧ mv f ≤ 4) {n : Nat} (hn : n ≤ 6) (i : Nat) : sm n (fun j => ((aF hr L a c F mv rv i j).natAbs : Int)) ≤ tF hr L a c F mv i := by
  refine Int.le_trans (sm_le n (fun j hj => aF_abs hmv (by omega))) ?_
  rw [sm_comm]
  refine sm_le F (fun f hf => ?_)
  have h1 := (hmv f hf).1
  have e : sm n (fun j => mv f * (((wF hr L a c f i).natAbs : Int) * ((wF hr L a c f j).natAbs : Int))) = (mv f * ((wF hr L a c f i).natAbs : Int)) * sm n (fun j => ((wF hr L a c f j).natAbs : Int)) := by
    rw [← sm_mul]
    exact sm_congr n (fun j _ => by grind)
  rw [e]
  have h2 := Int.mul_nonneg (show 0 ≤ mv f by omega) (show 0 ≤ ((wF hr L a c f i).natAbs : Int) by omega)
  have h3 := Int.mul_le_mul_of_nonneg_left (wF_sum (hr := hr) (L := L) (a := a) (c := c) f n) h2
  omega
/-- the sum of a column -/
theorem aF_col (hF : F ≤ 10) (hmv : ∀ f, f < F → 1 ≤ mv f ∧ mv f ≤ 4) (hrv : ∀ f, f < F → -2000 ≤ rv f ∧ rv f ≤ 2000) (m b : Nat) : sm m (fun k => ((aF hr L a c F mv rv k b).natAbs : Int)) ≤ 40000 := by
  have hmul : ∀ (x : Int) (f : Nat), 0 ≤ x → x * sm m (fun k => ((wF hr L a c f k).natAbs : Int)) ≤ x * 2 := fun x f hx => Int.mul_le_mul_of_nonneg_left (wF_sum f m) hx
  have hfin : ∀ g : Nat → Int, (∀ f, f < F → g f ≤ 4000) → sm F g ≤ 40000 := fun g hg => by
    have h1 := sm_le (g := fun _ => 4000) F hg
    rw [sm_const] at h1
    omega
  by_cases hb : b = 6
  · have h1 : sm m (fun k => ((aF hr L a c F mv rv k b).natAbs : Int)) ≤ sm m (fun k => sm F (fun f => ((rv f).natAbs : Int) * ((wF hr L a c f k).natAbs : Int))) := sm_le m (fun k _ => by
      unfold aF
      rw [if_pos hb]
      refine Int.le_trans (sm_absI F) (sm_le F (fun f _ => ?_))
      rw [Int.natAbs_mul, Int.natCast_mul]
      exact Int.le_refl _)
    rw [sm_comm] at h1
    refine Int.le_trans h1 (hfin _ (fun f hf => ?_))
    rw [sm_mul]
    have h2 := hmul ((rv f).natAbs : Int) f (by omega)
    have h3 := hrv f hf
    omega
  · have h1 : sm m (fun k => ((aF hr L a c F mv rv k b).natAbs : Int)) ≤ sm m (fun k => sm F (fun f => mv f * ((wF hr L a c f b).natAbs : Int) * ((wF hr L a c f k).natAbs : Int))) := sm_le m (fun k _ => by
      refine Int.le_trans (aF_abs hmv hb) (sm_le F (fun f _ => ?_))
      rw [Int.mul_comm ((wF hr L a c f k).natAbs : Int), Int.mul_assoc]
      exact Int.le_refl _)
    rw [sm_comm] at h1
    refine Int.le_trans h1 (hfin _ (fun f hf => ?_))
    rw [sm_mul]
    obtain ⟨h3, h4⟩ := hmv f hf
    have h5 := wF_abs (hr := hr) (L := L) (a := a) (c := c) f b
    have h6 := Int.mul_nonneg (show 0 ≤ mv f by omega) (show 0 ≤ ((wF hr L a c f b).natAbs : Int) by omega)
    have h2 := hmul (mv f * ((wF hr L a c f b).natAbs : Int)) f h6
    have h7 := Int.mul_le_mul_of_nonneg_left h5 (show 0 ≤ mv f by omega)
    omega
theorem D_unit {n k : Nat} {M : Nat → Nat → Int} {r : Nat → Int} (hk : k < n) : ∀ m, m ≤ n → D n (cr M k (fun i => if i < m then r i else 0)) = sm m (fun j => r j * D n (cr M k (fun i => if i = j then 1 else 0)))
  | 0, _ => by
    rw [D_congr n (M' := cr M k (fun _ => 0)) (fun i j _ _ => by
      unfold cr
      split
      · exact if_neg (Nat.not_lt_zero i)
      · rfl)]
    exact D_zero hk
  | m + 1, h => by
    rw [sm_succ, ← D_unit hk m (by omega)]
    have := D_lin n M k (fun i => if i < m then r i else 0) (fun i => if i = m then 1 else 0) 1 (r m) hk
    rw [Int.one_mul] at this
    rw [← this]
    refine congrArg (D n) (congrArg (cr M k) (funext fun i => ?_))
    by_cases e : i = m
    · rw [if_pos (by omega), if_neg (by omega), if_pos e, e]
      omega
    · by_cases e2 : i < m
      · rw [if_pos (by omega), if_pos e2, if_neg e]
        omega
      · rw [if_neg (by omega), if_neg e2, if_neg e]
        omega
theorem Em_bound (hF : F ≤ 10) (hmv : ∀ f, f < F → 1 ≤ mv f ∧ mv f ≤ 4) (hrv : ∀ f, f < F → -2000 ≤ rv f ∧ rv f ≤ 2000) {m k : Nat} (hm : m ≤ 6) (hk : k < m) (b : Nat) : (Em (aF hr L a c F mv rv) m k b).natAbs ≤ 40000 * pd m (BF hr L a c F mv) := by
  have h1 : Em (aF hr L a c F mv rv) m k b = sm m (fun j => aF hr L a c F mv rv j b * D m (cr (aF hr L a c F mv rv) k (fun i => if i = j then 1 else 0))) := by
    rw [← D_unit hk m (Nat.le_refl m)]
    unfold Em
    refine D_congr m (fun i j hi hj => ?_)
    unfold cr
    split
    · exact (if_pos hi).symm
    · rfl
  have hu : ∀ j, j < m → (D m (cr (aF hr L a c F mv rv) k (fun i => if i = j then 1 else 0))).natAbs ≤ pd m (BF hr L a c F mv) := fun j hj => D_bound m _ _ (fun i hi => by
    have h2 : sm m (fun q => ((cr (aF hr L a c F mv rv) k (fun i => if i = j then 1 else 0) i q).natAbs : Int)) ≤ sm m (fun q => ((aF hr L a c F mv rv i q).natAbs : Int) + (if true = true ∧ q = k then 1 else 0)) := sm_le m (fun q _ => by
      unfold cr
      by_cases e : q = k
      · rw [if_pos e, if_pos ⟨rfl, e⟩]
        show (((if i = j then (1 : Int) else 0).natAbs : Nat) : Int) ≤ _
        split
        · have : (1 : Int).natAbs = 1 := rfl
          omega
        · have : (0 : Int).natAbs = 0 := rfl
          omega
      · rw [if_neg e, if_neg (fun z => e z.2)]
        omega)
    rw [sm_add] at h2
    have h3 := sm_indb (m := m) (i0 := k) (b := true)
    have h4 := aF_row (hr := hr) (L := L) (a := a) (c := c) (rv := rv) hmv hm i
    have h5 := tF_nonneg (hr := hr) (L := L) (a := a) (c := c) hmv i
    unfold BF
    omega)
  have h2 : ((Em (aF hr L a c F mv rv) m k b).natAbs : Int) ≤ (pd m (BF hr L a c F mv) : Int) * sm m (fun j => ((aF hr L a c F mv rv j b).natAbs : Int)) := by
    rw [h1, ← sm_mul]
    refine Int.le_trans (sm_absI m) (sm_le m (fun j hj => ?_))
    rw [Int.natAbs_mul, Int.natCast_mul, Int.mul_comm]
    exact Int.mul_le_mul_of_nonneg_right (by have := hu j hj; omega) (by omega)
  have h3 := Int.mul_le_mul_of_nonneg_left (aF_col (hr := hr) (L := L) (a := a) (c := c) hF hmv hrv m b) (show (0 : Int) ≤ (pd m (BF hr L a c F mv) : Int) by omega)
  omega
theorem Dm_bound (hmv : ∀ f, f < F → 1 ≤ mv f ∧ mv f ≤ 4) {m : Nat} (hm : m ≤ 6) : (D m (aF hr L a c F mv rv)).natAbs ≤ pd m (BF hr L a c F mv) := D_bound m _ _ (fun i hi => by
  have h4 := aF_row (hr := hr) (L := L) (a := a) (c := c) (rv := rv) hmv hm i
  have h5 := tF_nonneg (hr := hr) (L := L) (a := a) (c := c) hmv i
  unfold BF
  omega)
theorem Fm_bound (hF : F ≤ 10) (hmv : ∀ f, f < F → 1 ≤ mv f ∧ mv f ≤ 4) (hrv : ∀ f, f < F → -2000 ≤ rv f ∧ rv f ≤ 2000) {m k : Nat} (hm : m ≤ 6) (hk : k < 6) (b : Nat) : (Fm (aF hr L a c F mv rv) m k b).natAbs ≤ 40000 * pd m (BF hr L a c F mv) * BF hr L a c F mv k := by
  have hD := Dm_bound (hr := hr) (L := L) (a := a) (c := c) (rv := rv) hmv hm
  have hA : ((aF hr L a c F mv rv k b).natAbs : Int) ≤ 40000 := by
    have h1 := sm_term (f := fun k => ((aF hr L a c F mv rv k b).natAbs : Int)) 6 (fun _ _ => by omega) k hk
    have h2 := aF_col (hr := hr) (L := L) (a := a) (c := c) hF hmv hrv 6 b
    omega
  have h1 : ((sm m (fun q => aF hr L a c F mv rv k q * Em (aF hr L a c F mv rv) m q b)).natAbs : Int) ≤ ((40000 * pd m (BF hr L a c F mv) : Nat) : Int) * tF hr L a c F mv k := by
    refine Int.le_trans (sm_absI m) ?_
    refine Int.le_trans (sm_le (g := fun q => ((40000 * pd m (BF hr L a c F mv) : Nat) : Int) * ((aF hr L a c F mv rv k q).natAbs : Int)) m (fun q hq => ?_)) ?_
    · rw [Int.natAbs_mul, Int.natCast_mul, Int.mul_comm]
      exact Int.mul_le_mul_of_nonneg_right (by have := Em_bound (hr := hr) (L := L) (a := a) (c := c) hF hmv hrv hm hq b; omega) (by omega)
    · rw [sm_mul]
      exact Int.mul_le_mul_of_nonneg_left (aF_row hmv hm k) (by omega)
  have h2 : ((D m (aF hr L a c F mv rv) * aF hr L a c F mv rv k b).natAbs : Int) ≤ ((40000 * pd m (BF hr L a c F mv) : Nat) : Int) := by
    rw [Int.natAbs_mul, Int.natCast_mul]
    have q1 := Int.mul_le_mul_of_nonneg_left hA (show (0 : Int) ≤ ((D m (aF hr L a c F mv rv)).natAbs : Int) by omega)
    omega
  have h5 := tF_nonneg (hr := hr) (L := L) (a := a) (c := c) hmv k
  have e : ((40000 * pd m (BF hr L a c F mv) * BF hr L a c F mv k : Nat) : Int) = ((40000 * pd m (BF hr L a c F mv) : Nat) : Int) * (1 + tF hr L a c F mv k) := by
    rw [Int.natCast_mul]
    unfold BF
    congr 1
    omega
  have h6 : (Fm (aF hr L a c F mv rv) m k b).natAbs ≤ (D m (aF hr L a c F mv rv) * aF hr L a c F mv rv k b).natAbs + (sm m (fun q => aF hr L a c F mv rv k q * Em (aF hr L a c F mv rv) m q b)).natAbs := by
    unfold Fm
    omega
  have h7 : ((40000 * pd m (BF hr L a c F mv) : Nat) : Int) * (1 + tF hr L a c F mv k) = ((40000 * pd m (BF hr L a c F mv) : Nat) : Int) + ((40000 * pd m (BF hr L a c F mv) : Nat) : Int) * tF hr L a c F mv k := by
    rw [Int.mul_add, Int.mul_one]
  omega
theorem BF_sum (hF : F ≤ 10) (hmv : ∀ f, f < F → 1 ≤ mv f ∧ mv f ≤ 4) : BF hr L a c F mv 0 + BF hr L a c F mv 1 + BF hr L a c F mv 2 + BF hr L a c F mv 3 + BF hr L a c F mv 4 ≤ 165 := by
  have h1 : sm 5 (fun i => tF hr L a c F mv i) ≤ 160 := by
    unfold tF
    rw [sm_comm]
    have h2 : sm F (fun f => sm 5 (fun i => 2 * (mv f * ((wF hr L a c f i).natAbs : Int)))) ≤ sm F (fun _ => 16) := sm_le F (fun f hf => by
      rw [sm_mul, sm_mul]
      obtain ⟨h3, h4⟩ := hmv f hf
      have h5 := Int.mul_le_mul_of_nonneg_left (wF_sum (hr := hr) (L := L) (a := a) (c := c) f 5) (show 0 ≤ mv f by omega)
      omega)
    rw [sm_const] at h2
    omega
  have e : sm 5 (fun i => tF hr L a c F mv i) = 0 + tF hr L a c F mv 0 + tF hr L a c F mv 1 + tF hr L a c F mv 2 + tF hr L a c F mv 3 + tF hr L a c F mv 4 := rfl
  have t0 := tF_nonneg (hr := hr) (L := L) (a := a) (c := c) hmv 0
  have t1 := tF_nonneg (hr := hr) (L := L) (a := a) (c := c) hmv 1
  have t2 := tF_nonneg (hr := hr) (L := L) (a := a) (c := c) hmv 2
  have t3 := tF_nonneg (hr := hr) (L := L) (a := a) (c := c) hmv 3
  have t4 := tF_nonneg (hr := hr) (L := L) (a := a) (c := c) hmv 4
  unfold BF
  omega
end
theorem amgm2 (x y : Nat) : 4 * (x * y) ≤ (x + y) * (x + y) := by
  have e : ((x + y) * (x + y) : Int) - 4 * (x * y) = (x - y) * (x - y) := by grind
  have h := sq_nonneg ((x : Int) - y)
  have e2 : (((x + y) * (x + y) : Nat) : Int) = ((x : Int) + y) * (x + y) := by
    rw [Int.natCast_mul, Int.natCast_add]
  have e3 : ((x * y : Nat) : Int) = (x : Int) * y := Int.natCast_mul x y
  omega
theorem num3 : ∀ v, v < 164 → (163 - v) * (163 - v) * v ≤ 641656 := by decide +kernel
theorem num5 : ∀ v, v < 166 → (165 - v) * (165 - v) * ((165 - v) * (165 - v)) * v ≤ 10018660608 := by decide +kernel
theorem prod3 {x y z : Nat} (h : x + y + z ≤ 163) : x * (y * z) ≤ 160414 := by
  have h1 := amgm2 x y
  have h2 : (x + y) * (x + y) ≤ (163 - z) * (163 - z) := Nat.mul_le_mul (by omega) (by omega)
  have h3 := Nat.mul_le_mul_right z (Nat.le_trans h1 h2)
  have h4 := num3 z (by omega)
  have e : 4 * (x * y) * z = 4 * (x * (y * z)) := by rw [Nat.mul_assoc, Nat.mul_assoc]
  omega
theorem prod4 {x y z w : Nat} (h : x + y + z + w ≤ 164) : x * (y * (z * w)) ≤ 2825761 := by
  have h1 := amgm2 x y
  have h2 := amgm2 z w
  have h3 := amgm2 (x + y) (z + w)
  have h4 : (x + y + (z + w)) * (x + y + (z + w)) ≤ 164 * 164 := Nat.mul_le_mul (by omega) (by omega)
  have h5 : (x + y) * (z + w) ≤ 6724 := by omega
  have h6 := Nat.mul_le_mul h5 h5
  have h7 := Nat.mul_le_mul h1 h2
  have e1 : 4 * (x * y) * (4 * (z * w)) = 16 * (x * (y * (z * w))) := by grind
  have e2 : (x + y) * (x + y) * ((z + w) * (z + w)) = (x + y) * (z + w) * ((x + y) * (z + w)) := by grind
  omega
theorem prod5 {x y z w v : Nat} (h : x + y + z + w + v ≤ 165) : x * (y * (z * (w * v))) ≤ 39135393 := by
  have h1 := amgm2 x y
  have h2 := amgm2 z w
  have h3 := amgm2 (x + y) (z + w)
  have h4 : (x + y + (z + w)) * (x + y + (z + w)) ≤ (165 - v) * (165 - v) := Nat.mul_le_mul (by omega) (by omega)
  have h5 : 4 * ((x + y) * (z + w)) ≤ (165 - v) * (165 - v) := Nat.le_trans h3 h4
  have h6 := Nat.mul_le_mul h5 h5
  have h7 := Nat.mul_le_mul h1 h2
  have h8 := num5 v (by omega)
  have e1 : 4 * (x * y) * (4 * (z * w)) * (16 * v) = 256 * (x * (y * (z * (w * v)))) := by grind
  have e2 : 4 * ((x + y) * (z + w)) * (4 * ((x + y) * (z + w))) = 16 * ((x + y) * (x + y) * ((z + w) * (z + w))) := by grind
  have h9 := Nat.mul_le_mul_right (16 * v) h7
  have h10 := Nat.mul_le_mul_right v h6
  have e3 : 4 * ((x + y) * (z + w)) * (4 * ((x + y) * (z + w))) * v = (x + y) * (x + y) * ((z + w) * (z + w)) * (16 * v) := by
    rw [e2]
    grind
  omega
theorem pd_bounds {B : Nat → Nat} (h1 : ∀ i, 1 ≤ B i) (h : B 0 + B 1 + B 2 + B 3 + B 4 ≤ 165) : (∀ m, m ≤ 3 → pd m B ≤ 160414) ∧ (∀ m, m ≤ 4 → pd m B ≤ 2825761) ∧ ∀ m, m ≤ 5 → pd m B ≤ 39135393 := by
  have i0 := h1 0
  have i1 := h1 1
  have i2 := h1 2
  have i3 := h1 3
  have i4 := h1 4
  have e0 : pd 0 B = 1 := rfl
  have e1 : pd 1 B = B 0 * 1 := rfl
  have e2 : pd 2 B = B 0 * (B 1 * 1) := rfl
  have e3 : pd 3 B = B 0 * (B 1 * (B 2 * 1)) := rfl
  have e4 : pd 4 B = B 0 * (B 1 * (B 2 * (B 3 * 1))) := rfl
  have e5 : pd 5 B = B 0 * (B 1 * (B 2 * (B 3 * (B 4 * 1)))) := rfl
  have p3 := prod3 (x := B 0) (y := B 1) (z := B 2) (by omega)
  have p4 := prod4 (x := B 0) (y := B 1) (z := B 2) (w := B 3) (by omega)
  have p5 := prod5 (x := B 0) (y := B 1) (z := B 2) (w := B 3) (v := B 4) (by omega)
  have q2 := prod3 (x := B 0) (y := B 1) (z := 1) (by omega)
  simp only [Nat.mul_one] at e1 e2 e3 e4 e5 q2
  refine ⟨fun m hm => ?_, fun m hm => ?_, fun m hm => ?_⟩
  · match m, hm with
    | 0, _ => omega
    | 1, _ => omega
    | 2, _ => omega
    | 3, _ => omega
  · match m, hm with
    | 0, _ => omega
    | 1, _ => omega
    | 2, _ => omega
    | 3, _ => omega
    | 4, _ => omega
  · match m, hm with
    | 0, _ => omega
    | 1, _ => omega
    | 2, _ => omega
    | 3, _ => omega
    | 4, _ => omega
    | 5, _ => omega
theorem abs_mul_lt {x y : Int} {p q : Nat} (h1 : x.natAbs ≤ p) (h2 : y.natAbs ≤ q) (h3 : p * q < 2 ^ 63) : -2 ^ 63 < x * y ∧ x * y < 2 ^ 63 := by
  have h := Nat.mul_le_mul h1 h2
  rw [← Int.natAbs_mul] at h
  omega
section
variable {P Q : Nat → Bool} {a c : Nat → Nat} {F K : Nat} {mv rv : Nat → Int}
theorem hrw_0 : ¬ hrw (gat P a c F) (gat Q a c F) 0 = true := by
  have := gat_le Q a c F 0
  unfold hrw
  rw [show gat Q a c F 0 = 0 by omega]
  simp
theorem aF_bounds (hF : F ≤ 10) (hK : K ≤ 6) (hmv : ∀ f, f < F → 1 ≤ mv f ∧ mv f ≤ 4) (hrv : ∀ f, f < F → -2000 ≤ rv f ∧ rv f ≤ 2000) : (∀ m, m ≤ plc (hrw (gat P a c F) (gat Q a c F)) K → (D m (aF (hrw (gat P a c F) (gat Q a c F)) (gat P a c F) a c F mv rv)).natAbs ≤ 39135393) ∧ ∀ p i j, p < K → i < K → i ≠ p → j < 7 → -2 ^ 63 < D (plc (hrw (gat P a c F) (gat Q a c F)) p) (aF (hrw (gat P a c F) (gat Q a c F)) (gat P a c F) a c F mv rv) * St (aF (hrw (gat P a c F) (gat Q a c F)) (gat P a c F) a c F mv rv) (hrw (gat P a c F) (gat Q a c F)) (plc (hrw (gat P a c F) (gat Q a c F)) (p + 1)) i j ∧ D (plc (hrw (gat P a c F) (gat Q a c F)) p) (aF (hrw (gat P a c F) (gat Q a c F)) (gat P a c F) a c F mv rv) * St (aF (hrw (gat P a c F) (gat Q a c F)) (gat P a c F) a c F mv rv) (hrw (gat P a c F) (gat Q a c F)) (plc (hrw (gat P a c F) (gat Q a c F)) (p + 1)) i j < 2 ^ 63 := by
  have h0 := hrw_0 (P := P) (Q := Q) (a := a) (c := c) (F := F)
  generalize hh : hrw (gat P a c F) (gat Q a c F) = hr at h0 ⊢
  generalize gat P a c F = L at hh ⊢
  have hn : plc hr K ≤ 5 := by
    by_cases e : K = 0
    · subst e
      exact Nat.zero_le _
    · have := plc_bd1 h0 (K - 1)
      rw [show K - 1 + 1 = K by omega] at this
      omega
  obtain ⟨b3, b4, b5⟩ := pd_bounds (B := BF hr L a c F mv) (fun i => by unfold BF; omega) (BF_sum (hr := hr) (L := L) (a := a) (c := c) hF hmv)
  have hB : ∀ i, i < 5 → BF hr L a c F mv i ≤ 165 := fun i hi => by
    have := BF_sum (hr := hr) (L := L) (a := a) (c := c) hF hmv
    match i, hi with
    | 0, _ => omega
    | 1, _ => omega
    | 2, _ => omega
    | 3, _ => omega
    | 4, _ => omega
  have hD : ∀ m, m ≤ 5 → (D m (aF hr L a c F mv rv)).natAbs ≤ pd m (BF hr L a c F mv) := fun m hm => Dm_bound hmv (by omega)
  refine ⟨fun m hm => Nat.le_trans (hD m (by omega)) (b5 m (by omega)), fun p i j hp hi hip hj => ?_⟩
  have hmK : plc hr (p + 1) ≤ plc hr K := plc_le (by omega)
  have hm0 : plc hr p ≤ plc hr (p + 1) := plc_le (by omega)
  have hstep : plc hr (p + 1) = plc hr p + 1 ∨ (plc hr (p + 1) = plc hr p ∧ (plc hr p = 0 ∨ plc hr K ≤ 4)) := by
    by_cases b : hr p = true
    · exact Or.inl (plc_succ b)
    · refine Or.inr ⟨plc_skip b, ?_⟩
      by_cases e : p = 0
      · subst e
        exact Or.inl rfl
      · right
        have := plc_bd2 (p := p - 1) h0 (by rw [show p - 1 + 1 = p by omega]; exact b) (K - (p + 1))
        rw [show p - 1 + 2 + (K - (p + 1)) = K by omega] at this
        omega
  have hm4 : plc hr p ≤ 4 := by omega
  by_cases bi : hr i = true
  · by_cases hl : plc hr i < plc hr (p + 1)
    · rw [St_E bi hl]
      exact abs_mul_lt (Nat.le_trans (hD _ (by omega)) (b4 _ hm4)) (Nat.le_trans (Em_bound hF hmv hrv (by omega) hl _) (Nat.mul_le_mul_left 40000 (b5 _ (by omega)))) (by decide)
    · rw [St_F bi hl]
      have hlt := plc_lt bi hi
      have hF1 := Fm_bound (hr := hr) (L := L) (a := a) (c := c) hF hmv hrv (m := plc hr (p + 1)) (k := plc hr i) (by omega) (by omega) (cj hr j)
      have hF2 : (Fm (aF hr L a c F mv rv) (plc hr (p + 1)) (plc hr i) (cj hr j)).natAbs ≤ 40000 * 2825761 * 165 := Nat.le_trans hF1 (Nat.mul_le_mul (Nat.mul_le_mul_left 40000 (b4 _ (by omega))) (hB _ (by omega)))
      by_cases hm3 : plc hr p ≤ 3
      · exact abs_mul_lt (Nat.le_trans (hD _ (by omega)) (b3 _ hm3)) hF2 (by decide)
      · exfalso
        omega
  · rw [St_N bi]
    split
    · exact abs_mul_lt (Nat.le_trans (hD _ (by omega)) (b4 _ hm4)) (Nat.le_trans (hD _ (by omega)) (b5 _ (by omega))) (by decide)
    · rw [Int.mul_zero]
      decide
end
