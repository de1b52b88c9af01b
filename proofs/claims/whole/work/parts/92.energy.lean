/-! ===== the test is a sum of squares ===== -/
section
variable {S F K : Nat} {a c : Nat → Nat} {mv rv : Nat → Int}
/-- whatever is alike in a heap: what the fit brings of it is nothing -/
theorem bal_any (hK : K ≤ 6) (hmv : ∀ f, f < F → 1 ≤ mv f) (hac : ∀ f, f < F → a f < K ∧ c f < K) (g : Nat → Int) : sm F (fun f => vF (gat S.testBit a c F) a c mv rv (fcF S F K a c mv rv) (blF S F K a c mv rv) f * dlF (gat S.testBit a c F) a c g f) = 0 := by
  have h1 : sm K (fun h => g h * sm F (fun f => vF (gat S.testBit a c F) a c mv rv (fcF S F K a c mv rv) (blF S F K a c mv rv) f * sF (gat S.testBit a c F) a c f h)) = 0 := sm_zero K (fun h hh => by rw [bal_all hK hmv hac hh, Int.mul_zero])
  rw [← h1, sm_congr K (g := fun h => sm F (fun f => vF (gat S.testBit a c F) a c mv rv (fcF S F K a c mv rv) (blF S F K a c mv rv) f * (g h * sF (gat S.testBit a c F) a c f h))) (fun h _ => by
    rw [← sm_mul]
    exact sm_congr F (fun f _ => by grind)), sm_comm]
  refine sm_congr F (fun f hf => ?_)
  obtain ⟨k1, k2⟩ := hac f hf
  have l1 := gat_le S.testBit a c F (a f)
  have l2 := gat_le S.testBit a c F (c f)
  rw [sm_mul, sm_sF (by omega) (by omega)]
/-- the sum of the changes times a rise -/
theorem bal_cross (hK : K ≤ 6) (hmv : ∀ f, f < F → 1 ≤ mv f) (hac : ∀ f, f < F → a f < K ∧ c f < K) (g : Nat → Int) : sm F (fun f => mv f * (dlF (gat S.testBit a c F) a c (fcF S F K a c mv rv) f * dlF (gat S.testBit a c F) a c g f)) = blF S F K a c mv rv * - sm F (fun f => rv f * dlF (gat S.testBit a c F) a c g f) := by
  have h1 := bal_any (S := S) (rv := rv) hK hmv hac g
  rw [sm_congr F (g := fun f => blF S F K a c mv rv * (rv f * dlF (gat S.testBit a c F) a c g f) + 1 * (mv f * (dlF (gat S.testBit a c F) a c (fcF S F K a c mv rv) f * dlF (gat S.testBit a c F) a c g f))) (fun f _ => by
    unfold vF
    grind), sm_lin] at h1
  have e : blF S F K a c mv rv * - sm F (fun f => rv f * dlF (gat S.testBit a c F) a c g f) = - (blF S F K a c mv rv * sm F (fun f => rv f * dlF (gat S.testBit a c F) a c g f)) := by grind
  omega
theorem ts_energy (hK : K ≤ 6) (hmv : ∀ f, f < F → 1 ≤ mv f) (hac : ∀ f, f < F → a f < K ∧ c f < K) : sm F (fun f => mv f * (dlF (gat S.testBit a c F) a c (fcF S F K a c mv rv) f * dlF (gat S.testBit a c F) a c (fcF S F K a c mv rv) f)) = blF S F K a c mv rv * tsF (gat S.testBit a c F) a c F rv (fcF S F K a c mv rv) := bal_cross hK hmv hac _
theorem nonneg_of_mul {x y : Int} (hx : 1 ≤ x) (h : 0 ≤ x * y) : 0 ≤ y := by
  refine Classical.byContradiction fun hn => ?_
  have := Int.mul_nonneg (show 0 ≤ x - 1 by omega) (show 0 ≤ -y by omega)
  have e : (x - 1) * -y = y - x * y := by grind
  omega
theorem ts_range (hF : F ≤ 10) (hK : K ≤ 6) (hmv : ∀ f, f < F → 1 ≤ mv f ∧ mv f ≤ 4) (hrv : ∀ f, f < F → -2000 ≤ rv f ∧ rv f ≤ 2000) (hac : ∀ f, f < F → a f < K ∧ c f < K) : 0 ≤ tsF (gat S.testBit a c F) a c F rv (fcF S F K a c mv rv) ∧ tsF (gat S.testBit a c F) a c F rv (fcF S F K a c mv rv) ≤ 40000000 * blF S F K a c mv rv := by
  have hd := (blF_pos (S := S) (a := a) (c := c) hK hF hmv hrv).1
  have hE := ts_energy (S := S) (rv := rv) hK (fun f hf => (hmv f hf).1) hac
  have h0 : 0 ≤ sm F (fun f => mv f * (dlF (gat S.testBit a c F) a c (fcF S F K a c mv rv) f * dlF (gat S.testBit a c F) a c (fcF S F K a c mv rv) f)) := sm_nonneg F (fun f hf => Int.mul_nonneg (by have := (hmv f hf).1; omega) (sq_nonneg _))
  rw [hE] at h0
  refine ⟨nonneg_of_mul hd h0, ?_⟩
  have h1 : 0 ≤ sm F (fun f => 1 * (mv f * (dlF (gat S.testBit a c F) a c (fcF S F K a c mv rv) f * dlF (gat S.testBit a c F) a c (fcF S F K a c mv rv) f)) + 1 * ((2 * blF S F K a c mv rv) * (rv f * dlF (gat S.testBit a c F) a c (fcF S F K a c mv rv) f) + (blF S F K a c mv rv * blF S F K a c mv rv) * (rv f * rv f))) := sm_nonneg F (fun f hf => by
    have hm := (hmv f hf).1
    have p1 := Int.mul_nonneg (show 0 ≤ mv f - 1 by omega) (sq_nonneg (dlF (gat S.testBit a c F) a c (fcF S F K a c mv rv) f))
    have p2 := sq_nonneg (dlF (gat S.testBit a c F) a c (fcF S F K a c mv rv) f + rv f * blF S F K a c mv rv)
    have e : 1 * (mv f * (dlF (gat S.testBit a c F) a c (fcF S F K a c mv rv) f * dlF (gat S.testBit a c F) a c (fcF S F K a c mv rv) f)) + 1 * ((2 * blF S F K a c mv rv) * (rv f * dlF (gat S.testBit a c F) a c (fcF S F K a c mv rv) f) + (blF S F K a c mv rv * blF S F K a c mv rv) * (rv f * rv f)) = (mv f - 1) * (dlF (gat S.testBit a c F) a c (fcF S F K a c mv rv) f * dlF (gat S.testBit a c F) a c (fcF S F K a c mv rv) f) + (dlF (gat S.testBit a c F) a c (fcF S F K a c mv rv) f + rv f * blF S F K a c mv rv) * (dlF (gat S.testBit a c F) a c (fcF S F K a c mv rv) f + rv f * blF S F K a c mv rv) := by grind
    omega)
  rw [sm_lin, sm_lin, hE] at h1
  have hT : sm F (fun f => rv f * dlF (gat S.testBit a c F) a c (fcF S F K a c mv rv) f) = - tsF (gat S.testBit a c F) a c F rv (fcF S F K a c mv rv) := by
    unfold tsF
    omega
  rw [hT] at h1
  have hQ : sm F (fun f => rv f * rv f) ≤ 40000000 := by
    have := sm_le (f := fun f => rv f * rv f) (g := fun _ => 4000000) F (fun f hf => by
      have := mul_bound (p := 2000) (q := 2000) (by decide) (hrv f hf).1 (hrv f hf).2 (hrv f hf).1 (hrv f hf).2
      omega)
    rw [sm_const] at this
    omega
  have h2 : 0 ≤ blF S F K a c mv rv * (blF S F K a c mv rv * sm F (fun f => rv f * rv f) - tsF (gat S.testBit a c F) a c F rv (fcF S F K a c mv rv)) := by
    have e : blF S F K a c mv rv * (blF S F K a c mv rv * sm F (fun f => rv f * rv f) - tsF (gat S.testBit a c F) a c F rv (fcF S F K a c mv rv)) = 1 * (blF S F K a c mv rv * tsF (gat S.testBit a c F) a c F rv (fcF S F K a c mv rv)) + 1 * (2 * blF S F K a c mv rv * -tsF (gat S.testBit a c F) a c F rv (fcF S F K a c mv rv) + blF S F K a c mv rv * blF S F K a c mv rv * sm F (fun f => rv f * rv f)) := by grind
    rw [e]
    exact h1
  have h3 := nonneg_of_mul hd h2
  have h4 := Int.mul_le_mul_of_nonneg_left hQ (show 0 ≤ blF S F K a c mv rv by omega)
  omega
/-- one more unread flow never raises the test -/
theorem ts_fall {S2 : Nat} (hF : F ≤ 10) (hK : K ≤ 6) (hmv : ∀ f, f < F → 1 ≤ mv f ∧ mv f ≤ 4) (hrv : ∀ f, f < F → -2000 ≤ rv f ∧ rv f ≤ 2000) (hac : ∀ f, f < F → a f < K ∧ c f < K) (hsub : ∀ f, f < F → S.testBit f = true → S2.testBit f = true) : 0 ≤ tsF (gat S.testBit a c F) a c F rv (fcF S F K a c mv rv) * blF S2 F K a c mv rv - tsF (gat S2.testBit a c F) a c F rv (fcF S2 F K a c mv rv) * blF S F K a c mv rv := by
  have hd1 := (blF_pos (S := S) (a := a) (c := c) hK hF hmv hrv).1
  have hd2 := (blF_pos (S := S2) (a := a) (c := c) hK hF hmv hrv).1
  have hE1 := ts_energy (S := S) (rv := rv) hK (fun f hf => (hmv f hf).1) hac
  have hE2 := ts_energy (S := S2) (rv := rv) hK (fun f hf => (hmv f hf).1) hac
  have hLL : ∀ y, gat S2.testBit a c F (gat S.testBit a c F y) = gat S2.testBit a c F y := fun y => gat_sub (Nat.le_refl F) hsub (gat_idem S.testBit a c F y)
  have hdl : ∀ f, dlF (gat S.testBit a c F) a c (fun k => fcF S2 F K a c mv rv (gat S2.testBit a c F k)) f = dlF (gat S2.testBit a c F) a c (fcF S2 F K a c mv rv) f := fun f => by
    unfold dlF
    dsimp only
    rw [hLL, hLL]
  have hX := bal_cross (S := S) (rv := rv) hK (fun f hf => (hmv f hf).1) hac (fun k => fcF S2 F K a c mv rv (gat S2.testBit a c F k))
  simp only [hdl] at hX
  have hT2 : - sm F (fun f => rv f * dlF (gat S2.testBit a c F) a c (fcF S2 F K a c mv rv) f) = tsF (gat S2.testBit a c F) a c F rv (fcF S2 F K a c mv rv) := rfl
  rw [hT2] at hX
  generalize tsF (gat S2.testBit a c F) a c F rv (fcF S2 F K a c mv rv) = T2 at *
  generalize tsF (gat S.testBit a c F) a c F rv (fcF S F K a c mv rv) = T1 at *
  have h1 : 0 ≤ sm F (fun f => (blF S F K a c mv rv * blF S F K a c mv rv) * (mv f * (dlF (gat S2.testBit a c F) a c (fcF S2 F K a c mv rv) f * dlF (gat S2.testBit a c F) a c (fcF S2 F K a c mv rv) f)) + 1 * ((- (2 * blF S F K a c mv rv * blF S2 F K a c mv rv)) * (mv f * (dlF (gat S.testBit a c F) a c (fcF S F K a c mv rv) f * dlF (gat S2.testBit a c F) a c (fcF S2 F K a c mv rv) f)) + (blF S2 F K a c mv rv * blF S2 F K a c mv rv) * (mv f * (dlF (gat S.testBit a c F) a c (fcF S F K a c mv rv) f * dlF (gat S.testBit a c F) a c (fcF S F K a c mv rv) f)))) := sm_nonneg F (fun f hf => by
    have p := Int.mul_nonneg (show 0 ≤ mv f by have := (hmv f hf).1; omega) (sq_nonneg (blF S F K a c mv rv * dlF (gat S2.testBit a c F) a c (fcF S2 F K a c mv rv) f - blF S2 F K a c mv rv * dlF (gat S.testBit a c F) a c (fcF S F K a c mv rv) f))
    generalize blF S F K a c mv rv = d1 at *
    generalize blF S2 F K a c mv rv = d2 at *
    generalize dlF (gat S2.testBit a c F) a c (fcF S2 F K a c mv rv) f = y at *
    generalize dlF (gat S.testBit a c F) a c (fcF S F K a c mv rv) f = x at *
    have e : d1 * d1 * (mv f * (y * y)) + 1 * (-(2 * d1 * d2) * (mv f * (x * y)) + d2 * d2 * (mv f * (x * x))) = mv f * ((d1 * y - d2 * x) * (d1 * y - d2 * x)) := by grind
    rw [e]
    exact p)
  rw [sm_lin, sm_lin, hE1, hE2, hX] at h1
  generalize blF S F K a c mv rv = d1 at *
  generalize blF S2 F K a c mv rv = d2 at *
  have h2 : 0 ≤ d1 * (d2 * (T1 * d2 - T2 * d1)) := by
    have e : d1 * (d2 * (T1 * d2 - T2 * d1)) = d1 * d1 * (d2 * T2) + 1 * (-(2 * d1 * d2) * (d1 * T2) + d2 * d2 * (d1 * T1)) := by grind
    rw [e]
    exact h1
  exact nonneg_of_mul hd2 (nonneg_of_mul hd1 h2)
end
/-! ===== a determinant is at most the product of its diagonal ===== -/
theorem el_diag {hr : Nat → Bool} {L a c : Nat → Nat} {F m : Nat} {mv rv : Nat → Int} (hm : m ≤ 5) (hmv : ∀ f, f < F → 1 ≤ mv f) (hC : Cr (aF hr L a c F mv rv) m) (hd : 1 ≤ D m (aF hr L a c F mv rv)) : D (m + 1) (aF hr L a c F mv rv) ≤ D m (aF hr L a c F mv rv) * aF hr L a c F mv rv m m := by
  rw [el_det hC (by omega)]
  have hsym : ∀ i j, i ≤ 5 → j ≤ 5 → aF hr L a c F mv rv i j = aF hr L a c F mv rv j i := fun i j hi hj => by
    unfold aF
    rw [if_neg (by omega), if_neg (by omega)]
    exact sm_congr F (fun f _ => by grind)
  have h1 : D m (aF hr L a c F mv rv) * sm m (fun k => aF hr L a c F mv rv m k * Em (aF hr L a c F mv rv) m k m) = sm m (fun i => Em (aF hr L a c F mv rv) m i m * sm m (fun k => aF hr L a c F mv rv i k * Em (aF hr L a c F mv rv) m k m)) := by
    rw [← sm_mul]
    refine sm_congr m (fun i hi => ?_)
    rw [hC i hi m, hsym m i hm (by omega)]
    grind
  rw [aF_sq (by omega)] at h1
  have h2 : 0 ≤ sm F (fun f => mv f * (sm m (fun i => wF hr L a c f i * Em (aF hr L a c F mv rv) m i m) * sm m (fun i => wF hr L a c f i * Em (aF hr L a c F mv rv) m i m))) := sm_nonneg F (fun f hf => Int.mul_nonneg (by have := hmv f hf; omega) (sq_nonneg _))
  rw [← h1] at h2
  have h3 := nonneg_of_mul hd h2
  unfold Fm
  omega
/-- the diagonal -/
def gF (hr : Nat → Bool) (L a c : Nat → Nat) (F : Nat) (mv : Nat → Int) (i : Nat) : Int := sm F (fun f => mv f * ((wF hr L a c f i).natAbs : Int))
theorem aF_diag {hr : Nat → Bool} {L a c : Nat → Nat} {F i : Nat} {mv rv : Nat → Int} (hi : i ≠ 6) : aF hr L a c F mv rv i i = gF hr L a c F mv i := by
  unfold aF gF
  rw [if_neg hi]
  refine sm_congr F (fun f _ => ?_)
  congr 1
  unfold wF
  split <;> split <;> decide
theorem pd_last (B : Nat → Nat) : ∀ n, pd (n + 1) B = pd n B * B n
  | 0 => by
    show B 0 * 1 = 1 * B 0
    omega
  | n + 1 => by
    show B 0 * pd (n + 1) (fun i => B (i + 1)) = B 0 * pd n (fun i => B (i + 1)) * B (n + 1)
    rw [pd_last (fun i => B (i + 1)) n, Nat.mul_assoc]
theorem D_hada {hr : Nat → Bool} {L a c : Nat → Nat} {F n : Nat} {mv rv : Nat → Int} (hn : n ≤ 5) (hmv : ∀ f, f < F → 1 ≤ mv f) (hpos : ∀ m, m ≤ n → 1 ≤ D m (aF hr L a c F mv rv)) : ∀ m, m ≤ n → (D m (aF hr L a c F mv rv)).toNat ≤ pd m (fun i => (gF hr L a c F mv i).toNat)
  | 0, _ => Nat.le_refl 1
  | m + 1, h => by
    have ih := D_hada hn hmv hpos m (by omega)
    have h1 := el_diag (rv := rv) (by omega) hmv (all_Cr hpos m (by omega)) (hpos m (by omega))
    rw [aF_diag (by omega)] at h1
    have hp1 := hpos m (by omega)
    have hp2 := hpos (m + 1) h
    rw [pd_last]
    have hg : 0 ≤ gF hr L a c F mv m := sm_nonneg F (fun f hf => Int.mul_nonneg (by have := hmv f hf; omega) (by omega))
    have h2 := Nat.mul_le_mul_right (gF hr L a c F mv m).toNat ih
    have e : ((D m (aF hr L a c F mv rv)).toNat * (gF hr L a c F mv m).toNat : Nat) = (D m (aF hr L a c F mv rv) * gF hr L a c F mv m).toNat := by
      rw [Int.toNat_mul (by omega) hg]
    omega
theorem prod4s {x y z w t : Nat} (h : x + y + z + w ≤ t) : 256 * (x * (y * (z * w))) ≤ t * t * (t * t) := by
  have h1 := amgm2 x y
  have h2 := amgm2 z w
  have h3 := amgm2 (x + y) (z + w)
  have h4 : (x + y + (z + w)) * (x + y + (z + w)) ≤ t * t := Nat.mul_le_mul (by omega) (by omega)
  have h5 : 4 * ((x + y) * (z + w)) ≤ t * t := Nat.le_trans h3 h4
  have h6 := Nat.mul_le_mul h5 h5
  have h7 := Nat.mul_le_mul h1 h2
  have e1 : 4 * (x * y) * (4 * (z * w)) = 16 * (x * (y * (z * w))) := by grind
  have e2 : 4 * ((x + y) * (z + w)) * (4 * ((x + y) * (z + w))) = 16 * ((x + y) * (x + y) * ((z + w) * (z + w))) := by grind
  omega
theorem num80 : ∀ v, v < 81 → (80 - v) * (80 - v) * ((80 - v) * (80 - v)) * v ≤ 268435456 := by decide +kernel
theorem hada5 {B : Nat → Nat} {n : Nat} (hn : n ≤ 5) (h : B 0 + B 1 + B 2 + B 3 + B 4 ≤ 80) : pd n B ≤ 1048576 := by
  have p4 : ∀ x y z w : Nat, x + y + z + w ≤ 80 → x * (y * (z * w)) ≤ 160000 := fun x y z w hx => by
    have := prod4s hx
    omega
  have p5 : B 0 * (B 1 * (B 2 * (B 3 * B 4))) ≤ 1048576 := by
    have h1 := prod4s (x := B 0) (y := B 1) (z := B 2) (w := B 3) (t := 80 - B 4) (by omega)
    have h2 := num80 (B 4) (by omega)
    have h3 := Nat.mul_le_mul_right (B 4) h1
    have e : 256 * (B 0 * (B 1 * (B 2 * B 3))) * B 4 = 256 * (B 0 * (B 1 * (B 2 * (B 3 * B 4)))) := by grind
    omega
  have e0 : pd 0 B = 1 := rfl
  have e1 : pd 1 B = B 0 * 1 := rfl
  have e2 : pd 2 B = B 0 * (B 1 * 1) := rfl
  have e3 : pd 3 B = B 0 * (B 1 * (B 2 * 1)) := rfl
  have e4 : pd 4 B = B 0 * (B 1 * (B 2 * (B 3 * 1))) := rfl
  have e5 : pd 5 B = B 0 * (B 1 * (B 2 * (B 3 * (B 4 * 1)))) := rfl
  have q2 := amgm2 (B 0) (B 1)
  have q2' : (B 0 + B 1) * (B 0 + B 1) ≤ 80 * 80 := Nat.mul_le_mul (by omega) (by omega)
  have q3 : B 0 * (B 1 * B 2) ≤ 1600 * 80 := by
    rw [← Nat.mul_assoc]
    exact Nat.mul_le_mul (by omega) (by omega)
  have q4 := p4 (B 0) (B 1) (B 2) (B 3) (by omega)
  simp only [Nat.mul_one] at e1 e2 e3 e4 e5
  match n, hn with
  | 0, _ => omega
  | 1, _ => omega
  | 2, _ => omega
  | 3, _ => omega
  | 4, _ => omega
  | 5, _ => omega
theorem hada4 {B : Nat → Nat} {n : Nat} (hn : n ≤ 4) (h : B 0 + B 1 + B 2 + B 3 ≤ 72) : pd n B ≤ 104976 := by
  have q4 := prod4s (x := B 0) (y := B 1) (z := B 2) (w := B 3) (t := 72) h
  have e0 : pd 0 B = 1 := rfl
  have e1 : pd 1 B = B 0 * 1 := rfl
  have e2 : pd 2 B = B 0 * (B 1 * 1) := rfl
  have e3 : pd 3 B = B 0 * (B 1 * (B 2 * 1)) := rfl
  have e4 : pd 4 B = B 0 * (B 1 * (B 2 * (B 3 * 1))) := rfl
  have q2 := amgm2 (B 0) (B 1)
  have q2' : (B 0 + B 1) * (B 0 + B 1) ≤ 72 * 72 := Nat.mul_le_mul (by omega) (by omega)
  have q3 : B 0 * (B 1 * B 2) ≤ 1296 * 72 := by
    rw [← Nat.mul_assoc]
    exact Nat.mul_le_mul (by omega) (by omega)
  simp only [Nat.mul_one] at e1 e2 e3 e4
  match n, hn with
  | 0, _ => omega
  | 1, _ => omega
  | 2, _ => omega
  | 3, _ => omega
  | 4, _ => omega
