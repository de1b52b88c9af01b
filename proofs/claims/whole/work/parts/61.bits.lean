/-! ===== sets of flows as numbers ===== -/
theorem pu_sm {f : Nat} (h : f < 10) : ((nI f).toBitVec.smod 32).toNat = f := by
  match f, h with
  | 0, _ => decide +kernel
  | 1, _ => decide +kernel
  | 2, _ => decide +kernel
  | 3, _ => decide +kernel
  | 4, _ => decide +kernel
  | 5, _ => decide +kernel
  | 6, _ => decide +kernel
  | 7, _ => decide +kernel
  | 8, _ => decide +kernel
  | 9, _ => decide +kernel
theorem pu_and31 {f : Nat} (h : f < 10) : nI f &&& 31 = nI f := by
  rw [pk_andN (by omega) 5 (by decide +kernel)]
  congr 1
  omega
theorem pu_holds {R f : Nat} (hR : R < 1024) (h : f < 10) : fX4_holds (nI R) (nI f) = some (if R.testBit f then 1 else 0) := by
  unfold fX4_holds
  rw [pu_and31 h, pk_shrN (by omega) (nI f) f (pu_sm h), pk_andN (Nat.lt_of_le_of_lt (Nat.div_le_self _ _) (by omega)) 1 (by decide +kernel), Nat.testBit_eq_decide_div_mod_eq]
  have h2 : R / 2 ^ f % 2 ^ 1 = 0 ∨ R / 2 ^ f % 2 ^ 1 = 1 := by omega
  rcases h2 with h2 | h2
  · rw [h2, if_pos (show nI 0 = 0 from rfl), if_neg]
    simp only [decide_eq_true_eq]
    omega
  · rw [h2, if_neg (show ¬ nI 1 = 0 by decide), if_pos]
    simp only [decide_eq_true_eq]
theorem pu_bit {f : Nat} (h : f < 10) : fX4_bit (nI f) = some (nI (2 ^ f)) := by
  unfold fX4_bit
  rw [pu_and31 h]
  have := pk_shlN (n := 1) (nI f) f (pu_sm h) (by
    have : 2 ^ f ≤ 2 ^ 10 := Nat.pow_le_pow_right (by decide) (by omega)
    omega)
  rw [Nat.one_mul] at this
  exact congrArg some this
theorem pu_or (a b : Nat) : nI a ||| nI b = nI (a ||| b) := by
  apply Int32.toBitVec_inj.mp
  show (BitVec.ofNat 32 a ||| BitVec.ofNat 32 b) = BitVec.ofNat 32 (a ||| b)
  exact BitVec.ofNat_or.symm
theorem pu_and (a b : Nat) : nI a &&& nI b = nI (a &&& b) := by
  apply Int32.toBitVec_inj.mp
  show (BitVec.ofNat 32 a &&& BitVec.ofNat 32 b) = BitVec.ofNat 32 (a &&& b)
  exact BitVec.ofNat_and.symm
theorem pu_not (a : Nat) : nI a ^^^ (-1) = nI (a ^^^ 4294967295) := by
  apply Int32.toBitVec_inj.mp
  show (BitVec.ofNat 32 a ^^^ BitVec.ofNat 32 4294967295) = BitVec.ofNat 32 (a ^^^ 4294967295)
  exact BitVec.ofNat_xor.symm
theorem pu_ones {j : Nat} (h : j < 32) : Nat.testBit 4294967295 j = true := by
  rw [show (4294967295 : Nat) = 2 ^ 32 - 1 from rfl, Nat.testBit_two_pow_sub_one]
  simpa using h
/-- without the flow f -/
def clr (R f : Nat) : Nat := R &&& (2 ^ f ^^^ 4294967295)
theorem clr_bit {R f j : Nat} (hj : j < 32) : (clr R f).testBit j = (R.testBit j && !(decide (j = f))) := by
  unfold clr
  rw [Nat.testBit_and, Nat.testBit_xor, pu_ones hj, Nat.testBit_two_pow]
  by_cases h : f = j
  · subst h; simp
  · have : ¬ j = f := fun e => h e.symm
    simp [h, this]
theorem clr_le (R f : Nat) : clr R f ≤ R := Nat.and_le_left
theorem set_bit {R f j : Nat} : (R ||| 2 ^ f).testBit j = (R.testBit j || decide (j = f)) := by
  rw [Nat.testBit_or, Nat.testBit_two_pow]
  by_cases h : f = j
  · subst h; simp
  · have : ¬ j = f := fun e => h e.symm
    simp [h, this]
theorem set_lt {R f F : Nat} (hR : R < 2 ^ F) (hf : f < F) : R ||| 2 ^ f < 2 ^ F := Nat.or_lt_two_pow hR (Nat.pow_lt_pow_right (by decide) hf)
theorem pu_1024 {R F : Nat} (hR : R < 2 ^ F) (hF : F ≤ 10) : R < 1024 := Nat.lt_of_lt_of_le hR (Nat.pow_le_pow_right (n := 2) (by decide) hF)
theorem pu_drop {R f : Nat} {rd : Nat → Int32} (h : f < 10) : fX3_dropReading (nI R) rd (nI f) = some (nI (clr R f), ya_up rd f 0) := by
  unfold fX3_dropReading
  rw [pu_bit h, Option.bind_some, pu_lt, pu_not, pu_and, pu_wr h (by decide), Option.bind_some]
  rfl
theorem pu_setR {R f : Nat} {rd : Nat → Int32} {x : Int32} (h : f < 10) : fX3_setReading (nI R) rd (nI f) x = some (nI (R ||| 2 ^ f), ya_up rd f x) := by
  unfold fX3_setReading
  rw [pu_bit h, Option.bind_some, pu_lt, pu_or, pu_wr h (by decide), Option.bind_some]
theorem pu_allSet {F : Nat} (h : F ≤ 10) : fX3_allSet (nI F) = some (nI (2 ^ F - 1)) := by
  unfold fX3_allSet
  match F, h with
  | 0, _ => decide +kernel
  | 1, _ => decide +kernel
  | 2, _ => decide +kernel
  | 3, _ => decide +kernel
  | 4, _ => decide +kernel
  | 5, _ => decide +kernel
  | 6, _ => decide +kernel
  | 7, _ => decide +kernel
  | 8, _ => decide +kernel
  | 9, _ => decide +kernel
  | 10, _ => decide +kernel
/-- the flows that are not read -/
def unr (F R : Nat) : Nat := (2 ^ F - 1) &&& (R ^^^ 4294967295)
theorem unr_bit {F R j : Nat} (hj : j < 32) : (unr F R).testBit j = (decide (j < F) && !R.testBit j) := by
  unfold unr
  rw [Nat.testBit_and, Nat.testBit_xor, pu_ones hj, Nat.testBit_two_pow_sub_one]
  simp
theorem unr_lt {F R : Nat} : unr F R < 2 ^ F := Nat.lt_of_le_of_lt Nat.and_le_left (Nat.sub_lt (Nat.two_pow_pos F) (by decide))
theorem pu_unread {F R : Nat} (h : F ≤ 10) : fX3_unreadSet (nI F) (nI R) = some (nI (unr F R)) := by
  unfold fX3_unreadSet
  rw [pu_allSet h, Option.bind_some, pu_not, pu_and]
  rfl
theorem pu_ext {F a b : Nat} (ha : a < 2 ^ F) (hb : b < 2 ^ F) (h : ∀ j, j < F → a.testBit j = b.testBit j) : a = b := by
  apply Nat.eq_of_testBit_eq
  intro j
  by_cases hj : j < F
  · exact h j hj
  · rw [Nat.testBit_lt_two_pow (Nat.lt_of_lt_of_le ha (Nat.pow_le_pow_right (by decide) (by omega))), Nat.testBit_lt_two_pow (Nat.lt_of_lt_of_le hb (Nat.pow_le_pow_right (by decide) (by omega)))]
/-! ===== is it a flow, is it a knot ===== -/
theorem pu_inrange {n : Nat} (hn : n ≤ 10) (x : Int32) : (∃ j, j < n ∧ x = nI j) ∨ ((x < 0 ∨ (¬ x < 0 ∧ nI n ≤ x)) ∧ ¬ (0 ≤ x ∧ x ≤ nI n - 1)) := by
  have e : (nI n - 1).toInt = (n : Int) - 1 := pk_sub_toInt (a := n) (b := 1) (by omega) (by decide)
  rcases pk_ix x (n := n) (by omega) with h | h | h
  · refine Or.inr ⟨Or.inl h, fun q => ?_⟩
    have q1 := q.1
    rw [Int32.le_iff_toInt_le] at q1
    rw [Int32.lt_iff_toInt_lt] at h
    omega
  · refine Or.inr ⟨?_, fun q => ?_⟩
    · by_cases h0 : x < 0
      · exact Or.inl h0
      · exact Or.inr ⟨h0, h⟩
    · have q2 := q.2
      rw [Int32.le_iff_toInt_le, e] at q2
      rw [Int32.le_iff_toInt_le, nI_toInt (by omega)] at h
      omega
  · exact Or.inl h
theorem pu_inIn {n j : Nat} (hn : n ≤ 10) (hj : j < n) : 0 ≤ nI j ∧ nI j ≤ nI n - 1 := by
  have e : (nI n - 1).toInt = (n : Int) - 1 := pk_sub_toInt (a := n) (b := 1) (by omega) (by decide)
  rw [Int32.le_iff_toInt_le, Int32.le_iff_toInt_le, e, nI_toInt (by omega), Int32.toInt_zero]
  omega
theorem pu_flow {F : Nat} (hF : F ≤ 10) {b : Nat → Int32} (hb : b 1 = nI F) (x : Int32) : (∃ f, f < F ∧ x = nI f ∧ fX4_isFlow (nI F) x = some 1 ∧ fX5_isFlow b x = some 1) ∨ (fX4_isFlow (nI F) x = some 0 ∧ fX5_isFlow b x = some 0) := by
  unfold fX4_isFlow fX5_isFlow
  rw [pu_flows, hb, Option.bind_some, pu_isIn, Option.bind_some, pu_bo, Option.bind_some]
  rcases pu_inrange hF x with ⟨f, hf, rfl⟩ | ⟨h1, h2⟩
  · exact Or.inl ⟨f, hf, rfl, by rw [if_neg (nI_pos (by omega)), if_neg (nI_ge hf (by omega))], by rw [if_pos (pu_inIn hF hf)]⟩
  · refine Or.inr ⟨?_, by rw [if_neg h2]⟩
    rcases h1 with h1 | ⟨h1, h3⟩
    · rw [if_pos h1]
    · rw [if_neg h1, if_pos h3]
theorem pu_knot {K : Nat} (hK : K ≤ 6) {b : Nat → Int32} (hb : b 0 = nI K) (x : Int32) : (∃ k, k < K ∧ x = nI k ∧ fX4_isKnot (nI K) x = some 1 ∧ fX5_isKnot b x = some 1) ∨ (fX4_isKnot (nI K) x = some 0 ∧ fX5_isKnot b x = some 0) := by
  unfold fX4_isKnot fX5_isKnot
  rw [pu_knots, hb, Option.bind_some, pu_isIn, Option.bind_some, pu_bo, Option.bind_some]
  rcases pu_inrange (n := K) (by omega) x with ⟨f, hf, rfl⟩ | ⟨h1, h2⟩
  · exact Or.inl ⟨f, hf, rfl, by rw [if_neg (nI_pos (by omega)), if_neg (nI_ge hf (by omega))], by rw [if_pos (pu_inIn (by omega) hf)]⟩
  · refine Or.inr ⟨?_, by rw [if_neg h2]⟩
    rcases h1 with h1 | ⟨h1, h3⟩
    · rw [if_pos h1]
    · rw [if_neg h1, if_pos h3]
/-- the two sides of a change of one flow -/
theorem RelF.bit {K R R' f : Nat} {fr tt rd ms pr kd ln : Int32} {sh b : Nat → Int32} (h : RelF K R f fr tt rd ms pr kd ln sh b) (e : R'.testBit f = R.testBit f) : RelF K R' f fr tt rd ms pr kd ln sh b := by
  unfold RelF at h ⊢
  rw [e]
  exact h
theorem RelW.upd {K F R R' f0 : Nat} {kn fl rs : Int32} {fr tt rd ms pr kd ln sh fr' tt' rd' ms' pr' kd' ln' sh' b b' : Nat → Int32} (h : RelW K F R kn fl rs fr tt rd ms pr kd ln sh b) (hf0 : f0 < F) (hR : R' < 2 ^ F) (hbit : ∀ f, f < F → f ≠ f0 → R'.testBit f = R.testBit f)
    (h1 : ∀ j, j ≠ f0 → fr' j = fr j) (h2 : ∀ j, j ≠ f0 → tt' j = tt j) (h3 : ∀ j, j ≠ f0 → rd' j = rd j) (h4 : ∀ j, j ≠ f0 → ms' j = ms j) (h5 : ∀ j, j ≠ f0 → pr' j = pr j) (h6 : ∀ j, j ≠ f0 → kd' j = kd j) (h7 : ∀ j, j ≠ f0 → ln' j = ln j) (h8 : ∀ j, j < 16 * f0 ∨ 16 * f0 + 16 ≤ j → sh' j = sh j) (hb : ∀ j, j < 2 + 24 * f0 ∨ 2 + 24 * f0 + 24 ≤ j → b' j = b j)
    (hF : RelF K R' f0 (fr' f0) (tt' f0) (rd' f0) (ms' f0) (pr' f0) (kd' f0) (ln' f0) (fun h => sh' (16 * f0 + h)) (fun w => b' (2 + 24 * f0 + w))) : RelW K F R' kn fl (nI R') fr' tt' rd' ms' pr' kd' ln' sh' b' := by
  obtain ⟨a0, a1, a2, a3, a4, a5, a6, a7, a8, a9⟩ := h
  refine ⟨a0, a1, a2, hR, a4, a5, rfl, by rw [hb 0 (by omega)]; exact a7, by rw [hb 1 (by omega)]; exact a8, fun f hf => ?_⟩
  by_cases e : f = f0
  · subst e; exact hF
  · rw [h1 f e, h2 f e, h3 f e, h4 f e, h5 f e, h6 f e, h7 f e]
    exact ((a9 f hf).bit (hbit f hf e)).congr (fun j hj => h8 _ (by omega)) (fun j hj => hb _ (by omega))
