/-! ===== sums and determinants of whole numbers ===== -/
def sm : Nat → (Nat → Int) → Int
  | 0, _ => 0
  | n + 1, f => sm n f + f n
theorem sm_succ (n : Nat) (f : Nat → Int) : sm (n + 1) f = sm n f + f n := rfl
theorem sm_congr {f g : Nat → Int} : ∀ n, (∀ c, c < n → f c = g c) → sm n f = sm n g
  | 0, _ => rfl
  | n + 1, h => by rw [sm_succ, sm_succ, sm_congr n (fun c hc => h c (by omega)), h n (by omega)]
theorem sm_lin (x y : Int) (f g : Nat → Int) : ∀ n, sm n (fun c => x * f c + y * g c) = x * sm n f + y * sm n g
  | 0 => by simp [sm]
  | n + 1 => by
    rw [sm_succ, sm_succ, sm_succ, sm_lin x y f g n]
    grind
theorem sm_add (f g : Nat → Int) (n : Nat) : sm n (fun c => f c + g c) = sm n f + sm n g := by
  have := sm_lin 1 1 f g n
  simpa using this
theorem sm_mul (x : Int) (f : Nat → Int) (n : Nat) : sm n (fun c => x * f c) = x * sm n f := by
  have := sm_lin x 0 f f n
  simpa using this
theorem sm_zero {f : Nat → Int} : ∀ n, (∀ c, c < n → f c = 0) → sm n f = 0
  | 0, _ => rfl
  | n + 1, h => by rw [sm_succ, sm_zero n (fun c hc => h c (by omega)), h n (by omega)]; rfl
theorem sm_one {f : Nat → Int} {k : Nat} : ∀ n, k < n → (∀ c, c < n → c ≠ k → f c = 0) → sm n f = f k
  | 0, h, _ => absurd h (Nat.not_lt_zero k)
  | n + 1, hk, h => by
    rw [sm_succ]
    by_cases e : k = n
    · subst e
      rw [sm_zero k (fun c hc => h c (by omega) (by omega)), Int.zero_add]
    · rw [sm_one n (by omega) (fun c hc hne => h c (by omega) hne), h n (by omega) (by omega), Int.add_zero]
theorem sm_two {f : Nat → Int} {k : Nat} : ∀ n, k + 1 < n → (∀ c, c < n → c ≠ k → c ≠ k + 1 → f c = 0) → sm n f = f k + f (k + 1)
  | 0, h, _ => absurd h (Nat.not_lt_zero _)
  | n + 1, hk, h => by
    rw [sm_succ]
    by_cases e : k + 1 = n
    · subst e
      rw [sm_succ, sm_zero k (fun c hc => h c (by omega) (by omega) (by omega)), Int.zero_add]
    · rw [sm_two n (by omega) (fun c hc h1 h2 => h c (by omega) h1 h2), h n (by omega) (by omega) (by omega), Int.add_zero]
theorem sm_comm (f : Nat → Nat → Int) (m : Nat) : ∀ n, sm n (fun i => sm m (fun j => f i j)) = sm m (fun j => sm n (fun i => f i j))
  | 0 => (sm_zero m (fun c _ => rfl)).symm
  | n + 1 => by
    rw [sm_succ, sm_comm f m n, ← sm_add]
    rfl
def skp (c j : Nat) : Nat := if j < c then j else j + 1
theorem sm_skip (f : Nat → Int) {c : Nat} : ∀ n, c ≤ n → sm (n + 1) f = sm n (fun j => f (skp c j)) + f c
  | 0, h => by
    have : c = 0 := by omega
    subst this
    rfl
  | n + 1, h => by
    by_cases e : c = n + 1
    · subst e
      rw [sm_succ]
      congr 1
      exact sm_congr _ (fun j hj => by unfold skp; rw [if_pos hj])
    · rw [sm_succ, sm_skip f (c := c) n (by omega), sm_succ n]
      have : skp c n = n + 1 := by unfold skp; rw [if_neg (by omega)]
      rw [this]
      omega
def sg (c : Nat) : Int := if c % 2 = 0 then 1 else -1
theorem sg_succ (c : Nat) : sg (c + 1) = - sg c := by
  unfold sg
  by_cases h : c % 2 = 0
  · rw [if_pos h, if_neg (by omega)]
  · rw [if_neg h, if_pos (by omega)]
    rfl
def mi (M : Nat → Nat → Int) (c : Nat) : Nat → Nat → Int := fun i j => M (i + 1) (skp c j)
def D : Nat → (Nat → Nat → Int) → Int
  | 0, _ => 1
  | n + 1, M => sm (n + 1) (fun c => sg c * M 0 c * D n (mi M c))
theorem D_succ (n : Nat) (M : Nat → Nat → Int) : D (n + 1) M = sm (n + 1) (fun c => sg c * M 0 c * D n (mi M c)) := rfl
theorem D_congr : ∀ (n : Nat) {M M' : Nat → Nat → Int}, (∀ i j, i < n → j < n → M i j = M' i j) → D n M = D n M'
  | 0, _, _, _ => rfl
  | n + 1, M, M', h => by
    rw [D_succ, D_succ]
    refine sm_congr _ (fun c hc => ?_)
    rw [h 0 c (by omega) hc, D_congr n (M := mi M c) (M' := mi M' c) (fun i j hi hj => h _ _ (by omega) (by unfold skp; split <;> omega))]
/-- column k is u -/
def cr (M : Nat → Nat → Int) (k : Nat) (u : Nat → Int) : Nat → Nat → Int := fun i j => if j = k then u i else M i j
theorem cr_eq {M : Nat → Nat → Int} {k i : Nat} {u : Nat → Int} : cr M k u i k = u i := if_pos rfl
theorem cr_ne {M : Nat → Nat → Int} {k i j : Nat} {u : Nat → Int} (h : j ≠ k) : cr M k u i j = M i j := if_neg h
theorem mi_cr {M : Nat → Nat → Int} {k c : Nat} {u : Nat → Int} (h : c ≠ k) : mi (cr M k u) c = cr (mi M c) (if k < c then k else k - 1) (fun i => u (i + 1)) := by
  funext i j
  unfold mi cr skp
  by_cases e : j = (if k < c then k else k - 1)
  · rw [if_pos e, if_pos]
    split at e <;> split <;> omega
  · rw [if_neg e, if_neg]
    split at e <;> split <;> omega
theorem mi_crE {M : Nat → Nat → Int} {k : Nat} {u : Nat → Int} : mi (cr M k u) k = mi M k := by
  funext i j
  unfold mi cr skp
  rw [if_neg]
  split <;> omega
theorem D_lin : ∀ (n : Nat) (M : Nat → Nat → Int) (k : Nat) (u v : Nat → Int) (x y : Int), k < n → D n (cr M k (fun i => x * u i + y * v i)) = x * D n (cr M k u) + y * D n (cr M k v)
  | 0, _, _, _, _, _, _, h => absurd h (Nat.not_lt_zero _)
  | n + 1, M, k, u, v, x, y, h => by
    rw [D_succ, D_succ, D_succ, ← sm_lin]
    refine sm_congr _ (fun c hc => ?_)
    by_cases e : c = k
    · subst e
      rw [mi_crE, mi_crE, mi_crE, cr_eq, cr_eq, cr_eq]
      grind
    · rw [mi_cr e, mi_cr e, mi_cr e, cr_ne e, cr_ne e, cr_ne e, D_lin n (mi M c) _ (fun i => u (i + 1)) (fun i => v (i + 1)) x y (by split <;> omega)]
      grind
theorem D_adj : ∀ (n : Nat) (M : Nat → Nat → Int) (k : Nat), k + 1 < n → (∀ i, i < n → M i k = M i (k + 1)) → D n M = 0
  | 0, _, _, h, _ => absurd h (Nat.not_lt_zero _)
  | n + 1, M, k, h, he => by
    rw [D_succ, sm_two (k := k) (n + 1) h (fun c hc h1 h2 => ?_)]
    · have hm : D n (mi M k) = D n (mi M (k + 1)) := D_congr n (fun i j hi hj => by
        unfold mi skp
        by_cases q : j = k
        · subst q
          rw [if_neg (by omega), if_pos (by omega)]
          exact (he (i + 1) (by omega)).symm
        · by_cases z : j < k
          · rw [if_pos z, if_pos (by omega)]
          · rw [if_neg z, if_neg (by omega)])
      rw [hm, sg_succ, he 0 (by omega)]
      grind
    · rw [D_adj n (mi M c) (if k + 1 < c then k else k - 1) (by split <;> omega) (fun i hi => ?_), Int.mul_zero]
      unfold mi skp
      by_cases q : k + 1 < c
      · rw [if_pos q, if_pos (by omega), if_pos (by omega)]
        exact he (i + 1) (by omega)
      · rw [if_neg q, if_neg (by omega), if_neg (by omega)]
        have := he (i + 1) (by omega)
        rw [show k - 1 + 1 = k by omega]
        exact this
/-- two columns beside each other in turn -/
theorem D_swap {n : Nat} {M : Nat → Nat → Int} {k : Nat} (h : k + 1 < n) (u v : Nat → Int) : D n (cr (cr M k u) (k + 1) v) = - D n (cr (cr M k v) (k + 1) u) := by
  have hcomm : ∀ p q : Nat → Int, cr (cr M k p) (k + 1) q = cr (cr M (k + 1) q) k p := by
    intro p q
    funext i j
    unfold cr
    by_cases e1 : j = k
    · rw [if_neg (by omega), if_pos e1, if_pos e1]
    · rw [if_neg e1, if_neg e1]
  have e0 : ∀ p : Nat → Int, D n (cr (cr M k p) (k + 1) p) = 0 := fun p => D_adj n _ k h (fun i hi => by rw [cr_ne (by omega), cr_eq, cr_eq])
  have e1 : D n (cr (cr M k (fun i => 1 * u i + 1 * v i)) (k + 1) (fun i => 1 * u i + 1 * v i)) = 0 := e0 _
  rw [D_lin n _ (k + 1) u v 1 1 h, hcomm, hcomm, D_lin n _ k u v 1 1 (by omega), D_lin n _ k u v 1 1 (by omega), ← hcomm, ← hcomm, ← hcomm, ← hcomm, e0 u, e0 v] at e1
  omega
theorem D_equal {n : Nat} : ∀ (d : Nat) (M : Nat → Nat → Int) (p : Nat), p + d + 1 < n → (∀ i, i < n → M i p = M i (p + d + 1)) → D n M = 0
  | 0, M, p, h, he => D_adj n M p h he
  | d + 1, M, p, h, he => by
    have eM : M = cr (cr M (p + d + 1) (fun i => M i (p + d + 1))) (p + d + 1 + 1) (fun i => M i (p + d + 1 + 1)) := by
      funext i j
      unfold cr
      by_cases e1 : j = p + d + 1 + 1
      · rw [if_pos e1, e1]
      · rw [if_neg e1]
        by_cases e2 : j = p + d + 1
        · rw [if_pos e2, e2]
        · rw [if_neg e2]
    rw [eM, D_swap (by omega), D_equal d _ p (by omega) (fun i hi => ?_)]
    · rfl
    · rw [cr_ne (by omega), cr_ne (by omega), cr_ne (by omega), cr_eq]
      exact he i hi
theorem D_zero {n k : Nat} {M : Nat → Nat → Int} (h : k < n) : D n (cr M k (fun _ => 0)) = 0 := by
  have := D_lin n M k (fun _ => 0) (fun _ => 0) 0 0 h
  simpa using this
theorem D_sum {n k : Nat} {M : Nat → Nat → Int} (hk : k < n) (y : Nat → Int) : ∀ m, D n (cr M k (fun i => sm m (fun j => M i j * y j))) = sm m (fun j => y j * D n (cr M k (fun i => M i j)))
  | 0 => D_zero hk
  | m + 1 => by
    rw [sm_succ, ← D_sum hk y m]
    have := D_lin n M k (fun i => sm m (fun j => M i j * y j)) (fun i => M i m) 1 (y m) hk
    rw [Int.one_mul] at this
    rw [← this]
    refine congrArg (D n) (congrArg (cr M k) (funext fun i => ?_))
    rw [sm_succ, Int.one_mul, Int.mul_comm (y m)]
/-- what solves a system is told by determinants -/
theorem D_cramer {n k : Nat} {M : Nat → Nat → Int} {y r : Nat → Int} {t : Int} (hk : k < n) (h : ∀ i, i < n → sm n (fun j => M i j * y j) = t * r i) : t * D n (cr M k r) = y k * D n M := by
  have e1 : D n (cr M k (fun i => sm n (fun j => M i j * y j))) = t * D n (cr M k r) := by
    have := D_lin n M k r r t 0 hk
    rw [Int.zero_mul, Int.add_zero] at this
    rw [← this]
    exact D_congr n (fun i j hi hj => by
      unfold cr
      by_cases e : j = k
      · rw [if_pos e, if_pos e]
        show sm n (fun j => M i j * y j) = t * r i + 0 * r i
        rw [h i hi, Int.zero_mul, Int.add_zero]
      · rw [if_neg e, if_neg e])
  rw [← e1, D_sum hk, sm_one (k := k) n hk (fun c hc hne => ?_)]
  · congr 1
    exact D_congr n (fun i j hi hj => by
      unfold cr
      by_cases e : j = k
      · rw [if_pos e, e]
      · rw [if_neg e])
  · have : D n (cr M k (fun i => M i c)) = 0 := by
      by_cases z : c < k
      · refine D_equal (k - c - 1) _ c (by omega) (fun i hi => ?_)
        rw [show c + (k - c - 1) + 1 = k by omega, cr_eq, cr_ne (by omega)]
      · refine D_equal (c - k - 1) _ k (by omega) (fun i hi => ?_)
        rw [show k + (c - k - 1) + 1 = c by omega, cr_eq, cr_ne (by omega)]
    rw [this, Int.mul_zero]
theorem D_last : ∀ (n : Nat) (M : Nat → Nat → Int), (∀ i, i < n → M i n = 0) → M n n = 1 → D (n + 1) M = D n M
  | 0, M, _, h => by
    rw [D_succ, sm_succ]
    show (0 : Int) + sg 0 * M 0 0 * 1 = 1
    rw [h]
    rfl
  | n + 1, M, h0, h1 => by
    rw [D_succ, sm_succ, h0 0 (by omega), Int.mul_zero, Int.zero_mul, Int.add_zero, D_succ n]
    refine sm_congr _ (fun c hc => ?_)
    rw [D_last n (mi M c) (fun i hi => by
      unfold mi skp
      rw [if_neg (by omega)]
      exact h0 (i + 1) (by omega)) (by
      unfold mi skp
      rw [if_neg (by omega)]
      exact h1)]
def pd : Nat → (Nat → Nat) → Nat
  | 0, _ => 1
  | n + 1, B => B 0 * pd n (fun i => B (i + 1))
theorem sm_abs {f : Nat → Int} : ∀ n, (sm n f).natAbs ≤ (sm n (fun c => ((f c).natAbs : Int))).toNat
  | 0 => Nat.le_refl 0
  | n + 1 => by
    have ih := sm_abs (f := f) n
    rw [sm_succ, sm_succ]
    have h2 : 0 ≤ sm n (fun c => ((f c).natAbs : Int)) := by
      clear ih
      induction n with
      | zero => exact Int.le_refl 0
      | succ n ih => rw [sm_succ]; omega
    omega
theorem sm_nonneg {f : Nat → Int} : ∀ n, (∀ c, c < n → 0 ≤ f c) → 0 ≤ sm n f
  | 0, _ => Int.le_refl 0
  | n + 1, h => by
    rw [sm_succ]
    have h1 := sm_nonneg n (fun c hc => h c (by omega))
    have h2 := h n (by omega)
    omega
theorem sm_le {f g : Nat → Int} : ∀ n, (∀ c, c < n → f c ≤ g c) → sm n f ≤ sm n g
  | 0, _ => Int.le_refl 0
  | n + 1, h => by
    rw [sm_succ, sm_succ]
    have h1 := sm_le n (fun c hc => h c (by omega))
    have h2 := h n (by omega)
    omega
/-- a determinant is at most the product of the sums of its rows -/
theorem D_bound : ∀ (n : Nat) (M : Nat → Nat → Int) (B : Nat → Nat), (∀ i, i < n → sm n (fun j => ((M i j).natAbs : Int)) ≤ B i) → (D n M).natAbs ≤ pd n B
  | 0, _, _, _ => Nat.le_refl 1
  | n + 1, M, B, h => by
    rw [D_succ]
    refine Nat.le_trans (sm_abs (n + 1)) ?_
    have key : sm (n + 1) (fun c => (((sg c * M 0 c * D n (mi M c)).natAbs : Nat) : Int)) ≤ sm (n + 1) (fun c => (pd n (fun i => B (i + 1)) : Int) * ((M 0 c).natAbs : Int)) := by
      refine sm_le _ (fun c hc => ?_)
      have hD := D_bound n (mi M c) (fun i => B (i + 1)) (fun i hi => by
        have := h (i + 1) (by omega)
        rw [sm_skip _ (c := c) n (by omega)] at this
        unfold mi
        omega)
      have hs : (sg c).natAbs = 1 := by
        unfold sg
        split <;> rfl
      rw [Int.natAbs_mul, Int.natAbs_mul, hs, Nat.one_mul, ← Int.natCast_mul]
      have := Nat.mul_le_mul_left (M 0 c).natAbs hD
      rw [Nat.mul_comm (pd n _)]
      omega
    rw [sm_mul] at key
    have h0 := h 0 (by omega)
    have h3 := Int.mul_le_mul_of_nonneg_left h0 (show (0 : Int) ≤ (pd n (fun i => B (i + 1)) : Int) by omega)
    show _ ≤ B 0 * pd n (fun i => B (i + 1))
    have h4 : ((B 0 * pd n (fun i => B (i + 1)) : Nat) : Int) = (pd n (fun i => B (i + 1)) : Int) * (B 0 : Int) := by
      rw [Int.natCast_mul, Int.mul_comm]
    omega
/-! ===== elimination without fractions ===== -/
def Em (A : Nat → Nat → Int) (m a b : Nat) : Int := D m (cr A a (fun i => A i b))
def Fm (A : Nat → Nat → Int) (m a b : Nat) : Int := D m A * A a b - sm m (fun k => A a k * Em A m k b)
def Cr (A : Nat → Nat → Int) (m : Nat) : Prop := ∀ i, i < m → ∀ b, sm m (fun k => A i k * Em A m k b) = D m A * A i b
theorem Fm_sum {A : Nat → Nat → Int} {m : Nat} (h : Cr A m) {i : Nat} (hi : i ≤ m) (b : Nat) : sm m (fun k => A i k * Em A m k b) = D m A * A i b - (if i = m then Fm A m m b else 0) := by
  by_cases e : i = m
  · rw [if_pos e, e]
    unfold Fm
    omega
  · rw [if_neg e, h i (by omega) b, Int.sub_zero]
theorem el_det {A : Nat → Nat → Int} {m : Nat} (h : Cr A m) (hd : D m A ≠ 0) : D (m + 1) A = Fm A m m m := by
  have key := D_cramer (n := m + 1) (k := m) (M := A) (y := fun k => if k < m then - Em A m k m else D m A) (r := fun i => if i = m then 1 else 0) (t := Fm A m m m) (by omega) (fun i hi => by
    rw [sm_succ, if_neg (Nat.lt_irrefl m), sm_congr m (g := fun k => (-1) * (A i k * Em A m k m)) (fun c hc => by
      rw [if_pos hc]
      grind), sm_mul, Fm_sum h (by omega)]
    by_cases e : i = m
    · rw [if_pos e, if_pos e, e]
      grind
    · rw [if_neg e, if_neg e]
      grind)
  rw [D_last m _ (fun i hi => by rw [cr_eq, if_neg (by omega)]) (by rw [cr_eq, if_pos rfl]), D_congr m (M := cr A m (fun i => if i = m then 1 else 0)) (M' := A) (fun i j hi hj => cr_ne (by omega)), if_neg (Nat.lt_irrefl m), Int.mul_comm] at key
  exact (Int.eq_of_mul_eq_mul_left hd key).symm
/-- the solution of the next stage, times what the last one ended with -/
theorem el_next {A : Nat → Nat → Int} {m : Nat} (h : Cr A m) (b : Nat) : ∀ i, i < m + 1 → sm (m + 1) (fun k => A i k * (if k < m then Fm A m m m * Em A m k b - Em A m k m * Fm A m m b else D m A * Fm A m m b)) = D m A * Fm A m m m * A i b := by
  intro i hi
  rw [sm_succ, if_neg (Nat.lt_irrefl m), sm_congr m (g := fun k => Fm A m m m * (A i k * Em A m k b) + (- Fm A m m b) * (A i k * Em A m k m)) (fun c hc => by
    rw [if_pos hc]
    grind), sm_lin, Fm_sum h (by omega), Fm_sum h (by omega)]
  by_cases e : i = m
  · rw [if_pos e, if_pos e, e]
    grind
  · rw [if_neg e, if_neg e]
    grind
theorem el_cr {A : Nat → Nat → Int} {m : Nat} (h : Cr A m) (hd : D m A ≠ 0) (hd2 : Fm A m m m ≠ 0) : (∀ a b, a < m → D m A * Em A (m + 1) a b = Fm A m m m * Em A m a b - Em A m a m * Fm A m m b) ∧ (∀ b, Em A (m + 1) m b = Fm A m m b) ∧ Cr A (m + 1) := by
  have hdet := el_det h hd
  have key : ∀ b k, k < m + 1 → D m A * Em A (m + 1) k b = (if k < m then Fm A m m m * Em A m k b - Em A m k m * Fm A m m b else D m A * Fm A m m b) := by
    intro b k hk
    have := D_cramer (r := fun i => A i b) hk (el_next h b)
    rw [hdet, Int.mul_comm (D m A), Int.mul_assoc, Int.mul_comm (if k < m then _ else _)] at this
    exact Int.eq_of_mul_eq_mul_left hd2 this
  refine ⟨fun a b ha => ?_, fun b => ?_, fun i hi b => ?_⟩
  · have := key b a (by omega)
    rw [if_pos ha] at this
    exact this
  · have := key b m (by omega)
    rw [if_neg (Nat.lt_irrefl m)] at this
    exact Int.eq_of_mul_eq_mul_left hd this
  · have := el_next h b i hi
    rw [sm_congr (m + 1) (g := fun k => D m A * (A i k * Em A (m + 1) k b)) (fun c hc => by
      rw [← key b c hc]
      grind), sm_mul, Int.mul_assoc] at this
    rw [hdet]
    exact Int.eq_of_mul_eq_mul_left hd this
theorem el_F {A : Nat → Nat → Int} {m : Nat} (h : Cr A m) (hd : D m A ≠ 0) (hd2 : Fm A m m m ≠ 0) (a b : Nat) : D m A * Fm A (m + 1) a b = Fm A m m m * Fm A m a b - Fm A m a m * Fm A m m b := by
  obtain ⟨h1, h2, -⟩ := el_cr h hd hd2
  have e : D m A * Fm A (m + 1) a b = D m A * (D (m + 1) A * A a b) - sm (m + 1) (fun k => D m A * (A a k * Em A (m + 1) k b)) := by
    unfold Fm
    rw [sm_mul]
    grind
  rw [e, el_det h hd, sm_succ, h2, sm_congr m (g := fun k => Fm A m m m * (A a k * Em A m k b) + (- Fm A m m b) * (A a k * Em A m k m)) (fun c hc => by
    have := h1 c b hc
    grind), sm_lin]
  have ea : sm m (fun k => A a k * Em A m k b) = D m A * A a b - Fm A m a b := by
    unfold Fm
    omega
  have eb : sm m (fun k => A a k * Em A m k m) = D m A * A a m - Fm A m a m := by
    unfold Fm
    omega
  rw [ea, eb]
  grind
theorem Cr_0 (A : Nat → Nat → Int) : Cr A 0 := fun i hi => absurd hi (Nat.not_lt_zero i)
/-- what the pivot is good for: a vector whose square by A is the product of two pivots -/
theorem el_sq {A : Nat → Nat → Int} {m : Nat} (h : Cr A m) (hd : D m A ≠ 0) : sm (m + 1) (fun i => (if i < m then - Em A m i m else D m A) * sm (m + 1) (fun k => A i k * (if k < m then - Em A m k m else D m A))) = D m A * D (m + 1) A := by
  have inner : ∀ i, i < m + 1 → sm (m + 1) (fun k => A i k * (if k < m then - Em A m k m else D m A)) = if i = m then Fm A m m m else 0 := by
    intro i hi
    rw [sm_succ, if_neg (Nat.lt_irrefl m), sm_congr m (g := fun k => (-1) * (A i k * Em A m k m)) (fun c hc => by
      rw [if_pos hc]
      grind), sm_mul, Fm_sum h (by omega)]
    by_cases e : i = m
    · rw [if_pos e, e]
      grind
    · rw [if_neg e]
      grind
  rw [sm_succ, if_neg (Nat.lt_irrefl m), inner m (by omega), if_pos rfl, sm_zero m (fun c hc => by rw [inner c (by omega), if_neg (show ¬ c = m by omega), Int.mul_zero]), el_det h hd, Int.zero_add]
