/-! ===== numbers, reads and writes of small indices ===== -/
theorem pu_rd {α : Type} {f : Nat → α} {n i : Nat} (h : i < n) (hn : n < 2 ^ 31) : ya_rd f n (nI i) = some (f i) := by
  unfold ya_rd
  rw [if_neg (nI_in h hn), nI_clamp (by omega)]
theorem pu_wr {α : Type} {f : Nat → α} {n i : Nat} {x : α} (h : i < n) (hn : n < 2 ^ 31) : ya_wr f n (nI i) x = some (ya_up f i x) := by
  unfold ya_wr
  rw [if_neg (nI_in h hn), nI_clamp (by omega)]
theorem pu_ix {n i : Nat} (h : i < n) (hn : n < 2 ^ 31) : ya_ix n (nI i) = some i := by
  unfold ya_ix
  rw [if_neg (nI_in h hn), nI_clamp (by omega)]
theorem ya_up_eq {α : Type} {f : Nat → α} {k : Nat} {x : α} : ya_up f k x k = x := if_pos rfl
theorem ya_up_ne {α : Type} {f : Nat → α} {k j : Nat} {x : α} (h : j ≠ k) : ya_up f k x j = f j := if_neg h
theorem pu_lt {α β : Type} (a : α) (k : α → Option β) : ya_lt a k = k a := rfl
theorem pu_inc (i : Nat) : nI i + 1 = nI (i + 1) := nI_1 i
theorem pu_irm {a : Nat} (ha : a < 2 ^ 31) : ya_irm (nI a) 6 = some (nI (a % 6)) := by
  unfold ya_irm
  rw [if_neg (by decide), show (6 : Int32) = nI 6 from rfl, pk_rem ha (by decide) (by decide)]
theorem pu_idx (f w : Nat) : (2 + (24 * nI f)) + nI w = nI (2 + 24 * f + w) := by
  show (nI 2 + nI 24 * nI f) + nI w = _
  rw [pk_mul, nI_add, nI_add]
theorem pu_get {b : Nat → Int32} {f : Nat} {x : Int32} (w : Nat) (hx : x = nI w) (h : 2 + 24 * f + w < 242) : fX5_get b (nI f) x = some (b (2 + 24 * f + w)) := by
  subst hx
  unfold fX5_get
  rw [pu_idx, pu_rd h (by decide)]
  rfl
theorem pu_set {b : Nat → Int32} {f : Nat} {x v : Int32} (w : Nat) (hx : x = nI w) (h : 2 + 24 * f + w < 242) : fX5_set b (nI f) x v = some (ya_up b (2 + 24 * f + w) v) := by
  subst hx
  unfold fX5_set
  rw [pu_idx, pu_wr h (by decide)]
  rfl
theorem pu_knots {b : Nat → Int32} : fX5_knots b = some (b 0) := by
  unfold fX5_knots
  rw [show (0 : Int32) = nI 0 from rfl, pu_rd (by decide) (by decide)]
  rfl
theorem pu_flows {b : Nat → Int32} : fX5_flows b = some (b 1) := by
  unfold fX5_flows
  rw [show (1 : Int32) = nI 1 from rfl, pu_rd (by decide) (by decide)]
  rfl
theorem pu_isIn (x a b : Int32) : fX5_isIn x a b = some (if a ≤ x ∧ x ≤ b then 1 else 0) := by
  unfold fX5_isIn
  by_cases h1 : x < a
  · rw [if_pos h1, if_neg]
    rintro ⟨h2, -⟩
    rw [Int32.lt_iff_toInt_lt] at h1
    rw [Int32.le_iff_toInt_le] at h2
    omega
  · rw [if_neg h1]
    by_cases h2 : b < x
    · rw [if_pos h2, if_neg]
      rintro ⟨-, h3⟩
      rw [Int32.lt_iff_toInt_lt] at h2
      rw [Int32.le_iff_toInt_le] at h3
      omega
    · rw [if_neg h2, if_pos]
      rw [Int32.lt_iff_toInt_lt] at h1 h2
      rw [Int32.le_iff_toInt_le, Int32.le_iff_toInt_le]
      omega
theorem pu_bo {p : Prop} [Decidable p] : ya_bo (if p then 1 else 0) = some (if p then 1 else 0) := by
  unfold ya_bo
  by_cases h : p <;> simp [h]
/-! ===== the relation of the two states ===== -/
/-- a flow of the class beside one of the reference; R: the set of the read ones -/
def RelF (K R f : Nat) (fr tt rd ms pr kd ln : Int32) (sh : Nat → Int32) (b : Nat → Int32) : Prop :=
  (∃ a c : Nat, a < K ∧ c < K ∧ a ≠ c ∧ fr = nI a ∧ tt = nI c) ∧ b 0 = fr ∧ b 1 = tt ∧ b 2 = (if R.testBit f then 1 else 0) ∧ b 3 = rd ∧ (R.testBit f = false → rd = 0) ∧ (-2000 ≤ rd.toInt ∧ rd.toInt ≤ 2000) ∧
  b 4 = ms ∧ (1 ≤ ms.toInt ∧ ms.toInt ≤ 4) ∧ b 5 = pr ∧ (0 ≤ pr.toInt ∧ pr.toInt ≤ 99) ∧ b 6 = kd ∧ (-1 ≤ kd.toInt ∧ kd.toInt ≤ 3) ∧ b 7 = ln ∧ (0 ≤ ln.toInt ∧ ln.toInt ≤ 16) ∧ (kd = -1 → ln = 0) ∧
  ∀ h : Nat, h < 16 → (h : Int) < ln.toInt → (-128 ≤ (sh h).toInt ∧ (sh h).toInt ≤ 127) ∧ b (8 + h) = (if kd = 3 ∧ sh h = -128 then -1000000 else 10 * sh h)
def RelW (K F R : Nat) (kn fl rs : Int32) (fr tt rd ms pr kd ln sh : Nat → Int32) (b : Nat → Int32) : Prop :=
  2 ≤ K ∧ K ≤ 6 ∧ F ≤ 10 ∧ R < 2 ^ F ∧ kn = nI K ∧ fl = nI F ∧ rs = nI R ∧ b 0 = nI K ∧ b 1 = nI F ∧
  ∀ f, f < F → RelF K R f (fr f) (tt f) (rd f) (ms f) (pr f) (kd f) (ln f) (fun h => sh (16 * f + h)) (fun w => b (2 + 24 * f + w))
theorem RelF.congr {K R f : Nat} {fr tt rd ms pr kd ln : Int32} {sh sh' b b' : Nat → Int32} (h : RelF K R f fr tt rd ms pr kd ln sh b) (h1 : ∀ j, j < 16 → sh' j = sh j) (h2 : ∀ j, j < 24 → b' j = b j) : RelF K R f fr tt rd ms pr kd ln sh' b' := by
  obtain ⟨a0, a1, a2, a3, a4, a5, a6, a7, a8, a9, a10, a11, a12, a13, a14, a15, a16⟩ := h
  refine ⟨a0, by rw [h2 0 (by decide)]; exact a1, by rw [h2 1 (by decide)]; exact a2, by rw [h2 2 (by decide)]; exact a3, by rw [h2 3 (by decide)]; exact a4, a5, a6, by rw [h2 4 (by decide)]; exact a7, a8, by rw [h2 5 (by decide)]; exact a9, a10, by rw [h2 6 (by decide)]; exact a11, a12, by rw [h2 7 (by decide)]; exact a13, a14, a15, fun h hh hl => ?_⟩
  rw [h1 h hh, h2 (8 + h) (by omega)]
  exact a16 h hh hl
theorem RelW.congr {K F R : Nat} {kn fl rs : Int32} {fr tt rd ms pr kd ln sh fr' tt' rd' ms' pr' kd' ln' sh' b b' : Nat → Int32} (h : RelW K F R kn fl rs fr tt rd ms pr kd ln sh b) (h1 : ∀ j, j < 10 → fr' j = fr j) (h2 : ∀ j, j < 10 → tt' j = tt j) (h3 : ∀ j, j < 10 → rd' j = rd j) (h4 : ∀ j, j < 10 → ms' j = ms j) (h5 : ∀ j, j < 10 → pr' j = pr j) (h6 : ∀ j, j < 10 → kd' j = kd j) (h7 : ∀ j, j < 10 → ln' j = ln j) (h8 : ∀ j, j < 160 → sh' j = sh j) (hb : ∀ j, j < 242 → b' j = b j) : RelW K F R kn fl rs fr' tt' rd' ms' pr' kd' ln' sh' b' := by
  obtain ⟨a0, a1, a2, a3, a4, a5, a6, a7, a8, a9⟩ := h
  refine ⟨a0, a1, a2, a3, a4, a5, a6, by rw [hb 0 (by decide)]; exact a7, by rw [hb 1 (by decide)]; exact a8, fun f hf => ?_⟩
  rw [h1 f (by omega), h2 f (by omega), h3 f (by omega), h4 f (by omega), h5 f (by omega), h6 f (by omega), h7 f (by omega)]
  exact (a9 f hf).congr (fun j hj => h8 _ (by omega)) (fun j hj => hb _ (by omega))
def RelP (next count many : Int32) (kn fl rs : Nat → Int32) (fr tt rd ms pr kd ln sh : Nat → Nat → Int32) (bf : Nat → Int32) : Prop :=
  ∃ nx c : Nat, nx < 6 ∧ c ≤ 6 ∧ next = nI nx ∧ count = nI c ∧ many = nI c ∧
  ∀ i, i < c → ∃ K F R, RelW K F R (kn ((nx + 6 - c + i) % 6)) (fl ((nx + 6 - c + i) % 6)) (rs ((nx + 6 - c + i) % 6)) (fr ((nx + 6 - c + i) % 6)) (tt ((nx + 6 - c + i) % 6)) (rd ((nx + 6 - c + i) % 6)) (ms ((nx + 6 - c + i) % 6)) (pr ((nx + 6 - c + i) % 6)) (kd ((nx + 6 - c + i) % 6)) (ln ((nx + 6 - c + i) % 6)) (sh ((nx + 6 - c + i) % 6)) (fun j => bf (242 * i + j))
/-! ===== keep ===== -/
theorem pu_min6 {c : Nat} (hc : c ≤ 6) : (if (6 : Int32) < nI c + 1 then 6 else nI c + 1) = nI (min (c + 1) 6) := by
  rw [nI_1, show (6 : Int32) = nI 6 from rfl]
  by_cases h : 6 < c + 1
  · rw [if_pos (nI_lt h (by omega)), Nat.min_eq_right (by omega)]
  · rw [if_neg (nI_nlt (by omega) (by omega)), Nat.min_eq_left (by omega)]
theorem pu_cpy {f g : Nat → Int32} {n j : Nat} (h : j < n) : va_cpy f g 0 0 n j = f j := by
  rw [pk_cpy_in (Nat.zero_le _) (by omega)]
  simp
theorem pu_keepC {nx c : Nat} (hnx : nx < 6) (hc : c ≤ 6) (kK fK rK : Nat → Int32) (frK ttK rdK msK prK kdK lnK shK : Nat → Nat → Int32) (kn fl rs : Int32) (fr tt rd ms pr kd ln sh : Nat → Int32) :
    fX2_keep (nI nx) (nI c) kK fK rK frK ttK rdK msK prK kdK lnK shK kn fl rs fr tt rd ms pr kd ln sh = some (nI ((nx + 1) % 6), nI (min (c + 1) 6), ya_up kK nx kn, ya_up fK nx fl, ya_up rK nx rs, ya_up frK nx (va_cpy fr (frK nx) 0 0 10), ya_up ttK nx (va_cpy tt (ttK nx) 0 0 10), ya_up rdK nx (va_cpy rd (rdK nx) 0 0 10), ya_up msK nx (va_cpy ms (msK nx) 0 0 10), ya_up prK nx (va_cpy pr (prK nx) 0 0 10), ya_up kdK nx (va_cpy kd (kdK nx) 0 0 10), ya_up lnK nx (va_cpy ln (lnK nx) 0 0 10), ya_up shK nx (va_cpy sh (shK nx) 0 0 160)) := by
  unfold fX2_keep
  rw [pu_ix hnx (by decide), Option.bind_some]
  unfold fX3_copyFrom
  simp only [pu_lt, Option.bind_some]
  rw [pu_min6 hc, nI_1, pu_irm (by omega), Option.bind_some]
theorem pu_keep11 {N : Nat} : ∀ (n i : Nat) (bf : Nat → Int32), i ≤ 1210 → 1210 - i < n → fX5_keep_L11 N n (nI i) bf = some (fun j => if i ≤ j ∧ j < 1210 then bf (j + 242) else bf j) := by
  intro n
  induction n with
  | zero => intro i bf h1 h2; omega
  | succ n ih =>
    intro i bf h1 h2
    unfold fX5_keep_L11
    by_cases h : i = 1210
    · subst h
      rw [if_pos (show (1210 : Int32) ≤ nI 1210 from nI_le (a := 1210) (Nat.le_refl _) (by decide))]
      refine congrArg some (funext fun j => ?_)
      rw [if_neg (by omega)]
    · rw [if_neg (show ¬ (1210 : Int32) ≤ nI i from nI_ge (b := 1210) (by omega) (by decide)), show nI i + (242 : Int32) = nI (i + 242) from nI_add i 242, pu_rd (by omega) (by decide), Option.bind_some, pu_wr (by omega) (by decide), Option.bind_some, pu_lt, nI_1, ih (i + 1) _ (by omega) (by omega)]
      refine congrArg some (funext fun j => ?_)
      by_cases hj : j = i
      · subst hj
        rw [if_neg (by omega), if_pos (by omega), ya_up_eq]
      · by_cases hk : i + 1 ≤ j ∧ j < 1210
        · rw [if_pos hk, if_pos (by omega), ya_up_ne (by omega)]
        · rw [if_neg hk, if_neg (by omega), ya_up_ne hj]
theorem pu_keep52 {N c : Nat} (hc : c < 6) (now : Nat → Int32) : ∀ (n i : Nat) (bf : Nat → Int32), i ≤ 242 → 242 - i < n → fX5_keep_L52 N n (nI i) (nI c) now bf = some (fun j => if 242 * c + i ≤ j ∧ j < 242 * c + 242 then now (j - 242 * c) else bf j) := by
  intro n
  induction n with
  | zero => intro i bf h1 h2; omega
  | succ n ih =>
    intro i bf h1 h2
    unfold fX5_keep_L52
    by_cases h : i = 242
    · subst h
      rw [if_pos (show (242 : Int32) ≤ nI 242 from nI_le (a := 242) (Nat.le_refl _) (by decide))]
      refine congrArg some (funext fun j => ?_)
      rw [if_neg (by omega)]
    · rw [if_neg (show ¬ (242 : Int32) ≤ nI i from nI_ge (b := 242) (by omega) (by decide)), pu_rd (by omega) (by decide), Option.bind_some, show ((242 : Int32) * nI c) + nI i = nI (242 * c + i) from by rw [show (242 : Int32) = nI 242 from rfl, pk_mul, nI_add], pu_wr (by omega) (by decide), Option.bind_some, pu_lt, nI_1, ih (i + 1) _ (by omega) (by omega)]
      refine congrArg some (funext fun j => ?_)
      by_cases hj : j = 242 * c + i
      · subst hj
        rw [if_neg (by omega), if_pos (by omega), ya_up_eq]
        exact congrArg _ (by omega)
      · by_cases hk : 242 * c + (i + 1) ≤ j ∧ j < 242 * c + 242
        · rw [if_pos hk, if_pos (by omega)]
        · rw [if_neg hk, if_neg (by omega), ya_up_ne hj]
theorem pu_keepM {N c : Nat} (hN : 5000 ≤ N) (hc : c ≤ 6) (now bf : Nat → Int32) : ∃ bf' : Nat → Int32, fX5_keep N (nI c) now bf = some (nI (min (c + 1) 6), bf') ∧ (c < 6 → (∀ i j, i < c → j < 242 → bf' (242 * i + j) = bf (242 * i + j)) ∧ ∀ j, j < 242 → bf' (242 * c + j) = now j) ∧ (c = 6 → (∀ i j, i < 5 → j < 242 → bf' (242 * i + j) = bf (242 * (i + 1) + j)) ∧ ∀ j, j < 242 → bf' (242 * 5 + j) = now j) := by
  unfold fX5_keep
  by_cases h : c = 6
  · subst h
    have e1 := pu_keep11 (N := N) N 0 bf (by decide) (by omega)
    have e2 := pu_keep52 (N := N) (c := 5) (by decide) now N 0 (fun j => if 0 ≤ j ∧ j < 1210 then bf (j + 242) else bf j) (by decide) (by omega)
    refine ⟨fun j => if 242 * 5 + 0 ≤ j ∧ j < 242 * 5 + 242 then now (j - 242 * 5) else (if 0 ≤ j ∧ j < 1210 then bf (j + 242) else bf j), ?_, fun h => absurd h (Nat.lt_irrefl 6), fun _ => ⟨fun i j hi hj => ?_, fun j hj => ?_⟩⟩
    · rw [if_pos (show nI 6 = (6 : Int32) from rfl), show (0 : Int32) = nI 0 from rfl, e1, Option.bind_some, pu_lt, show nI 6 - (1 : Int32) = nI 5 from rfl, e2, Option.bind_some, pu_lt]
      rfl
    · show (if 242 * 5 + 0 ≤ 242 * i + j ∧ 242 * i + j < 242 * 5 + 242 then now (242 * i + j - 242 * 5) else (if 0 ≤ 242 * i + j ∧ 242 * i + j < 1210 then bf (242 * i + j + 242) else bf (242 * i + j))) = bf (242 * (i + 1) + j)
      rw [if_neg (by omega), if_pos (by omega)]
      exact congrArg _ (by omega)
    · show (if 242 * 5 + 0 ≤ 242 * 5 + j ∧ 242 * 5 + j < 242 * 5 + 242 then now (242 * 5 + j - 242 * 5) else _) = now j
      rw [if_pos (by omega)]
      exact congrArg _ (by omega)
  · have e2 := pu_keep52 (N := N) (c := c) (by omega) now N 0 bf (by decide) (by omega)
    refine ⟨fun j => if 242 * c + 0 ≤ j ∧ j < 242 * c + 242 then now (j - 242 * c) else bf j, ?_, fun _ => ⟨fun i j hi hj => ?_, fun j hj => ?_⟩, fun h' => absurd h' h⟩
    · rw [if_neg (fun e => h ((nI_eq (by omega) (by decide)).mp (e.trans (show (6 : Int32) = nI 6 from rfl)))), show (0 : Int32) = nI 0 from rfl, e2, Option.bind_some, pu_lt, nI_1, Nat.min_eq_left (by omega)]
    · show (if 242 * c + 0 ≤ 242 * i + j ∧ 242 * i + j < 242 * c + 242 then now (242 * i + j - 242 * c) else bf (242 * i + j)) = bf (242 * i + j)
      have : 242 * i + 242 ≤ 242 * c := by omega
      rw [if_neg (by omega)]
    · show (if 242 * c + 0 ≤ 242 * c + j ∧ 242 * c + j < 242 * c + 242 then now (242 * c + j - 242 * c) else bf (242 * c + j)) = now j
      rw [if_pos (by omega)]
      exact congrArg _ (by omega)
theorem pu_keepP {N : Nat} (hN : 5000 ≤ N) {next count many : Int32} {kK fK rK : Nat → Int32} {frK ttK rdK msK prK kdK lnK shK : Nat → Nat → Int32} {bf : Nat → Int32} {K F R : Nat} {kn fl rs : Int32} {fr tt rd ms pr kd ln sh now : Nat → Int32} (hP : RelP next count many kK fK rK frK ttK rdK msK prK kdK lnK shK bf) (hW : RelW K F R kn fl rs fr tt rd ms pr kd ln sh now) :
    ∃ (z1 z2 : Int32) (z3 z4 z5 : Nat → Int32) (z6 z7 z8 z9 z10 z11 z12 z13 : Nat → Nat → Int32) (y1 : Int32) (y2 : Nat → Int32), fX2_keep next count kK fK rK frK ttK rdK msK prK kdK lnK shK kn fl rs fr tt rd ms pr kd ln sh = some (z1, z2, z3, z4, z5, z6, z7, z8, z9, z10, z11, z12, z13) ∧ fX5_keep N many now bf = some (y1, y2) ∧ RelP z1 z2 y1 z3 z4 z5 z6 z7 z8 z9 z10 z11 z12 z13 y2 := by
  obtain ⟨nx, c, hnx, hc, rfl, rfl, rfl, hA⟩ := hP
  obtain ⟨bf', e2, h1, h2⟩ := pu_keepM hN hc now bf
  refine ⟨_, _, _, _, _, _, _, _, _, _, _, _, _, _, _, pu_keepC hnx hc kK fK rK frK ttK rdK msK prK kdK lnK shK kn fl rs fr tt rd ms pr kd ln sh, e2, (nx + 1) % 6, min (c + 1) 6, Nat.mod_lt _ (by decide), Nat.min_le_right _ _, rfl, rfl, rfl, ?_⟩
  intro i hi
  have hnew : ∀ q, q = nx → ∀ b' : Nat → Int32, (∀ j, j < 242 → b' j = now j) → ∃ K F R, RelW K F R (ya_up kK nx kn q) (ya_up fK nx fl q) (ya_up rK nx rs q) (ya_up frK nx (va_cpy fr (frK nx) 0 0 10) q) (ya_up ttK nx (va_cpy tt (ttK nx) 0 0 10) q) (ya_up rdK nx (va_cpy rd (rdK nx) 0 0 10) q) (ya_up msK nx (va_cpy ms (msK nx) 0 0 10) q) (ya_up prK nx (va_cpy pr (prK nx) 0 0 10) q) (ya_up kdK nx (va_cpy kd (kdK nx) 0 0 10) q) (ya_up lnK nx (va_cpy ln (lnK nx) 0 0 10) q) (ya_up shK nx (va_cpy sh (shK nx) 0 0 160) q) b' := by
    intro q hq b' hb
    subst hq
    simp only [ya_up_eq]
    exact ⟨K, F, R, hW.congr (fun j hj => pu_cpy hj) (fun j hj => pu_cpy hj) (fun j hj => pu_cpy hj) (fun j hj => pu_cpy hj) (fun j hj => pu_cpy hj) (fun j hj => pu_cpy hj) (fun j hj => pu_cpy hj) (fun j hj => pu_cpy hj) hb⟩
  have hold : ∀ q i0, q ≠ nx → i0 < c → q = (nx + 6 - c + i0) % 6 → ∀ b' : Nat → Int32, (∀ j, j < 242 → b' j = bf (242 * i0 + j)) → ∃ K F R, RelW K F R (ya_up kK nx kn q) (ya_up fK nx fl q) (ya_up rK nx rs q) (ya_up frK nx (va_cpy fr (frK nx) 0 0 10) q) (ya_up ttK nx (va_cpy tt (ttK nx) 0 0 10) q) (ya_up rdK nx (va_cpy rd (rdK nx) 0 0 10) q) (ya_up msK nx (va_cpy ms (msK nx) 0 0 10) q) (ya_up prK nx (va_cpy pr (prK nx) 0 0 10) q) (ya_up kdK nx (va_cpy kd (kdK nx) 0 0 10) q) (ya_up lnK nx (va_cpy ln (lnK nx) 0 0 10) q) (ya_up shK nx (va_cpy sh (shK nx) 0 0 160) q) b' := by
    intro q i0 hq hi0 he b' hb
    simp only [ya_up_ne hq]
    obtain ⟨K, F, R, h⟩ := hA i0 hi0
    rw [← he] at h
    exact ⟨K, F, R, h.congr (fun _ _ => rfl) (fun _ _ => rfl) (fun _ _ => rfl) (fun _ _ => rfl) (fun _ _ => rfl) (fun _ _ => rfl) (fun _ _ => rfl) (fun _ _ => rfl) hb⟩
  by_cases h6 : c = 6
  · obtain ⟨g1, g2⟩ := h2 h6
    subst h6
    by_cases hi5 : i = 5
    · subst hi5
      exact hnew _ (by omega) _ g2
    · exact hold _ (i + 1) (by omega) (by omega) (by omega) _ (fun j hj => g1 i j (by omega) hj)
  · obtain ⟨g1, g2⟩ := h1 (by omega)
    by_cases hic : i = c
    · subst hic
      exact hnew _ (by omega) _ g2
    · exact hold _ i (by omega) (by omega) (by omega) _ (fun j hj => g1 i j (by omega) hj)
