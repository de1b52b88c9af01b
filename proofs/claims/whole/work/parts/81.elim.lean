/-! ===== the class' elimination ===== -/
def oL (x : Int) : Int64 := Int64.ofInt x
theorem oL_add (x y : Int) : oL x + oL y = oL (x + y) := (Int64.ofInt_add x y).symm
theorem oL_mul (x y : Int) : oL x * oL y = oL (x * y) := (Int64.ofInt_mul x y).symm
theorem oL_sub (x y : Int) : oL x - oL y = oL (x - y) := by
  have h : oL (x - y) + oL y = oL x := by rw [oL_add, Int.sub_add_cancel]
  rw [← h, Int64.add_sub_cancel]
theorem oL_neg (x : Int) : - oL x = oL (-x) := by
  have h := oL_sub 0 x
  rw [Int.zero_sub] at h
  rw [← h]
  show - oL x = 0 - oL x
  exact (Int64.zero_sub _).symm
theorem oL_i32 (x : Int32) : Int32.toInt64 x = oL x.toInt := by
  apply Int64.toInt_inj.mp
  rw [_root_.Jvm.Kit.i64_of_i32]
  unfold oL
  have h1 := x.toInt_lt
  have h2 := x.le_toInt
  rw [Int64.toInt_ofInt_of_le (by omega) (by omega)]
theorem oL_toInt {x : Int} (h1 : -2 ^ 63 ≤ x) (h2 : x < 2 ^ 63) : (oL x).toInt = x := Int64.toInt_ofInt_of_le (by omega) (by omega)
theorem oL_0 : (0 : Int64) = oL 0 := rfl
theorem oL_1 : (1 : Int64) = oL 1 := rfl
theorem abs_le_mul {d x B : Int} (hd : 1 ≤ d) (h1 : -B < d * x) (h2 : d * x < B) : -B < x ∧ x < B := by
  have e : d * x = x + (d - 1) * x := by grind
  by_cases h : 0 ≤ x
  · have := Int.mul_nonneg (show 0 ≤ d - 1 by omega) h
    omega
  · have := Int.mul_nonneg (show 0 ≤ d - 1 by omega) (show 0 ≤ -x by omega)
    have e2 : (d - 1) * -x = -((d - 1) * x) := by grind
    omega
theorem oL_div {d x : Int} (hd : 1 ≤ d) (hd2 : d < 2 ^ 63) (h1 : -2 ^ 63 < d * x) (h2 : d * x < 2 ^ 63) : ya_ldv (oL (d * x)) (oL d) = some (oL x) := by
  obtain ⟨h3, h4⟩ := abs_le_mul hd h1 h2
  have ed := oL_toInt (x := d) (by omega) hd2
  have hne : ¬ oL d = 0 := fun q => by
    have := congrArg Int64.toInt q
    rw [ed, Int64.toInt_zero] at this
    omega
  unfold ya_ldv
  rw [if_neg hne]
  refine congrArg some (Int64.toInt_inj.mp ?_)
  rw [_root_.Jvm.Kit.i64_div (fun q => by rw [ed] at q; omega), ed, oL_toInt (by omega) h2, oL_toInt (by omega) h4, Int.mul_tdiv_cancel_left x (by omega)]
theorem oL_ge1 {d : Int} (hd : 1 ≤ d) (hd2 : d < 2 ^ 63) : 0 ≤ lg_cmp (oL d) 1 := by
  rw [lg_cmp_ge, Int64.le_iff_toInt_le, oL_toInt (by omega) hd2]
  exact hd
def plc (hr : Nat → Bool) : Nat → Nat
  | 0 => 0
  | k + 1 => plc hr k + (if hr k then 1 else 0)
theorem plc_mono {hr : Nat → Bool} {k : Nat} : ∀ d, plc hr k ≤ plc hr (k + d)
  | 0 => Nat.le_refl _
  | d + 1 => Nat.le_trans (plc_mono d) (Nat.le_add_right _ _)
theorem plc_le {hr : Nat → Bool} {k l : Nat} (h : k ≤ l) : plc hr k ≤ plc hr l := by
  have := plc_mono (hr := hr) (k := k) (l - k)
  rw [show k + (l - k) = l by omega] at this
  exact this
theorem plc_succ {hr : Nat → Bool} {k : Nat} (h : hr k = true) : plc hr (k + 1) = plc hr k + 1 := by
  show plc hr k + (if hr k = true then 1 else 0) = _
  rw [if_pos h]
theorem plc_skip {hr : Nat → Bool} {k : Nat} (h : ¬ hr k = true) : plc hr (k + 1) = plc hr k := by
  show plc hr k + (if hr k = true then 1 else 0) = _
  rw [if_neg h, Nat.add_zero]
theorem plc_lt {hr : Nat → Bool} {k l : Nat} (hk : hr k = true) (h : k < l) : plc hr k < plc hr l := by
  have := plc_le (hr := hr) (show k + 1 ≤ l by omega)
  rw [plc_succ hk] at this
  omega
def cj (hr : Nat → Bool) (j : Nat) : Nat := if j = 6 then 6 else if hr j then plc hr j else 7
def St (A : Nat → Nat → Int) (hr : Nat → Bool) (m k j : Nat) : Int := if hr k then (if plc hr k < m then Em A m (plc hr k) (cj hr j) else Fm A m (plc hr k) (cj hr j)) else (if j = k then D m A else 0)
theorem St_E {A : Nat → Nat → Int} {hr : Nat → Bool} {m k j : Nat} (h : hr k = true) (hl : plc hr k < m) : St A hr m k j = Em A m (plc hr k) (cj hr j) := by
  unfold St
  rw [if_pos h, if_pos hl]
theorem St_F {A : Nat → Nat → Int} {hr : Nat → Bool} {m k j : Nat} (h : hr k = true) (hl : ¬ plc hr k < m) : St A hr m k j = Fm A m (plc hr k) (cj hr j) := by
  unfold St
  rw [if_pos h, if_neg hl]
theorem St_N {A : Nat → Nat → Int} {hr : Nat → Bool} {m k j : Nat} (h : ¬ hr k = true) : St A hr m k j = if j = k then D m A else 0 := by
  unfold St
  rw [if_neg h]
theorem all_Cr {A : Nat → Nat → Int} {n : Nat} (hpos : ∀ m, m ≤ n → 1 ≤ D m A) : ∀ m, m ≤ n → Cr A m
  | 0, _ => Cr_0 A
  | m + 1, h => by
    have ih := all_Cr hpos m (by omega)
    have h1 := hpos m (by omega)
    have h2 := hpos (m + 1) h
    have h3 := el_det ih (by omega)
    exact (el_cr ih (by omega) (by omega)).2.2
theorem Em_7 {A : Nat → Nat → Int} {m a n : Nat} (h7 : ∀ i, i < n → A i 7 = 0) (hm : m ≤ n) (ha : a < m) : Em A m a 7 = 0 := by
  unfold Em
  rw [D_congr m (M' := cr A a (fun _ => 0)) (fun i j hi hj => by
    unfold cr
    split
    · exact h7 i (by omega)
    · rfl)]
  exact D_zero ha
theorem Fm_7 {A : Nat → Nat → Int} {m a n : Nat} (h7 : ∀ i, i < n → A i 7 = 0) (hm : m ≤ n) (ha : a < n) : Fm A m a 7 = 0 := by
  unfold Fm
  rw [h7 a ha, Int.mul_zero, sm_zero m (fun c hc => by rw [Em_7 h7 hm hc, Int.mul_zero])]
  rfl
theorem St_step {A : Nat → Nat → Int} {hr : Nat → Bool} {K p : Nat} (hK : K ≤ 6) (h7 : ∀ i, i < plc hr K → A i 7 = 0) (hpos : ∀ m, m ≤ plc hr K → 1 ≤ D m A) (hp : p < K) : St A hr (plc hr p) p p = D (plc hr (p + 1)) A ∧ (∀ j, St A hr (plc hr (p + 1)) p j = if hr p then St A hr (plc hr p) p j else St A hr (plc hr p) p j) ∧ ∀ i, i < K → i ≠ p → ∀ j, j < 7 → D (plc hr (p + 1)) A * St A hr (plc hr p) i j - St A hr (plc hr p) i p * St A hr (plc hr p) p j = D (plc hr p) A * St A hr (plc hr (p + 1)) i j := by
  have hm : plc hr (p + 1) ≤ plc hr K := plc_le (by omega)
  have hm0 : plc hr p ≤ plc hr K := plc_le (by omega)
  have hC := all_Cr hpos (plc hr p) hm0
  have hd := hpos (plc hr p) hm0
  by_cases h : hr p = true
  · have e1 := plc_succ h
    have hd2 := hpos (plc hr p + 1) (by omega)
    have hdet := el_det hC (by omega)
    obtain ⟨s1, s2, -⟩ := el_cr hC (by omega) (by omega)
    have s3 := el_F hC (by omega) (by omega)
    have ecj : cj hr p = plc hr p := by
      unfold cj
      rw [if_neg (by omega), if_pos h]
    refine ⟨?_, fun j => ?_, fun i hi hip j hj => ?_⟩
    · unfold St
      rw [if_pos h, if_neg (Nat.lt_irrefl _), ecj, e1, hdet]
    · unfold St
      rw [e1, if_pos h, if_pos (by omega), if_pos h, if_pos h, if_neg (Nat.lt_irrefl _), s2]
    · by_cases hi2 : hr i = true
      · rw [e1, hdet, St_F h (Nat.lt_irrefl _)]
        by_cases hlt : i < p
        · have := plc_lt hi2 hlt
          rw [St_E hi2 this, St_E hi2 this, St_E hi2 (by omega), ecj, s1 _ _ this]
        · have := plc_lt h (show p < i by omega)
          rw [St_F hi2 (by omega), St_F hi2 (by omega), St_F hi2 (by omega), ecj, s3]
      · rw [e1, St_N hi2, St_N hi2, St_N hi2, if_neg (show ¬ p = i by omega), Int.zero_mul, Int.sub_zero]
        split
        · rw [Int.mul_comm]
        · rw [Int.mul_zero, Int.mul_zero]
  · have e1 := plc_skip h
    rw [e1]
    refine ⟨?_, fun j => ?_, fun i hi hip j hj => ?_⟩
    · unfold St
      rw [if_neg h, if_pos rfl]
    · rw [if_neg h]
    · have ecj : cj hr p = 7 := by
        unfold cj
        rw [if_neg (by omega), if_neg h]
      have hz : St A hr (plc hr p) i p = 0 := by
        unfold St
        by_cases hi2 : hr i = true
        · rw [if_pos hi2, ecj]
          by_cases hlt : plc hr i < plc hr p
          · rw [if_pos hlt]
            exact Em_7 h7 hm0 hlt
          · rw [if_neg hlt]
            exact Fm_7 h7 hm0 (plc_lt hi2 hi)
        · rw [if_neg hi2, if_neg (by omega)]
      rw [hz, Int.zero_mul, Int.sub_zero]
theorem pu_clear27 {N i p : Nat} {P Q d : Int} {X Y Z : Nat → Int} (hi : i < 6) (hp : p < 6) (hip : i ≠ p) (hd : 1 ≤ d) (hd2 : d < 2 ^ 63) (hZ : ∀ q, q < 7 → P * X q - Q * Y q = d * Z q ∧ -2 ^ 63 < d * Z q ∧ d * Z q < 2 ^ 63) : ∀ (n j : Nat) (rows : Nat → Nat → Int64), j ≤ 7 → 7 - j < n → (∀ q, j ≤ q → q < 7 → rows i q = oL (X q)) → (∀ q, q < 7 → rows p q = oL (Y q)) → ∃ rows', fX0_clearColumn_L27 N n (nI i) (nI p) (oL P) (oL d) (oL Q) (nI j) rows = some rows' ∧ (∀ q, j ≤ q → q < 7 → rows' i q = oL (Z q)) ∧ (∀ k q, k ≠ i → rows' k q = rows k q) ∧ ∀ q, q < j → rows' i q = rows i q := by
  intro n
  induction n with
  | zero => intro j rows h1 h2; omega
  | succ n ih =>
    intro j rows h1 h2 hX hY
    unfold fX0_clearColumn_L27
    by_cases hj : j = 7
    · subst hj
      rw [if_pos (show (6 : Int32) < nI 7 by decide)]
      exact ⟨rows, rfl, fun q q1 q2 => by omega, fun _ _ _ => rfl, fun _ _ => rfl⟩
    · have hj7 : j < 7 := by omega
      obtain ⟨z1, z2, z3⟩ := hZ j hj7
      rw [if_neg (show ¬ (6 : Int32) < nI j from nI_nlt (a := 6) (by omega) (by decide)), pu_ix hi (by decide), Option.bind_some, Option.bind_some, pu_rd hj7 (by decide), Option.bind_some, pu_ix hp (by decide), Option.bind_some, pu_rd hj7 (by decide), Option.bind_some, hX j (Nat.le_refl j) hj7, hY j hj7, oL_mul, oL_mul, oL_sub, z1, oL_div hd hd2 z2 z3, Option.bind_some, pu_wr hj7 (by decide), Option.bind_some, pu_lt, pu_lt, nI_1]
      obtain ⟨rows', e, w1, w2, w3⟩ := ih (j + 1) (ya_up rows i (ya_up (rows i) j (oL (Z j)))) (by omega) (by omega) (fun q q1 q2 => by
        rw [ya_up_eq, ya_up_ne (by omega)]
        exact hX q (by omega) q2) (fun q q2 => by
        rw [ya_up_ne (fun z => hip z.symm)]
        exact hY q q2)
      refine ⟨rows', e, fun q q1 q2 => ?_, fun k q hk => ?_, fun q hq => ?_⟩
      · by_cases eq : q = j
        · subst eq
          rw [w3 q (by omega), ya_up_eq, ya_up_eq]
        · exact w1 q (by omega) q2
      · rw [w2 k q hk, ya_up_ne hk]
      · rw [w3 q (by omega), ya_up_eq, ya_up_ne (by omega)]
theorem pu_clear {N i p : Nat} {P d : Int} {X Y Z : Nat → Int} {rows : Nat → Nat → Int64} (hN : 5000 ≤ N) (hi : i < 6) (hp : p < 6) (hip : i ≠ p) (hd : 1 ≤ d) (hd2 : d < 2 ^ 63) (hZ : ∀ q, q < 7 → P * X q - X p * Y q = d * Z q ∧ -2 ^ 63 < d * Z q ∧ d * Z q < 2 ^ 63) (hX : ∀ q, q < 7 → rows i q = oL (X q)) (hY : ∀ q, q < 7 → rows p q = oL (Y q)) : ∃ rows', fX0_clearColumn N (oL d) rows (nI i) (nI p) (oL P) = some rows' ∧ (∀ q, q < 7 → rows' i q = oL (Z q)) ∧ ∀ k q, k ≠ i → rows' k q = rows k q := by
  obtain ⟨rows', e, w1, w2, -⟩ := pu_clear27 (N := N) hi hp hip hd hd2 hZ N 0 rows (by decide) (by omega) (fun q _ h => hX q h) hY
  refine ⟨rows', ?_, fun q hq => w1 q (Nat.zero_le q) hq, w2⟩
  unfold fX0_clearColumn
  rw [if_pos (oL_ge1 hd hd2), pu_ix hi (by decide), Option.bind_some, pu_rd (by omega) (by decide), Option.bind_some, hX p (by omega), show (0 : Int32) = nI 0 from rfl, e, Option.bind_some]
theorem pu_elim31 {N K p : Nat} {A : Nat → Nat → Int} {hr : Nat → Bool} {m m' : Nat} (hN : 5000 ≤ N) (hK : K ≤ 6) (hp : p < K) (hd : 1 ≤ D m A) (hd2 : D m A < 2 ^ 63) (hst : ∀ i, i < K → i ≠ p → ∀ j, j < 7 → D m' A * St A hr m i j - St A hr m i p * St A hr m p j = D m A * St A hr m' i j ∧ -2 ^ 63 < D m A * St A hr m' i j ∧ D m A * St A hr m' i j < 2 ^ 63) : ∀ (n i : Nat) (rows : Nat → Nat → Int64), i ≤ K → K - i < n → (∀ k, k < K → (k < i → k ≠ p → ∀ j, j < 7 → rows k j = oL (St A hr m' k j)) ∧ ((i ≤ k ∨ k = p) → ∀ j, j < 7 → rows k j = oL (St A hr m k j))) → ∃ rows', fX0_eliminate_L31 N n (nI K) (nI p) (oL (D m' A)) (nI i) (oL (D m A)) rows = some rows' ∧ ∀ k, k < K → (k ≠ p → ∀ j, j < 7 → rows' k j = oL (St A hr m' k j)) ∧ (k = p → ∀ j, j < 7 → rows' k j = oL (St A hr m k j)) := by
  intro n
  induction n with
  | zero => intro i rows h1 h2; omega
  | succ n ih =>
    intro i rows h1 h2 hR
    unfold fX0_eliminate_L31
    by_cases hi : i = K
    · subst hi
      rw [if_pos (nI_le (Nat.le_refl _) (by omega))]
      exact ⟨rows, rfl, fun k hk => ⟨fun hne => (hR k hk).1 hk hne, fun he => (hR k hk).2 (Or.inr he)⟩⟩
    · have hlt : i < K := by omega
      rw [if_neg (nI_ge hlt (by omega))]
      by_cases hip : i = p
      · rw [if_pos (by rw [hip]), pu_lt, nI_1]
        refine ih (i + 1) rows (by omega) (by omega) (fun k hk => ⟨fun q1 q2 => (hR k hk).1 (by omega) q2, fun q => (hR k hk).2 (by omega)⟩)
      · obtain ⟨rows', e, w1, w2⟩ := pu_clear (N := N) (i := i) (p := p) (P := D m' A) (d := D m A) (X := St A hr m i) (Y := St A hr m p) (Z := St A hr m' i) (rows := rows) hN (by omega) (by omega) hip hd hd2 (fun q hq => hst i hlt hip q hq) (fun q hq => (hR i hlt).2 (Or.inl (Nat.le_refl i)) q hq) (fun q hq => (hR p hp).2 (Or.inr rfl) q hq)
        rw [if_neg (fun q => hip ((nI_eq (by omega) (by omega)).mp q)), e, Option.bind_some, pu_lt, nI_1]
        refine ih (i + 1) rows' (by omega) (by omega) (fun k hk => ⟨fun q1 q2 j hj => ?_, fun q j hj => ?_⟩)
        · by_cases ek : k = i
          · subst ek
            exact w1 j hj
          · rw [w2 k j ek]
            exact (hR k hk).1 (by omega) q2 j hj
        · rw [w2 k j (by omega)]
          exact (hR k hk).2 (by omega) j hj
theorem pu_elim7 {N K : Nat} {A : Nat → Nat → Int} {hr : Nat → Bool} (hN : 5000 ≤ N) (hK : K ≤ 6) (h7 : ∀ i, i < plc hr K → A i 7 = 0) (hpos : ∀ m, m ≤ plc hr K → 1 ≤ D m A ∧ D m A < 2 ^ 63) (hb : ∀ p i j, p < K → i < K → i ≠ p → j < 7 → -2 ^ 63 < D (plc hr p) A * St A hr (plc hr (p + 1)) i j ∧ D (plc hr p) A * St A hr (plc hr (p + 1)) i j < 2 ^ 63) : ∀ (n p : Nat) (rows : Nat → Nat → Int64), p ≤ K → K - p < n → (∀ k j, k < K → j < 7 → rows k j = oL (St A hr (plc hr p) k j)) → ∃ rows', fX0_eliminate_L7 N n (nI K) (nI p) (oL (D (plc hr p) A)) rows = some (.inr (oL (D (plc hr K) A), rows')) ∧ ∀ k j, k < K → j < 7 → rows' k j = oL (St A hr (plc hr K) k j) := by
  intro n
  induction n with
  | zero => intro p rows h1 h2; omega
  | succ n ih =>
    intro p rows h1 h2 hR
    unfold fX0_eliminate_L7
    by_cases hp : p = K
    · subst hp
      rw [if_pos (nI_le (Nat.le_refl _) (by omega))]
      exact ⟨rows, rfl, hR⟩
    · have hlt : p < K := by omega
      obtain ⟨s1, s2, s3⟩ := St_step hK h7 (fun m hm => (hpos m hm).1) hlt
      obtain ⟨d1, d2⟩ := hpos (plc hr p) (plc_le (by omega))
      obtain ⟨d3, d4⟩ := hpos (plc hr (p + 1)) (plc_le (by omega))
      rw [if_neg (nI_ge hlt (by omega)), pu_ix (by omega) (by decide), Option.bind_some, pu_rd (by omega) (by decide), Option.bind_some, hR p p hlt (by omega), s1, if_pos (oL_ge1 d3 d4)]
      obtain ⟨rows', e, w⟩ := pu_elim31 (N := N) (A := A) (hr := hr) (m := plc hr p) (m' := plc hr (p + 1)) hN hK hlt d1 d2 (fun i hi hip j hj => ⟨s3 i hi hip j hj, hb p i j hlt hi hip hj⟩) N 0 rows (Nat.zero_le K) (by omega) (fun k hk => ⟨fun q => absurd q (Nat.not_lt_zero k), fun _ j hj => hR k j hk hj⟩)
      rw [show (0 : Int32) = nI 0 from rfl, e, Option.bind_some, pu_lt, nI_1]
      refine ih (p + 1) rows' (by omega) (by omega) (fun k j hk hj => ?_)
      by_cases ek : k = p
      · have := s2 j
        have e2 : St A hr (plc hr (p + 1)) p j = St A hr (plc hr p) p j := by
          rw [this]
          split <;> rfl
        rw [(w k hk).2 ek j hj, ek, e2]
      · exact (w k hk).1 ek j hj
theorem pu_elim {N K : Nat} {A : Nat → Nat → Int} {hr : Nat → Bool} {rows : Nat → Nat → Int64} {bl0 : Int64} (hN : 5000 ≤ N) (hK : K ≤ 6) (h7 : ∀ i, i < plc hr K → A i 7 = 0) (hpos : ∀ m, m ≤ plc hr K → 1 ≤ D m A ∧ D m A < 2 ^ 63) (hb : ∀ p i j, p < K → i < K → i ≠ p → j < 7 → -2 ^ 63 < D (plc hr p) A * St A hr (plc hr (p + 1)) i j ∧ D (plc hr p) A * St A hr (plc hr (p + 1)) i j < 2 ^ 63) (hR : ∀ k j, k < K → j < 7 → rows k j = oL (if hr k then A (plc hr k) (cj hr j) else if j = k then 1 else 0)) : ∃ rows', fX0_eliminate N bl0 rows (nI K) = some (oL (D (plc hr K) A), rows') ∧ ∀ k, k < K → rows' k 6 = oL (if hr k then Em A (plc hr K) (plc hr k) 6 else 0) := by
  obtain ⟨rows', e, w⟩ := pu_elim7 hN hK h7 hpos hb N 0 rows (Nat.zero_le K) (by omega) (fun k j hk hj => by
    rw [hR k j hk hj]
    unfold St
    by_cases h : hr k = true
    · rw [if_pos h, if_pos h, if_neg (show ¬ plc hr k < plc hr 0 from Nat.not_lt_zero _)]
      show oL _ = oL (1 * A (plc hr k) (cj hr j) - 0)
      rw [Int.one_mul, Int.sub_zero]
    · rw [if_neg h, if_neg h]
      rfl)
  refine ⟨rows', ?_, fun k hk => ?_⟩
  · unfold fX0_eliminate
    rw [show (0 : Int32) = nI 0 from rfl, show (1 : Int64) = oL (D (plc hr 0) A) from rfl, e]
    rfl
  · rw [w k 6 hk (by decide)]
    unfold St
    by_cases h : hr k = true
    · rw [if_pos h, if_pos (plc_lt h hk), if_pos h]
      rfl
    · rw [if_neg h, if_neg h, if_neg (by omega)]
