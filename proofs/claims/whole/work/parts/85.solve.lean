/-! ===== the class' fit ===== -/
theorem allSet_bit {F f : Nat} (h : f < F) : (2 ^ F - 1).testBit f = true := by
  rw [Nat.testBit_two_pow_sub_one]
  simpa using h
/-- all that a fit of the works is made of -/
def hrF (S F : Nat) (a c : Nat → Nat) : Nat → Bool := hrw (gat S.testBit a c F) (gat (2 ^ F - 1).testBit a c F)
def AF (S F : Nat) (a c : Nat → Nat) (mv rv : Nat → Int) : Nat → Nat → Int := aF (hrF S F a c) (gat S.testBit a c F) a c F mv rv
def nF (S F K : Nat) (a c : Nat → Nat) : Nat := plc (hrF S F a c) K
/-- the force of a heap, times what is below -/
def fcF (S F K : Nat) (a c : Nat → Nat) (mv rv : Nat → Int) (k : Nat) : Int := if hrF S F a c k then Em (AF S F a c mv rv) (nF S F K a c) (plc (hrF S F a c) k) 6 else 0
def blF (S F K : Nat) (a c : Nat → Nat) (mv rv : Nat → Int) : Int := D (nF S F K a c) (AF S F a c mv rv)
theorem blF_pos {S F K : Nat} {a c : Nat → Nat} {mv rv : Nat → Int} (hK : K ≤ 6) (hF : F ≤ 10) (hmv : ∀ f, f < F → 1 ≤ mv f ∧ mv f ≤ 4) (hrv : ∀ f, f < F → -2000 ≤ rv f ∧ rv f ≤ 2000) : 1 ≤ blF S F K a c mv rv ∧ blF S F K a c mv rv ≤ 39135393 := by
  have h1 := aF_pos (P := S.testBit) (Q := (2 ^ F - 1).testBit) (a := a) (c := c) (F := F) (K := K) (mv := mv) (rv := rv) hK (fun f hf => allSet_bit hf) (fun f hf => (hmv f hf).1) (nF S F K a c) (Nat.le_refl _)
  have h2 := (aF_bounds (P := S.testBit) (Q := (2 ^ F - 1).testBit) (a := a) (c := c) (F := F) (K := K) (mv := mv) (rv := rv) hF hK hmv hrv).1 (nF S F K a c) (Nat.le_refl _)
  unfold blF AF hrF
  omega
theorem pu_solve {N F K S : Nat} {un : Int32} {b0 : Int64} {lh lp fr tt rd ms : Nat → Int32} {a c : Nat → Nat} {rows : Nat → Nat → Int64} {sur : Nat → Int64} (hN : 5000 ≤ N) (hF : F ≤ 10) (hS : S < 1024) (hK : K ≤ 6) (hE : Ends F fr tt a c) (hac : ∀ f, f < F → a f < K ∧ c f < K) (hmv : ∀ f, f < F → 1 ≤ (ms f).toInt ∧ (ms f).toInt ≤ 4) (hrv : ∀ f, f < F → -2000 ≤ (rd f).toInt ∧ (rd f).toInt ≤ 2000) : ∃ (lh' lp' : Nat → Int32) (rows' : Nat → Nat → Int64) (sur' : Nat → Int64), fX0_solve N un b0 lh lp rows sur (nI K) (nI F) fr tt rd ms (nI S) = some (nI S, oL (blF S F K a c (fun f => (ms f).toInt) (fun f => (rd f).toInt)), lh', lp', rows', sur') ∧ Lr lh' (gat S.testBit a c F) ∧ (∀ k, k < K → rows' k 6 = oL (fcF S F K a c (fun f => (ms f).toInt) (fun f => (rd f).toInt) k)) ∧ ∀ k, k < K → sur' k = oL (sm F (fun f => (rd f).toInt * sF (gat S.testBit a c F) a c f k)) := by
  obtain ⟨lh', e1, h1⟩ := pu_gather (l := lh) hN hF hS hE
  obtain ⟨lp', e2, h2⟩ := pu_gather (l := lp) (S := 2 ^ F - 1) hN hF (pu_1024 (Nat.sub_lt (Nat.two_pow_pos F) (by decide)) hF) hE
  obtain ⟨r1, s1, e3, w1, w2⟩ := pu_fill (rows := rows) (sur := sur) (rd := rd) (ms := ms) hN hF hS hK hE hac h1 h2 (gat_le _ a c F) (gat_le _ a c F) (fun f hf hb => gat_conn _ a c F f hf hb)
  obtain ⟨b1, b2⟩ := aF_bounds (P := S.testBit) (Q := (2 ^ F - 1).testBit) (a := a) (c := c) (F := F) (K := K) (mv := fun f => (ms f).toInt) (rv := fun f => (rd f).toInt) hF hK hmv hrv
  obtain ⟨r2, e4, w3⟩ := pu_elim (N := N) (rows := r1) (bl0 := b0) hN hK (A := AF S F a c (fun f => (ms f).toInt) (fun f => (rd f).toInt)) (hr := hrF S F a c) (fun i hi => by
    have hb := plc_bd (hr := hrF S F a c) K
    unfold AF aF
    rw [if_neg (by decide)]
    refine sm_zero F (fun f hf => ?_)
    obtain ⟨k1, k2⟩ := hac f hf
    have l1 := gat_le S.testBit a c F (a f)
    have l2 := gat_le S.testBit a c F (c f)
    rw [wF_big (n := K) (i := 7) (by omega) (by omega) (by omega), Int.mul_zero, Int.mul_zero]) (fun m hm => by
    have q1 := aF_pos (P := S.testBit) (Q := (2 ^ F - 1).testBit) (a := a) (c := c) (F := F) (K := K) (mv := fun f => (ms f).toInt) (rv := fun f => (rd f).toInt) hK (fun f hf => allSet_bit hf) (fun f hf => (hmv f hf).1) m (show m ≤ plc (hrw (gat S.testBit a c F) (gat (Nat.testBit (2 ^ F - 1)) a c F)) K from hm)
    have q2 := b1 m hm
    unfold AF hrF
    omega) (fun p i j q1 q2 q3 q4 => b2 p i j q1 q2 q3 q4) (fun k j hk hj => w1 k j hk hj)
  refine ⟨lh', lp', r2, s1, ?_, h1, fun k hk => ?_, w2⟩
  · unfold fX0_solve
    rw [e1, Option.bind_some]
    dsimp only
    rw [pu_allSet hF, Option.bind_some, e2, Option.bind_some]
    dsimp only
    rw [e3, Option.bind_some]
    dsimp only
    rw [e4, Option.bind_some]
    rfl
  · exact w3 k hk
/-! ===== the reference's determinant ===== -/
theorem pu_det60 {N n deep i cc : Nat} {y2 : Int32} {y3 y7 : Int64} {M : Nat → Nat → Int} (hn : deep + (n + 1) ≤ 5) (hi : 1 ≤ i) (hi2 : i ≤ n) (hc : cc ≤ n) : ∀ (fu j : Nat) (W : Nat → Int64), j ≤ n + 1 → n + 1 - j < fu → (∀ q, q < n + 1 → W (36 * deep + 6 * i + q) = oL (M i q)) → ∃ W', fX5_determinant_L60 N fu (nI (n + 1)) y2 y3 (nI (36 * deep)) (nI cc) y7 (nI i) (nI (if j ≤ cc then j else j - 1)) (nI j) W = some W' ∧ (∀ q, (if j ≤ cc then j else j - 1) ≤ q → q < n → W' (36 * (deep + 1) + 6 * (i - 1) + q) = oL (M i (skp cc q))) ∧ ∀ x, (x < 36 * (deep + 1) + 6 * (i - 1) + (if j ≤ cc then j else j - 1) ∨ 36 * (deep + 1) + 6 * (i - 1) + n ≤ x) → W' x = W x := by
  intro fu
  induction fu with
  | zero => intro j W h1 h2; omega
  | succ fu ih =>
    intro j W h1 h2 hW
    unfold fX5_determinant_L60
    by_cases hj : j = n + 1
    · subst hj
      rw [if_pos (nI_le (Nat.le_refl _) (by omega)), if_neg (by omega)]
      exact ⟨W, rfl, fun q q1 q2 => by omega, fun x _ => rfl⟩
    · rw [if_neg (nI_ge (by omega) (by omega))]
      by_cases hjc : j = cc
      · rw [if_pos (by rw [hjc]), pu_lt, nI_1]
        obtain ⟨W', e, w1, w2⟩ := ih (j + 1) W (by omega) (by omega) hW
        rw [if_neg (show ¬ j + 1 ≤ cc by omega)] at e w1 w2
        rw [if_pos (show j ≤ cc by omega)]
        rw [Nat.add_sub_cancel] at e w1 w2
        exact ⟨W', e, w1, w2⟩
      · rw [if_neg (fun q => hjc ((nI_eq (by omega) (by omega)).mp q)), show (nI (36 * deep) + (6 * nI i)) + nI j = nI (36 * deep + 6 * i + j) from by rw [show (6 : Int32) = nI 6 from rfl, pk_mul, nI_add, nI_add], pu_rd (by omega) (by decide), Option.bind_some, hW j (by omega)]
        have hto : (if j ≤ cc then j else j - 1) < n := by split <;> omega
        have hnext : (if j + 1 ≤ cc then j + 1 else j + 1 - 1) = (if j ≤ cc then j else j - 1) + 1 := by
          by_cases z : j + 1 ≤ cc
          · rw [if_pos z, if_pos (by omega)]
          · rw [if_neg z, if_neg (by omega)]
            omega
        have hskp : skp cc (if j ≤ cc then j else j - 1) = j := by
          unfold skp
          by_cases z : j ≤ cc
          · rw [if_pos z, if_pos (by omega)]
          · rw [if_neg z, if_neg (by omega)]
            omega
        rw [show ((nI (36 * deep) + 36) + (6 * (nI i - 1))) + nI (if j ≤ cc then j else j - 1) = nI (36 * (deep + 1) + 6 * (i - 1) + (if j ≤ cc then j else j - 1)) from by
          rw [show nI i - (1 : Int32) = nI (i - 1) from pk_sub (a := i) (b := 1) hi, show (6 : Int32) = nI 6 from rfl, show (36 : Int32) = nI 36 from rfl, pk_mul, nI_add, nI_add, nI_add]
          exact congrArg nI (by omega), pu_wr (by omega) (by decide), Option.bind_some, pu_lt, pu_lt, nI_1, nI_1]
        obtain ⟨W', e, w1, w2⟩ := ih (j + 1) (ya_up W (36 * (deep + 1) + 6 * (i - 1) + (if j ≤ cc then j else j - 1)) (oL (M i j))) (by omega) (by omega) (fun q hq => by
          rw [ya_up_ne (by omega)]
          exact hW q hq)
        rw [hnext] at e w1 w2
        refine ⟨W', e, fun q q1 q2 => ?_, fun x hx => ?_⟩
        · by_cases eq : q = (if j ≤ cc then j else j - 1)
          · rw [eq, w2 _ (by omega), ya_up_eq, hskp]
          · exact w1 q (by omega) q2
        · rw [w2 x (by omega), ya_up_ne (by omega)]
theorem pu_det48 {N n deep cc : Nat} {y2 : Int32} {y3 y7 : Int64} {M : Nat → Nat → Int} (hN : 5000 ≤ N) (hn : deep + (n + 1) ≤ 5) (hc : cc ≤ n) : ∀ (fu i : Nat) (W : Nat → Int64), 1 ≤ i → i ≤ n + 1 → n + 1 - i < fu → (∀ p q, p < n + 1 → q < n + 1 → W (36 * deep + 6 * p + q) = oL (M p q)) → ∃ W', fX5_determinant_L48 N fu (nI (n + 1)) y2 y3 (nI (36 * deep)) (nI cc) y7 (nI i) W = some W' ∧ (∀ p q, i - 1 ≤ p → p < n → q < n → W' (36 * (deep + 1) + 6 * p + q) = oL (mi M cc p q)) ∧ ∀ x, x < 36 * (deep + 1) + 6 * (i - 1) → W' x = W x := by
  intro fu
  induction fu with
  | zero => intro i W h0 h1 h2; omega
  | succ fu ih =>
    intro i W h0 h1 h2 hW
    unfold fX5_determinant_L48
    by_cases hi : i = n + 1
    · subst hi
      rw [if_pos (nI_le (Nat.le_refl _) (by omega))]
      exact ⟨W, rfl, fun p q q1 q2 => by omega, fun x _ => rfl⟩
    · obtain ⟨W1, e1, w1, w2⟩ := pu_det60 (N := N) (n := n) (deep := deep) (i := i) (cc := cc) (y2 := y2) (y3 := y3) (y7 := y7) (M := M) hn h0 (by omega) hc N 0 W (Nat.zero_le _) (by omega) (fun q hq => hW i q (by omega) hq)
      rw [if_pos (Nat.zero_le cc)] at e1 w1 w2
      rw [if_neg (nI_ge (by omega) (by omega)), show (0 : Int32) = nI 0 from rfl, e1, Option.bind_some, pu_lt, nI_1]
      obtain ⟨W', e, u1, u2⟩ := ih (i + 1) W1 (by omega) (by omega) (by omega) (fun p q hp hq => by
        rw [w2 _ (by omega)]
        exact hW p q hp hq)
      refine ⟨W', e, fun p q q1 q2 q3 => ?_, fun x hx => ?_⟩
      · by_cases ep : p = i - 1
        · rw [u2 _ (by omega), ep, w1 q (Nat.zero_le q) q3]
          unfold mi
          rw [show i - 1 + 1 = i by omega]
        · exact u1 p q (by omega) q2 q3
      · rw [u2 x (by omega), w2 x (by omega)]
theorem pu_irm2 {a : Nat} (ha : a < 2 ^ 31) : ya_irm (nI a) 2 = some (nI (a % 2)) := by
  unfold ya_irm
  rw [if_neg (by decide), show (2 : Int32) = nI 2 from rfl, pk_rem ha (by decide) (by decide)]
theorem pu_det {N : Nat} (hN : 5000 ≤ N) : ∀ (n deep d : Nat) (W : Nat → Int64) (M : Nat → Nat → Int), deep + n ≤ 5 → n < d → (∀ p q, p < n → q < n → W (36 * deep + 6 * p + q) = oL (M p q)) → ∃ W', fX5_determinant N d W (nI n) (nI deep) = some (oL (D n M), W') ∧ ∀ x, x < 36 * (deep + 1) → W' x = W x := by
  intro n
  induction n with
  | zero =>
    intro deep d W M h1 h2 hW
    obtain ⟨d, rfl⟩ : ∃ e, d = e + 1 := ⟨d - 1, by omega⟩
    unfold fX5_determinant
    rw [if_pos (show nI 0 = 0 from rfl)]
    exact ⟨W, rfl, fun _ _ => rfl⟩
  | succ n ihn =>
    intro deep d W M h1 h2 hW
    obtain ⟨d, rfl⟩ : ∃ e, d = e + 1 := ⟨d - 1, by omega⟩
    have key : ∀ (fu cc : Nat) (W1 : Nat → Int64), cc ≤ n + 1 → n + 1 - cc < fu → (∀ x, x < 36 * (deep + 1) → W1 x = W x) → ∃ W', fX5_determinant_L17 (fX5_determinant N d) N fu (nI (n + 1)) (nI deep) (oL (sm cc (fun c => sg c * M 0 c * D n (mi M c)))) (nI (36 * deep)) (nI cc) W1 = some (oL (D (n + 1) M), W') ∧ ∀ x, x < 36 * (deep + 1) → W' x = W x := by
      intro fu
      induction fu with
      | zero => intro cc W1 q1 q2; omega
      | succ fu ih =>
        intro cc W1 q1 q2 hW1
        unfold fX5_determinant_L17
        by_cases hcc : cc = n + 1
        · subst hcc
          rw [if_pos (nI_le (Nat.le_refl _) (by omega))]
          exact ⟨W1, rfl, hW1⟩
        · have hM0 : W1 (36 * deep + cc) = oL (M 0 cc) := by
            rw [hW1 _ (by omega)]
            have := hW 0 cc (by omega) (by omega)
            rw [Nat.mul_zero, Nat.add_zero] at this
            exact this
          rw [if_neg (nI_ge (by omega) (by omega)), nI_add, pu_rd (by omega) (by decide), Option.bind_some, hM0]
          by_cases hz : oL (M 0 cc) = 0
          · rw [if_pos ((lg_cmp_eq _ _).mpr hz), pu_lt, nI_1]
            obtain ⟨W', e, w⟩ := ih (cc + 1) W1 (by omega) (by omega) hW1
            refine ⟨W', ?_, w⟩
            have e0 : oL (sm (cc + 1) (fun c => sg c * M 0 c * D n (mi M c))) = oL (sm cc (fun c => sg c * M 0 c * D n (mi M c))) := by
              rw [sm_succ, ← oL_add, show sg cc * M 0 cc * D n (mi M cc) = M 0 cc * (sg cc * D n (mi M cc)) by grind, ← oL_mul, hz, Int64.zero_mul, Int64.add_zero]
            rw [e0] at e
            exact e
          · obtain ⟨W2, e2, w1, w2⟩ := pu_det48 (N := N) (n := n) (deep := deep) (cc := cc) (y2 := nI deep) (y3 := oL (sm cc (fun c => sg c * M 0 c * D n (mi M c)))) (y7 := oL (M 0 cc)) (M := M) hN (by omega) (by omega) N 1 W1 (Nat.le_refl 1) (by omega) (by omega) (fun p q hp hq => by
              rw [hW1 _ (by omega)]
              exact hW p q hp hq)
            obtain ⟨W3, e3, w3⟩ := ihn (deep + 1) d W2 (mi M cc) (by omega) (by omega) (fun p q hp hq => w1 p q (by omega) hp hq)
            have hW3 : ∀ x, x < 36 * (deep + 1) → W3 x = W x := fun x hx => by
              rw [w3 x (by omega), w2 x (by omega), hW1 x hx]
            obtain ⟨W', e, w⟩ := ih (cc + 1) W3 (by omega) (by omega) hW3
            refine ⟨W', ?_, w⟩
            rw [if_neg (fun q => hz ((lg_cmp_eq _ _).mp q)), show (1 : Int32) = nI 1 from rfl, e2, Option.bind_some, show nI (n + 1) - nI 1 = nI n from pk_sub (a := n + 1) (b := 1) (by omega), nI_add, e3, Option.bind_some]
            dsimp only
            rw [pu_lt, oL_mul, pu_irm2 (by omega), Option.bind_some]
            rw [sm_succ, ← oL_add] at e
            have h01 : cc % 2 = 0 ∨ cc % 2 = 1 := by omega
            rcases h01 with h01 | h01
            · have es : sg cc * M 0 cc * D n (mi M cc) = M 0 cc * D n (mi M cc) := by
                unfold sg
                rw [if_pos h01, Int.one_mul]
              rw [h01, if_pos (show nI 0 = 0 from rfl), pu_lt, pu_lt, nI_add]
              rw [es] at e
              exact e
            · have es : sg cc * M 0 cc * D n (mi M cc) = -(M 0 cc * D n (mi M cc)) := by
                unfold sg
                rw [if_neg (by omega)]
                grind
              rw [h01, if_neg (show ¬ nI 1 = 0 by decide), pu_lt, pu_lt, oL_neg, nI_add]
              rw [es] at e
              exact e
    obtain ⟨W', e, w⟩ := key N 0 W (Nat.zero_le _) (by omega) (fun _ _ => rfl)
    refine ⟨W', ?_, w⟩
    unfold fX5_determinant
    rw [if_neg (show ¬ nI (n + 1) = 0 from nI_ne0 (by omega) (by omega)), pu_lt, show (36 : Int32) * nI deep = nI (36 * deep) from pk_mul 36 deep, show (0 : Int64) = oL (sm 0 (fun c => sg c * M 0 c * D n (mi M c))) from rfl, show (0 : Int32) = nI 0 from rfl, e]
    rfl
