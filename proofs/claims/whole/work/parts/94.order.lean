/-! ===== rank: which fraction is more ===== -/
theorem pu_ldv {x y : Nat} (h0 : 0 < y) (hx : x < 2 ^ 63) (hy : y < 2 ^ 63) : ya_ldv (oL (x : Int)) (oL (y : Int)) = some (oL ((x / y : Nat) : Int)) := by
  unfold ya_ldv
  rw [if_neg (oL_nz h0 hy)]
  refine congrArg some (Int64.toInt_inj.mp ?_)
  have hd := Nat.div_le_self x y
  have hd0 : (0 : Int) ≤ ((x / y : Nat) : Int) := Int.natCast_nonneg _
  rw [lg_ldiv_nonneg (by rw [oL_toInt (by omega) (by omega)]; omega) (by rw [oL_toInt (by omega) (by omega)]; omega), oL_toInt (by omega) (by omega), oL_toInt (by omega) (by omega), oL_toInt (by omega) (by omega), Int.natCast_ediv]
def mpost (o : (Int32 × Int64 × Int64) ⊕ (Int64 × Int64 × Int32)) : Option Int32 := match o with
  | .inl (v15, v16, v17) => (if (lg_cmp v16 v17) ≤ 0 then (if 0 = v15 then some 0 else some 1) else (if 1 = v15 then some 0 else some 1))
  | .inr (v21, v22, v23) => (if v23 = 0 then (if (lg_cmp v21 0) = 0 then some 0 else some 1) else (if (lg_cmp v21 0) = 0 then (if (lg_cmp v22 0) = 0 then some 0 else some 1) else some 0))
theorem div_less {a b c d : Nat} (hb : 0 < b) (hd : 0 < d) (h : a / b < c / d) : a * d < c * b := by
  have h1 : a < (a / b + 1) * b := Nat.lt_mul_of_div_lt (Nat.lt_succ_self _) hb |> fun z => by rw [Nat.mul_comm] at z ⊢; exact z
  have h2 : c / d * d ≤ c := Nat.div_mul_le_self c d
  have h3 : (a / b + 1) * b ≤ c / d * b := Nat.mul_le_mul_right b h
  have h4 : a * d < c / d * b * d := Nat.mul_lt_mul_of_pos_right (by omega) hd
  have h5 : c / d * d * b ≤ c * b := Nat.mul_le_mul_right b h2
  have e : c / d * b * d = c / d * d * b := by rw [Nat.mul_assoc, Nat.mul_comm b d, Nat.mul_assoc]
  omega
theorem cmp_nat {x y : Nat} (hx : x < 2 ^ 63) (hy : y < 2 ^ 63) : (lg_cmp (oL (x : Int)) (oL (y : Int)) = 0 ↔ x = y) ∧ (lg_cmp (oL (x : Int)) (oL (y : Int)) ≤ 0 ↔ x ≤ y) := by
  constructor
  · rw [lg_cmp_eq]
    constructor
    · intro h
      have := congrArg Int64.toInt h
      rw [oL_toInt (by omega) (by omega), oL_toInt (by omega) (by omega)] at this
      omega
    · intro h
      rw [h]
  · rw [lg_cmp_le, Int64.le_iff_toInt_le, oL_toInt (by omega) (by omega), oL_toInt (by omega) (by omega)]
    omega
theorem pu_moreStep {N n a b c d : Nat} {t : Int32} (ht : t = 0 ∨ t = 1) (hb : 0 < b) (hd : 0 < d) (ha63 : a < 2 ^ 63) (hb63 : b < 2 ^ 63) (hc63 : c < 2 ^ 63) (hd63 : d < 2 ^ 63) (hrec : 0 < a % b → 0 < c % d → ∀ t' : Int32, (t' = 0 ∨ t' = 1) → (fX5_isMore_L17 N n (oL (b : Int)) (oL ((a % b : Nat) : Int)) (oL (d : Int)) (oL ((c % d : Nat) : Int)) t').bind mpost = some (if t' = 0 then (if d * (a % b) < b * (c % d) then 1 else 0) else (if b * (c % d) < d * (a % b) then 1 else 0))) : (fX5_isMore_L17 N (n + 1) (oL (a : Int)) (oL (b : Int)) (oL (c : Int)) (oL (d : Int)) t).bind mpost = some (if t = 0 then (if c * b < a * d then 1 else 0) else (if a * d < c * b then 1 else 0)) := by
  have hq1 := Nat.div_le_self a b
  have hq2 := Nat.div_le_self c d
  have hr1 := Nat.mod_lt a hb
  have hr2 := Nat.mod_lt c hd
  unfold fX5_isMore_L17
  rw [pu_ldv hb ha63 hb63, Option.bind_some, pu_ldv hd hc63 hd63, Option.bind_some]
  obtain ⟨z1, z2⟩ := cmp_nat (x := a / b) (y := c / d) (by omega) (by omega)
  by_cases hq : a / b = c / d
  · rw [if_pos (z1.mpr hq), pu_lt, pu_lt]
    have e1 : oL (a : Int) - oL ((a / b : Nat) : Int) * oL (b : Int) = oL ((a % b : Nat) : Int) := by
      rw [oL_mul, oL_sub]
      refine congrArg oL ?_
      have := Nat.div_add_mod' a b
      rw [← Int.natCast_mul]
      omega
    have e2 : oL (c : Int) - oL ((c / d : Nat) : Int) * oL (d : Int) = oL ((c % d : Nat) : Int) := by
      rw [oL_mul, oL_sub]
      refine congrArg oL ?_
      have := Nat.div_add_mod' c d
      rw [← Int.natCast_mul]
      omega
    rw [e1, e2]
    have k1 : c * b = a / b * d * b + c % d * b := by
      have := Nat.div_add_mod' c d
      rw [← hq] at this
      rw [← Nat.add_mul, this]
    have k2 : a * d = a / b * d * b + a % b * d := by
      have := Nat.div_add_mod' a b
      have e : a / b * d * b = a / b * b * d := by rw [Nat.mul_assoc, Nat.mul_comm d b, Nat.mul_assoc]
      rw [e, ← Nat.add_mul, this]
    obtain ⟨w1, -⟩ := cmp_nat (x := a % b) (y := 0) (by omega) (by decide)
    obtain ⟨w2, -⟩ := cmp_nat (x := c % d) (y := 0) (by omega) (by decide)
    have w1' : lg_cmp (oL ((a % b : Nat) : Int)) 0 = 0 ↔ a % b = 0 := w1
    have w2' : lg_cmp (oL ((c % d : Nat) : Int)) 0 = 0 ↔ c % d = 0 := w2
    by_cases r1 : a % b = 0
    · rw [if_pos (w1'.mpr r1), Option.bind_some]
      unfold mpost
      dsimp only
      rw [r1, Nat.zero_mul] at k2
      rcases ht with ht | ht
      · rw [if_pos ht, if_pos (w1'.mpr r1), if_pos ht, if_neg (by omega)]
      · have ht0 : ¬ t = 0 := by rw [ht]; decide
        rw [if_neg ht0, if_pos (w1'.mpr r1), if_neg ht0]
        by_cases r2 : c % d = 0
        · rw [if_pos (w2'.mpr r2), if_neg (by rw [r2, Nat.zero_mul] at k1; omega)]
        · have := Nat.mul_pos (show 0 < c % d by omega) hb
          rw [if_neg (fun q => r2 (w2'.mp q)), if_pos (by omega)]
    · have p1 := Nat.mul_pos (show 0 < a % b by omega) hd
      rw [if_neg (fun q => r1 (w1'.mp q))]
      by_cases r2 : c % d = 0
      · rw [if_pos (w2'.mpr r2), Option.bind_some]
        unfold mpost
        dsimp only
        rw [r2, Nat.zero_mul] at k1
        rcases ht with ht | ht
        · rw [if_pos ht, if_neg (fun q => r1 (w1'.mp q)), if_pos ht, if_pos (by omega)]
        · have ht0 : ¬ t = 0 := by rw [ht]; decide
          rw [if_neg ht0, if_neg (fun q => r1 (w1'.mp q)), if_neg ht0, if_neg (by omega)]
      · rw [if_neg (fun q => r2 (w2'.mp q))]
        have s1 : d * (a % b) = a % b * d := Nat.mul_comm _ _
        have s2 : b * (c % d) = c % d * b := Nat.mul_comm _ _
        rcases ht with ht | ht
        · rw [if_pos ht, hrec (by omega) (by omega) 1 (Or.inr rfl), if_neg (show ¬ (1 : Int32) = 0 by decide), if_pos ht]
          refine congrArg some ?_
          by_cases q : c * b < a * d
          · rw [if_pos q, if_pos (by omega)]
          · rw [if_neg q, if_neg (by omega)]
        · have ht0 : ¬ t = 0 := by rw [ht]; decide
          rw [if_neg ht0, hrec (by omega) (by omega) 0 (Or.inl rfl), if_pos rfl, if_neg ht0]
          refine congrArg some ?_
          by_cases q : a * d < c * b
          · rw [if_pos q, if_pos (by omega)]
          · rw [if_neg q, if_neg (by omega)]
  · rw [if_neg (fun q => hq (z1.mp q)), Option.bind_some]
    unfold mpost
    dsimp only
    by_cases hlt : a / b ≤ c / d
    · have := div_less hb hd (show a / b < c / d by omega)
      rw [if_pos (z2.mpr hlt)]
      rcases ht with ht | ht
      · rw [if_pos ht.symm, if_pos ht, if_neg (by omega)]
      · have ht0 : ¬ t = 0 := by rw [ht]; decide
        rw [if_neg (fun q => ht0 q.symm), if_neg ht0, if_pos this]
    · have := div_less hd hb (show c / d < a / b by omega)
      rw [if_neg (fun q => hlt (z2.mp q))]
      rcases ht with ht | ht
      · rw [if_neg (by rw [ht]; decide), if_pos ht, if_pos this]
      · have ht0 : ¬ t = 0 := by rw [ht]; decide
        rw [if_pos ht.symm, if_neg ht0, if_neg (by omega)]
theorem pu_moreL {N : Nat} : ∀ (k n a b c d : Nat) (t : Int32), (t = 0 ∨ t = 1) → 0 < b → 0 < d → a < 2 ^ 63 → b < 2 ^ 63 → c < 2 ^ 63 → d < 2 ^ 63 → b < 2 ^ k → 2 * k + 1 ≤ n → (fX5_isMore_L17 N n (oL (a : Int)) (oL (b : Int)) (oL (c : Int)) (oL (d : Int)) t).bind mpost = some (if t = 0 then (if c * b < a * d then 1 else 0) else (if a * d < c * b then 1 else 0)) := by
  intro k
  induction k with
  | zero => intro n a b c d t ht hb hd h1 h2 h3 h4 h5; omega
  | succ k ih =>
    intro n a b c d t ht hb hd h1 h2 h3 h4 h5 hn
    obtain ⟨n, rfl⟩ : ∃ m, n = m + 2 := ⟨n - 2, by omega⟩
    have hr1 := Nat.mod_lt a hb
    have hr2 := Nat.mod_lt c hd
    refine pu_moreStep ht hb hd h1 h2 h3 h4 (fun p1 p2 t' ht' => ?_)
    have hr3 := Nat.mod_lt b p1
    have hr4 := Nat.mod_lt d p2
    have hh := gcd_half p1 hr1
    have hp : 2 ^ (k + 1) = 2 * 2 ^ k := by rw [Nat.pow_succ, Nat.mul_comm]
    refine pu_moreStep ht' p1 p2 h2 (by omega) h4 (by omega) (fun p3 p4 t'' ht'' => ?_)
    exact ih n (a % b) (b % (a % b)) (c % d) (d % (c % d)) t'' ht'' p3 p4 (by omega) (by omega) (by omega) (by omega) (by omega) (by omega)
theorem pu_isMore {N a b c d : Nat} (hN : 5000 ≤ N) (hb : 0 < b) (hd : 0 < d) (h1 : a < 2 ^ 63) (h2 : b < 2 ^ 63) (h3 : c < 2 ^ 63) (h4 : d < 2 ^ 63) : fX5_isMore N (oL (a : Int)) (oL (b : Int)) (oL (c : Int)) (oL (d : Int)) = some (if c * b < a * d then 1 else 0) := by
  have := pu_moreL (N := N) 63 N a b c d 0 (Or.inl rfl) hb hd h1 h2 h3 h4 h2 (by omega)
  rw [if_pos rfl] at this
  exact this
/-! ===== rank: the order ===== -/
def ahb (T d : Nat → Int) (e f : Nat) : Bool := decide (T e * d f < T f * d e) || (decide (T e * d f = T f * d e) && decide (e < f))
theorem ahb_iff {T d : Nat → Int} {e f : Nat} : ahb T d e f = true ↔ T e * d f < T f * d e ∨ (T e * d f = T f * d e ∧ e < f) := by
  unfold ahb
  simp
theorem fr_le {T1 d1 T2 d2 T3 d3 : Int} (h1 : 1 ≤ d1) (h2 : 1 ≤ d2) (h3 : 1 ≤ d3) (a : T1 * d2 ≤ T2 * d1) (b : T2 * d3 ≤ T3 * d2) : T1 * d3 ≤ T3 * d1 := by
  have p := Int.mul_le_mul_of_nonneg_right a (show 0 ≤ d3 by omega)
  have q := Int.mul_le_mul_of_nonneg_right b (show 0 ≤ d1 by omega)
  have e1 : T1 * d2 * d3 = (T1 * d3) * d2 := by grind
  have e2 : T2 * d1 * d3 = T2 * d3 * d1 := by grind
  have e3 : T3 * d2 * d1 = (T3 * d1) * d2 := by grind
  exact Int.le_of_mul_le_mul_right (a := d2) (by omega) (by omega)
section
variable {T d : Nat → Int}
theorem ahb_irr (f : Nat) : ahb T d f f = false := by
  have : ¬ ahb T d f f = true := fun h => by
    rw [ahb_iff] at h
    omega
  rw [Bool.not_eq_true] at this
  exact this
theorem ahb_asym {e f : Nat} (h : ahb T d e f = true) : ahb T d f e = false := by
  have : ¬ ahb T d f e = true := fun z => by
    rw [ahb_iff] at h z
    omega
  rw [Bool.not_eq_true] at this
  exact this
theorem ahb_tot {e f : Nat} (hne : e ≠ f) (h : ¬ ahb T d e f = true) : ahb T d f e = true := by
  rw [ahb_iff] at h ⊢
  omega
theorem ahb_trans {e f g : Nat} (he : 1 ≤ d e) (hf : 1 ≤ d f) (hg : 1 ≤ d g) (h1 : ahb T d e f = true) (h2 : ahb T d f g = true) : ahb T d e g = true := by
  rw [ahb_iff] at h1 h2 ⊢
  have a := fr_le he hf hg (show T e * d f ≤ T f * d e by omega) (show T f * d g ≤ T g * d f by omega)
  by_cases z : T e * d g < T g * d e
  · exact Or.inl z
  · right
    have e1 : T e * d g = T g * d e := by omega
    have b := fr_le hg he hf (show T g * d e ≤ T e * d g by omega) (show T e * d f ≤ T f * d e by omega)
    have c := fr_le hf hg he (show T f * d g ≤ T g * d f by omega) (show T g * d e ≤ T e * d g by omega)
    omega
end
theorem plc_ins {p q : Nat → Bool} {g : Nat} (hq : ¬ q g = true) : ∀ F, g < F → (∀ e, e < F → p e = (q e || decide (e = g))) → plc p F = plc q F + 1
  | 0, hg, _ => absurd hg (Nat.not_lt_zero g)
  | F + 1, hg, h => by
    show plc p F + (if p F = true then 1 else 0) = plc q F + (if q F = true then 1 else 0) + 1
    have hF := h F (by omega)
    by_cases e : g = F
    · subst e
      have hc : plc p g = plc q g := by
        have key : ∀ G, G ≤ g → plc p G = plc q G := by
          intro G
          induction G with
          | zero => intro _; rfl
          | succ G ih =>
            intro hG
            show plc p G + (if p G = true then 1 else 0) = plc q G + (if q G = true then 1 else 0)
            have hne : ¬ G = g := by omega
            rw [ih (by omega), h G (by omega)]
            simp [hne]
        exact key g (Nat.le_refl g)
      rw [hc, hF, if_neg hq]
      simp
    · have ih := plc_ins hq F (by omega) (fun e he => h e (by omega))
      have hne : ¬ F = g := fun z => e z.symm
      rw [ih, hF]
      simp only [hne, decide_false, Bool.or_false]
      omega
theorem plc_none {p : Nat → Bool} : ∀ F, (∀ e, e < F → ¬ p e = true) → plc p F = 0
  | 0, _ => rfl
  | F + 1, h => by
    rw [plc_skip (h F (by omega))]
    exact plc_none F (fun e he => h e (by omega))
theorem bc_plc (R : Nat) : ∀ F, bc F R = plc R.testBit F
  | 0 => rfl
  | F + 1 => by
    show bc F R + (if R.testBit F then 1 else 0) = plc R.testBit F + (if R.testBit F = true then 1 else 0)
    rw [bc_plc R F]
theorem plc_congr {p q : Nat → Bool} : ∀ F, (∀ e, e < F → p e = q e) → plc p F = plc q F
  | 0, _ => rfl
  | F + 1, h => by
    show plc p F + (if p F = true then 1 else 0) = plc q F + (if q F = true then 1 else 0)
    rw [plc_congr F (fun e he => h e (by omega)), h F (by omega)]
/-- the flows before j in their order -/
def Srt (sp : Nat → Bool) (T d : Nat → Int) (j : Nat) (r : Nat → Nat) : Prop := (∀ p, p < plc sp j → r p < j ∧ sp (r p) = true) ∧ (∀ p q, p < q → q < plc sp j → ahb T d (r p) (r q) = true) ∧ ∀ e, e < j → sp e = true → ∃ p, p < plc sp j ∧ r p = e
theorem Srt.count {sp : Nat → Bool} {T d : Nat → Int} {F : Nat} {r : Nat → Nat} (h : Srt sp T d F r) : ∀ p, p < plc sp F → plc (fun e => sp e && ahb T d e (r p)) F = p
  | 0, hp => plc_none F (fun e he z => by
      rw [Bool.and_eq_true] at z
      obtain ⟨q, hq, rfl⟩ := h.2.2 e he z.1
      by_cases e0 : q = 0
      · subst e0
        rw [ahb_irr] at z
        exact absurd z.2 (by decide)
      · have := ahb_asym (h.2.1 0 q (by omega) hq)
        rw [this] at z
        exact absurd z.2 (by decide))
  | p + 1, hp => by
    have ih := h.count p (by omega)
    rw [plc_ins (g := r p) (q := fun e => sp e && ahb T d e (r p)) (by simp [ahb_irr]) F (h.1 p (by omega)).1 (fun e he => ?_), ih]
    by_cases hs : sp e = true
    · obtain ⟨q, hq, rfl⟩ := h.2.2 e he hs
      rw [hs]
      simp only [Bool.true_and]
      by_cases q1 : q < p
      · have : ¬ r q = r p := fun z => by
          have := h.2.1 q p q1 (by omega)
          rw [z, ahb_irr] at this
          exact absurd this (by decide)
        rw [h.2.1 q (p + 1) (by omega) hp, h.2.1 q p q1 (by omega)]
        rfl
      · by_cases q2 : q = p
        · subst q2
          rw [h.2.1 q (q + 1) (by omega) hp]
          simp
        · have a1 := ahb_asym (h.2.1 p q (by omega) hq)
          have a2 : ahb T d (r q) (r (p + 1)) = false := by
            by_cases q3 : q = p + 1
            · rw [q3]
              exact ahb_irr _
            · exact ahb_asym (h.2.1 (p + 1) q (by omega) hq)
          have a3 : ¬ r q = r p := fun z => by
            have := h.2.1 p q (by omega) hq
            rw [z, ahb_irr] at this
            exact absurd this (by decide)
          rw [a1, a2]
          simp [a3]
    · have : ¬ e = r p := fun z => hs (by rw [z]; exact (h.1 p (by omega)).2)
      simp [hs, this]
theorem Srt.uni {sp : Nat → Bool} {T d : Nat → Int} {F i f : Nat} {r : Nat → Nat} (h : Srt sp T d F r) (hi : i < plc sp F) (hf : f < F) (hs : sp f = true) : plc (fun e => sp e && ahb T d e f) F = i ↔ f = r i := by
  constructor
  · intro z
    obtain ⟨p, hp, rfl⟩ := h.2.2 f hf hs
    rw [h.count p hp] at z
    rw [z]
  · rintro rfl
    exact h.count i hi
theorem Srt.skip {sp : Nat → Bool} {T d : Nat → Int} {j : Nat} {r : Nat → Nat} (h : Srt sp T d j r) (hn : ¬ sp j = true) : Srt sp T d (j + 1) r := by
  unfold Srt
  rw [plc_skip hn]
  exact ⟨fun p hp => ⟨by have := (h.1 p hp).1; omega, (h.1 p hp).2⟩, h.2.1, fun e he hs => by
    by_cases z : e = j
    · subst z
      exact absurd hs hn
    · exact h.2.2 e (by omega) hs⟩
theorem Srt.ins {sp : Nat → Bool} {T d : Nat → Int} {j k : Nat} {r : Nat → Nat} (h : Srt sp T d j r) (hs : sp j = true) (hd : ∀ e, e ≤ j → sp e = true → 1 ≤ d e) (hk : k ≤ plc sp j) (h1 : ∀ p, k ≤ p → p < plc sp j → ahb T d j (r p) = true) (h2 : k = 0 ∨ ¬ ahb T d j (r (k - 1)) = true) : Srt sp T d (j + 1) (fun p => if p < k then r p else if p = k then j else r (p - 1)) := by
  have hlow : ∀ p, p < k → ahb T d (r p) j = true := fun p hp => by
    have hk0 : ¬ ahb T d j (r (k - 1)) = true := h2.resolve_left (by omega)
    have b1 := h.1 (k - 1) (by omega)
    have t := ahb_tot (fun z => by omega) hk0
    by_cases e : p = k - 1
    · rw [e]
      exact t
    · have b2 := h.1 p (by omega)
      exact ahb_trans (hd _ (by omega) b2.2) (hd _ (by omega) b1.2) (hd j (Nat.le_refl j) hs) (h.2.1 p (k - 1) (by omega) (by omega)) t
  unfold Srt
  rw [plc_succ hs]
  refine ⟨fun p hp => ?_, fun p q hpq hq => ?_, fun e he hse => ?_⟩
  · dsimp only
    by_cases c1 : p < k
    · rw [if_pos c1]
      have := h.1 p (by omega)
      exact ⟨by omega, this.2⟩
    · rw [if_neg c1]
      by_cases c2 : p = k
      · rw [if_pos c2]
        exact ⟨by omega, hs⟩
      · rw [if_neg c2]
        have := h.1 (p - 1) (by omega)
        exact ⟨by omega, this.2⟩
  · dsimp only
    by_cases c1 : p < k
    · rw [if_pos c1]
      by_cases c2 : q < k
      · rw [if_pos c2]
        exact h.2.1 p q hpq (by omega)
      · rw [if_neg c2]
        by_cases c3 : q = k
        · rw [if_pos c3]
          exact hlow p c1
        · rw [if_neg c3]
          exact h.2.1 p (q - 1) (by omega) (by omega)
    · rw [if_neg c1, if_neg (show ¬ q < k by omega), if_neg (show ¬ q = k by omega)]
      by_cases c2 : p = k
      · rw [if_pos c2]
        exact h1 (q - 1) (by omega) (by omega)
      · rw [if_neg c2]
        exact h.2.1 (p - 1) (q - 1) (by omega) (by omega)
  · by_cases z : e = j
    · refine ⟨k, by omega, ?_⟩
      dsimp only
      rw [if_neg (Nat.lt_irrefl k), if_pos rfl, z]
    · obtain ⟨p, hp, rfl⟩ := h.2.2 e (by omega) hse
      by_cases c1 : p < k
      · refine ⟨p, by omega, ?_⟩
        dsimp only
        rw [if_pos c1]
      · refine ⟨p + 1, by omega, ?_⟩
        dsimp only
        rw [if_neg (by omega), if_neg (by omega), Nat.add_sub_cancel]
