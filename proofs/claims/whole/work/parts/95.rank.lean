/-! ===== rank ===== -/
theorem pos_lt {p u v : Int} (hp : 1 ≤ p) : p * u < p * v ↔ u < v := by
  constructor
  · intro h
    refine Classical.byContradiction fun hn => ?_
    have := Int.mul_le_mul_of_nonneg_left (show v ≤ u by omega) (show 0 ≤ p by omega)
    omega
  · intro h
    exact Int.mul_lt_mul_of_pos_left h (by omega)
/-- falls compare as the tests do -/
theorem fall_cmp {T0 d0 Tj dj Te de xj yj xe ye gj ge : Int} (h0 : 1 ≤ d0) (hgj : 1 ≤ gj) (hge : 1 ≤ ge) (e1 : gj * xj = T0 * dj - Tj * d0) (e2 : gj * yj = d0 * dj) (e3 : ge * xe = T0 * de - Te * d0) (e4 : ge * ye = d0 * de) : xe * yj < xj * ye ↔ Tj * de < Te * dj := by
  rw [← pos_lt hge, ← pos_lt hgj (u := ge * (xe * yj)), ← pos_lt h0 (u := Tj * de), ← pos_lt h0 (u := d0 * (Tj * de))]
  have a1 : gj * (ge * (xe * yj)) = (ge * xe) * (gj * yj) := by grind
  have a2 : gj * (ge * (xj * ye)) = (gj * xj) * (ge * ye) := by grind
  rw [a1, a2, e1, e2, e3, e4]
  have b1 : (T0 * de - Te * d0) * (d0 * dj) = T0 * de * d0 * dj - d0 * (d0 * (Te * dj)) := by grind
  have b2 : (T0 * dj - Tj * d0) * (d0 * de) = T0 * de * d0 * dj - d0 * (d0 * (Tj * de)) := by grind
  rw [b1, b2]
  omega
section
variable {N F R K : Nat} {fr tt rd ms pr b : Nat → Int32} {a c : Nat → Nat}
/-- what is known of each spare flow -/
theorem sp_facts (hF : F ≤ 10) (hK : K ≤ 6) (hac : ∀ f, f < F → a f < K ∧ c f < K) (hmv : ∀ f, f < F → 1 ≤ (ms f).toInt ∧ (ms f).toInt ≤ 4) (hrv : ∀ f, f < F → -2000 ≤ (rd f).toInt ∧ (rd f).toInt ≤ 2000) {f : Nat} (hf : f < F) (hsp : isSp R (gat (unr F R).testBit a c F) a c f = true) : 0 ≤ faX (unr F R) (unr F (clr R f)) F K a c (fun f => (ms f).toInt) (fun f => (rd f).toInt) ∧ faX (unr F R) (unr F (clr R f)) F K a c (fun f => (ms f).toInt) (fun f => (rd f).toInt) < 2 ^ 63 ∧ 1 ≤ faY (unr F R) (unr F (clr R f)) F K a c (fun f => (ms f).toInt) (fun f => (rd f).toInt) ∧ faY (unr F R) (unr F (clr R f)) F K a c (fun f => (ms f).toInt) (fun f => (rd f).toInt) < 2 ^ 63 ∧ 0 ≤ tT (unr F (clr R f)) F K a c (fun f => (ms f).toInt) (fun f => (rd f).toInt) ∧ tT (unr F (clr R f)) F K a c (fun f => (ms f).toInt) (fun f => (rd f).toInt) ≤ 4199040000000 ∧ 1 ≤ blF (unr F (clr R f)) F K a c (fun f => (ms f).toInt) (fun f => (rd f).toInt) ∧ blF (unr F (clr R f)) F K a c (fun f => (ms f).toInt) (fun f => (rd f).toInt) ≤ 104976 := by
  unfold isSp at hsp
  rw [Bool.and_eq_true] at hsp
  have hne : gat (unr F R).testBit a c F (a f) ≠ gat (unr F R).testBit a c F (c f) := by simpa using hsp.2
  refine fa_range hF hK hmv hrv hac hf (fun g hg h => ?_) ?_ hne
  · rw [unr_P hF hg] at h ⊢
    rw [clr_bit (by omega)]
    simp at h
    simp [h]
  · rw [unr_P hF hf, clr_bit (by omega)]
    simp
theorem pu_cmpFall (hN : 5000 ≤ N) (hF : F ≤ 10) (hK : K ≤ 6) (hac : ∀ f, f < F → a f < K ∧ c f < K) (hmv : ∀ f, f < F → 1 ≤ (ms f).toInt ∧ (ms f).toInt ≤ 4) (hrv : ∀ f, f < F → -2000 ≤ (rd f).toInt ∧ (rd f).toInt ≤ 2000) {e j : Nat} (he : e < j) (hj : j < F) (hse : isSp R (gat (unr F R).testBit a c F) a c e = true) (hsj : isSp R (gat (unr F R).testBit a c F) a c j = true) : fX5_isMore N (lt2 (faX (unr F R) (unr F (clr R j)) F K a c (fun f => (ms f).toInt) (fun f => (rd f).toInt)) (faY (unr F R) (unr F (clr R j)) F K a c (fun f => (ms f).toInt) (fun f => (rd f).toInt)) 0) (lt2 (faX (unr F R) (unr F (clr R j)) F K a c (fun f => (ms f).toInt) (fun f => (rd f).toInt)) (faY (unr F R) (unr F (clr R j)) F K a c (fun f => (ms f).toInt) (fun f => (rd f).toInt)) 1) (lt2 (faX (unr F R) (unr F (clr R e)) F K a c (fun f => (ms f).toInt) (fun f => (rd f).toInt)) (faY (unr F R) (unr F (clr R e)) F K a c (fun f => (ms f).toInt) (fun f => (rd f).toInt)) 0) (lt2 (faX (unr F R) (unr F (clr R e)) F K a c (fun f => (ms f).toInt) (fun f => (rd f).toInt)) (faY (unr F R) (unr F (clr R e)) F K a c (fun f => (ms f).toInt) (fun f => (rd f).toInt)) 1) = some (if ahb (fun f => tT (unr F (clr R f)) F K a c (fun f => (ms f).toInt) (fun f => (rd f).toInt)) (fun f => blF (unr F (clr R f)) F K a c (fun f => (ms f).toInt) (fun f => (rd f).toInt)) j e then 1 else 0) := by
  obtain ⟨p1, p2, p3, p4, p5, p6, p7, p8⟩ := sp_facts (rd := rd) (ms := ms) hF hK hac hmv hrv hj hsj
  obtain ⟨q1, q2, q3, q4, q5, q6, q7, q8⟩ := sp_facts (rd := rd) (ms := ms) hF hK hac hmv hrv (show e < F by omega) hse
  have d0 := (blF_pos (S := unr F R) (a := a) (c := c) hK hF hmv hrv).1
  have g1 := gA_pos (x := faX (unr F R) (unr F (clr R j)) F K a c (fun f => (ms f).toInt) (fun f => (rd f).toInt)) p3
  have g2 := gA_pos (x := faX (unr F R) (unr F (clr R e)) F K a c (fun f => (ms f).toInt) (fun f => (rd f).toInt)) q3
  have x1 := gA_l (faX (unr F R) (unr F (clr R j)) F K a c (fun f => (ms f).toInt) (fun f => (rd f).toInt)) (faY (unr F R) (unr F (clr R j)) F K a c (fun f => (ms f).toInt) (fun f => (rd f).toInt))
  have x2 := gA_r (faX (unr F R) (unr F (clr R j)) F K a c (fun f => (ms f).toInt) (fun f => (rd f).toInt)) (faY (unr F R) (unr F (clr R j)) F K a c (fun f => (ms f).toInt) (fun f => (rd f).toInt))
  have x3 := gA_l (faX (unr F R) (unr F (clr R e)) F K a c (fun f => (ms f).toInt) (fun f => (rd f).toInt)) (faY (unr F R) (unr F (clr R e)) F K a c (fun f => (ms f).toInt) (fun f => (rd f).toInt))
  have x4 := gA_r (faX (unr F R) (unr F (clr R e)) F K a c (fun f => (ms f).toInt) (fun f => (rd f).toInt)) (faY (unr F R) (unr F (clr R e)) F K a c (fun f => (ms f).toInt) (fun f => (rd f).toInt))
  have hah : ahb (fun f => tT (unr F (clr R f)) F K a c (fun f => (ms f).toInt) (fun f => (rd f).toInt)) (fun f => blF (unr F (clr R f)) F K a c (fun f => (ms f).toInt) (fun f => (rd f).toInt)) j e = true ↔ tT (unr F (clr R j)) F K a c (fun f => (ms f).toInt) (fun f => (rd f).toInt) * blF (unr F (clr R e)) F K a c (fun f => (ms f).toInt) (fun f => (rd f).toInt) < tT (unr F (clr R e)) F K a c (fun f => (ms f).toInt) (fun f => (rd f).toInt) * blF (unr F (clr R j)) F K a c (fun f => (ms f).toInt) (fun f => (rd f).toInt) := by
    rw [ahb_iff]
    constructor
    · rintro (h | h)
      · exact h
      · omega
    · intro h
      exact Or.inl h
  have key := fall_cmp (T0 := tT (unr F R) F K a c (fun f => (ms f).toInt) (fun f => (rd f).toInt)) d0 g1 g2 (show _ = tT (unr F R) F K a c (fun f => (ms f).toInt) (fun f => (rd f).toInt) * blF (unr F (clr R j)) F K a c (fun f => (ms f).toInt) (fun f => (rd f).toInt) - tT (unr F (clr R j)) F K a c (fun f => (ms f).toInt) (fun f => (rd f).toInt) * blF (unr F R) F K a c (fun f => (ms f).toInt) (fun f => (rd f).toInt) from x1) (show _ = blF (unr F R) F K a c (fun f => (ms f).toInt) (fun f => (rd f).toInt) * blF (unr F (clr R j)) F K a c (fun f => (ms f).toInt) (fun f => (rd f).toInt) from x2) (show _ = tT (unr F R) F K a c (fun f => (ms f).toInt) (fun f => (rd f).toInt) * blF (unr F (clr R e)) F K a c (fun f => (ms f).toInt) (fun f => (rd f).toInt) - tT (unr F (clr R e)) F K a c (fun f => (ms f).toInt) (fun f => (rd f).toInt) * blF (unr F R) F K a c (fun f => (ms f).toInt) (fun f => (rd f).toInt) from x3) (show _ = blF (unr F R) F K a c (fun f => (ms f).toInt) (fun f => (rd f).toInt) * blF (unr F (clr R e)) F K a c (fun f => (ms f).toInt) (fun f => (rd f).toInt) from x4)
  unfold lt2
  rw [if_pos rfl, if_neg (show ¬ (1 : Int32) = 0 by decide), if_pos rfl, if_neg (show ¬ (1 : Int32) = 0 by decide)]
  generalize gA (faX (unr F R) (unr F (clr R j)) F K a c (fun f => (ms f).toInt) (fun f => (rd f).toInt)) (faY (unr F R) (unr F (clr R j)) F K a c (fun f => (ms f).toInt) (fun f => (rd f).toInt)) = G1 at *
  generalize gA (faX (unr F R) (unr F (clr R e)) F K a c (fun f => (ms f).toInt) (fun f => (rd f).toInt)) (faY (unr F R) (unr F (clr R e)) F K a c (fun f => (ms f).toInt) (fun f => (rd f).toInt)) = G2 at *
  generalize faX (unr F R) (unr F (clr R j)) F K a c (fun f => (ms f).toInt) (fun f => (rd f).toInt) / G1 = xj at *
  generalize faY (unr F R) (unr F (clr R j)) F K a c (fun f => (ms f).toInt) (fun f => (rd f).toInt) / G1 = yj at *
  generalize faX (unr F R) (unr F (clr R e)) F K a c (fun f => (ms f).toInt) (fun f => (rd f).toInt) / G2 = xe at *
  generalize faY (unr F R) (unr F (clr R e)) F K a c (fun f => (ms f).toInt) (fun f => (rd f).toInt) / G2 = ye at *
  have a1 := nonneg_of_mul g1 (show 0 ≤ G1 * xj by omega)
  have a2 := nonneg_of_mul g1 (show 0 ≤ G1 * yj by omega)
  have a3 := nonneg_of_mul g2 (show 0 ≤ G2 * xe by omega)
  have a4 := nonneg_of_mul g2 (show 0 ≤ G2 * ye by omega)
  have b1 := (abs_le_mul g1 (show -2 ^ 63 < G1 * xj by omega) (by omega)).2
  have b2 := (abs_le_mul g1 (show -2 ^ 63 < G1 * yj by omega) (by omega)).2
  have b3 := (abs_le_mul g2 (show -2 ^ 63 < G2 * xe by omega) (by omega)).2
  have b4 := (abs_le_mul g2 (show -2 ^ 63 < G2 * ye by omega) (by omega)).2
  have c1 : yj ≠ 0 := fun z => by
    rw [z, Int.mul_zero] at x2
    omega
  have c2 : ye ≠ 0 := fun z => by
    rw [z, Int.mul_zero] at x4
    omega
  have m := pu_isMore (N := N) (a := xj.toNat) (b := yj.toNat) (c := xe.toNat) (d := ye.toNat) hN (by omega) (by omega) (by omega) (by omega) (by omega) (by omega)
  rw [show ((xj.toNat : Nat) : Int) = xj by omega, show ((yj.toNat : Nat) : Int) = yj by omega, show ((xe.toNat : Nat) : Int) = xe by omega, show ((ye.toNat : Nat) : Int) = ye by omega] at m
  rw [m]
  refine congrArg some ?_
  have hn : xe.toNat * yj.toNat < xj.toNat * ye.toNat ↔ xe * yj < xj * ye := by
    have e1 : ((xe.toNat * yj.toNat : Nat) : Int) = xe * yj := by
      rw [Int.natCast_mul, show ((xe.toNat : Nat) : Int) = xe by omega, show ((yj.toNat : Nat) : Int) = yj by omega]
    have e2 : ((xj.toNat * ye.toNat : Nat) : Int) = xj * ye := by
      rw [Int.natCast_mul, show ((xj.toNat : Nat) : Int) = xj by omega, show ((ye.toNat : Nat) : Int) = ye by omega]
    omega
  by_cases z : ahb (fun f => tT (unr F (clr R f)) F K a c (fun f => (ms f).toInt) (fun f => (rd f).toInt)) (fun f => blF (unr F (clr R f)) F K a c (fun f => (ms f).toInt) (fun f => (rd f).toInt)) j e = true
  · rw [if_pos z, if_pos (hn.mpr (key.mpr (hah.mp z)))]
  · rw [if_neg z, if_neg (fun q => z (hah.mpr (key.mp (hn.mp q))))]
/-- the reference moves what stands behind -/
theorem pu_rank31 (hN : 5000 ≤ N) (hF : F ≤ 10) (hK : K ≤ 6) (hac : ∀ f, f < F → a f < K ∧ c f < K) (hmv : ∀ f, f < F → 1 ≤ (ms f).toInt ∧ (ms f).toInt ≤ 4) (hrv : ∀ f, f < F → -2000 ≤ (rd f).toInt ∧ (rd f).toInt ≤ 2000) {j n : Nat} {y1 y2 y3 : Int32} {fa fb : Nat → Int64} {r : Nat → Nat} (hj : j < F) (hsj : isSp R (gat (unr F R).testBit a c F) a c j = true) (hn : n ≤ 9) (hr : ∀ p, p < n → r p < j ∧ isSp R (gat (unr F R).testBit a c F) a c (r p) = true) (hfa : ∀ e, e < j → isSp R (gat (unr F R).testBit a c F) a c e = true → fa e = lt2 (faX (unr F R) (unr F (clr R e)) F K a c (fun f => (ms f).toInt) (fun f => (rd f).toInt)) (faY (unr F R) (unr F (clr R e)) F K a c (fun f => (ms f).toInt) (fun f => (rd f).toInt)) 0 ∧ fb e = lt2 (faX (unr F R) (unr F (clr R e)) F K a c (fun f => (ms f).toInt) (fun f => (rd f).toInt)) (faY (unr F R) (unr F (clr R e)) F K a c (fun f => (ms f).toInt) (fun f => (rd f).toInt)) 1) : ∀ (fu k : Nat) (ranks : Nat → Int32), k < fu → k ≤ n → (∀ p, p < k → ranks p = nI (r p)) → (∀ p, k ≤ p → p < n → ranks (p + 1) = nI (r p)) → (∀ p, k ≤ p → p < n → ahb (fun f => tT (unr F (clr R f)) F K a c (fun f => (ms f).toInt) (fun f => (rd f).toInt)) (fun f => blF (unr F (clr R f)) F K a c (fun f => (ms f).toInt) (fun f => (rd f).toInt)) j (r p) = true) → ∃ (k' : Nat) (ranks' : Nat → Int32), fX5_rank_L31 N fu y1 y2 y3 (nI k) (lt2 (faX (unr F R) (unr F (clr R j)) F K a c (fun f => (ms f).toInt) (fun f => (rd f).toInt)) (faY (unr F R) (unr F (clr R j)) F K a c (fun f => (ms f).toInt) (fun f => (rd f).toInt)) 0) (lt2 (faX (unr F R) (unr F (clr R j)) F K a c (fun f => (ms f).toInt) (fun f => (rd f).toInt)) (faY (unr F R) (unr F (clr R j)) F K a c (fun f => (ms f).toInt) (fun f => (rd f).toInt)) 1) fa fb ranks = some (nI k', ranks') ∧ k' ≤ n ∧ (∀ p, p < k' → ranks' p = nI (r p)) ∧ (∀ p, k' ≤ p → p < n → ranks' (p + 1) = nI (r p)) ∧ (∀ p, k' ≤ p → p < n → ahb (fun f => tT (unr F (clr R f)) F K a c (fun f => (ms f).toInt) (fun f => (rd f).toInt)) (fun f => blF (unr F (clr R f)) F K a c (fun f => (ms f).toInt) (fun f => (rd f).toInt)) j (r p) = true) ∧ (k' = 0 ∨ ¬ ahb (fun f => tT (unr F (clr R f)) F K a c (fun f => (ms f).toInt) (fun f => (rd f).toInt)) (fun f => blF (unr F (clr R f)) F K a c (fun f => (ms f).toInt) (fun f => (rd f).toInt)) j (r (k' - 1)) = true) := by
  intro fu
  induction fu with
  | zero => intro k ranks h1; omega
  | succ fu ih =>
    intro k ranks h1 h2 h3 h4 h5
    unfold fX5_rank_L31
    by_cases hk : k = 0
    · subst hk
      rw [if_pos (show nI 0 ≤ 0 by decide)]
      exact ⟨0, ranks, rfl, h2, h3, h4, h5, Or.inl rfl⟩
    · obtain ⟨q1, q2⟩ := hr (k - 1) (by omega)
      obtain ⟨f1, f2⟩ := hfa _ q1 q2
      rw [if_neg (show ¬ nI k ≤ 0 from nI_ge (a := 0) (by omega) (by omega)), show nI k - 1 = nI (k - 1) from pk_sub (a := k) (b := 1) (by omega), pu_rd (by omega) (by decide), Option.bind_some, h3 (k - 1) (by omega), pu_rd (by omega) (by decide), Option.bind_some, Option.bind_some, pu_rd (by omega) (by decide), Option.bind_some, f1, f2, pu_cmpFall hN hF hK hac hmv hrv q1 hj q2 hsj, Option.bind_some]
      by_cases z : ahb (fun f => tT (unr F (clr R f)) F K a c (fun f => (ms f).toInt) (fun f => (rd f).toInt)) (fun f => blF (unr F (clr R f)) F K a c (fun f => (ms f).toInt) (fun f => (rd f).toInt)) j (r (k - 1)) = true
      · rw [if_pos z, if_neg (show ¬ (1 : Int32) = 0 by decide), Option.bind_some, pu_wr (by omega) (by decide), Option.bind_some, pu_lt, show nI k + (-1) = nI (k - 1) from by
          rw [← Int32.sub_eq_add_neg]
          exact pk_sub (a := k) (b := 1) (by omega)]
        refine ih (k - 1) _ (by omega) (by omega) (fun p hp => ?_) (fun p hp1 hp2 => ?_) (fun p hp1 hp2 => ?_)
        · rw [ya_up_ne (by omega)]
          exact h3 p (by omega)
        · by_cases e : p = k - 1
          · subst e
            rw [show k - 1 + 1 = k by omega, ya_up_eq]
          · rw [ya_up_ne (by omega)]
            exact h4 p (by omega) hp2
        · by_cases e : p = k - 1
          · subst e
            exact z
          · exact h5 p (by omega) hp2
      · rw [if_neg z, if_pos rfl]
        exact ⟨k, ranks, rfl, h2, h3, h4, h5, Or.inr z⟩
theorem pu_rank4 (hN : 5000 ≤ N) (hF : F ≤ 10) (hK : K ≤ 6) (hb0 : b 0 = nI K) (hM : Mb F R fr tt b) (hX : Mx F rd ms pr b) (hE : Ends F fr tt a c) (hac : ∀ f, f < F → a f < K ∧ c f < K) (hmv : ∀ f, f < F → 1 ≤ (ms f).toInt ∧ (ms f).toInt ≤ 4) (hrv : ∀ f, f < F → -2000 ≤ (rd f).toInt ∧ (rd f).toInt ≤ 2000) {y1 : Int32} : ∀ (fu j : Nat) (z0 z1 z2 : Int64) (lh lp pl : Nat → Int32) (mat right fo w fa fb : Nat → Int64) (ranks : Nat → Int32) (r : Nat → Nat), j ≤ F → F - j < fu → Srt (isSp R (gat (unr F R).testBit a c F) a c) (fun f => tT (unr F (clr R f)) F K a c (fun f => (ms f).toInt) (fun f => (rd f).toInt)) (fun f => blF (unr F (clr R f)) F K a c (fun f => (ms f).toInt) (fun f => (rd f).toInt)) j r → (∀ p, p < plc (isSp R (gat (unr F R).testBit a c F) a c) j → ranks p = nI (r p)) → (∀ e, e < j → isSp R (gat (unr F R).testBit a c F) a c e = true → fa e = lt2 (faX (unr F R) (unr F (clr R e)) F K a c (fun f => (ms f).toInt) (fun f => (rd f).toInt)) (faY (unr F R) (unr F (clr R e)) F K a c (fun f => (ms f).toInt) (fun f => (rd f).toInt)) 0 ∧ fb e = lt2 (faX (unr F R) (unr F (clr R e)) F K a c (fun f => (ms f).toInt) (fun f => (rd f).toInt)) (faY (unr F R) (unr F (clr R e)) F K a c (fun f => (ms f).toInt) (fun f => (rd f).toInt)) 1) → ∃ (z0' z1' z2' : Int64) (lh' lp' pl' : Nat → Int32) (mat' right' fo' w' fa' fb' : Nat → Int64) (ranks' : Nat → Int32) (r' : Nat → Nat), fX5_rank_L4 N fu y1 (nI (plc (isSp R (gat (unr F R).testBit a c F) a c) j)) (nI j) z0 z1 z2 b lh lp pl mat right fo w fa fb ranks = some (nI (plc (isSp R (gat (unr F R).testBit a c F) a c) F), z0', z1', z2', b, lh', lp', pl', mat', right', fo', w', fa', fb', ranks') ∧ Srt (isSp R (gat (unr F R).testBit a c F) a c) (fun f => tT (unr F (clr R f)) F K a c (fun f => (ms f).toInt) (fun f => (rd f).toInt)) (fun f => blF (unr F (clr R f)) F K a c (fun f => (ms f).toInt) (fun f => (rd f).toInt)) F r' ∧ ∀ p, p < plc (isSp R (gat (unr F R).testBit a c F) a c) F → ranks' p = nI (r' p) := by
  intro fu
  induction fu with
  | zero => intro j z0 z1 z2 lh lp pl mat right fo w fa fb ranks r h1 h2; omega
  | succ fu ih =>
    intro j z0 z1 z2 lh lp pl mat right fo w fa fb ranks r h1 h2 hS hr hfa
    unfold fX5_rank_L4
    rw [pu_flows, hM.1, Option.bind_some]
    by_cases hj : j = F
    · subst hj
      rw [if_pos (nI_le (Nat.le_refl _) (by omega))]
      exact ⟨z0, z1, z2, lh, lp, pl, mat, right, fo, w, fa, fb, ranks, r, rfl, hS, hr⟩
    · have hlt : j < F := by omega
      have hbd := plc_bd (hr := isSp R (gat (unr F R).testBit a c F) a c) j
      obtain ⟨m1, s4, -⟩ := pu_isSpare (l := lh) hN hF hM hE hlt
      rw [if_neg (nI_ge hlt (by omega)), s4, Option.bind_some]
      dsimp only
      by_cases hs : isSp R (gat (unr F R).testBit a c F) a c j = true
      · obtain ⟨v1, fh, fp, fl', fm, frr, ff, fw, e3⟩ := pu_fallOf (b0 := z0) (z1 := z1) (z2 := z2) (lh := m1) (lp := lp) (pl := pl) (mat := mat) (right := right) (fo := fo) (w := w) hN hF hK hb0 hM hX hE hac hmv hrv hlt hs
        obtain ⟨k, rk, e4, k1, k2, k3, k4, k5⟩ := pu_rank31 (N := N) (y1 := y1) (y2 := nI (plc (isSp R (gat (unr F R).testBit a c F) a c) j)) (y3 := nI j) (fa := fa) (fb := fb) (r := r) hN hF hK hac hmv hrv hlt hs (n := plc (isSp R (gat (unr F R).testBit a c F) a c) j) (by omega) (fun p hp => hS.1 p hp) hfa N (plc (isSp R (gat (unr F R).testBit a c F) a c) j) ranks (by omega) (Nat.le_refl _) hr (fun p q1 q2 => by omega) (fun p q1 q2 => by omega)
        rw [if_pos hs, if_neg (show ¬ (1 : Int32) = 0 by decide), e3, Option.bind_some]
        dsimp only
        rw [e4, Option.bind_some]
        dsimp only
        rw [pu_wr (by omega) (by decide), Option.bind_some, pu_wr (by omega) (by decide), Option.bind_some, pu_wr (by omega) (by decide), Option.bind_some, pu_lt, pu_lt, nI_1, nI_1, ← plc_succ hs]
        refine ih (j + 1) _ _ _ _ _ _ _ _ _ _ _ _ _ (fun p => if p < k then r p else if p = k then j else r (p - 1)) (by omega) (by omega) (hS.ins hs (fun e he hse => (sp_facts (rd := rd) (ms := ms) hF hK hac hmv hrv (show e < F by omega) hse).2.2.2.2.2.2.1) k1 k4 k5) (fun p hp => ?_) (fun e he hse => ?_)
        · rw [plc_succ hs] at hp
          by_cases c2 : p = k
          · subst c2
            rw [ya_up_eq, if_neg (Nat.lt_irrefl p), if_pos rfl]
          · rw [ya_up_ne c2]
            by_cases c1 : p < k
            · rw [if_pos c1]
              exact k2 p c1
            · rw [if_neg c1, if_neg c2]
              have := k3 (p - 1) (by omega) (by omega)
              rw [show p - 1 + 1 = p by omega] at this
              exact this
        · by_cases z : e = j
          · subst z
            rw [ya_up_eq, ya_up_eq]
            exact ⟨rfl, rfl⟩
          · rw [ya_up_ne z, ya_up_ne z]
            exact hfa e (by omega) hse
      · rw [if_neg hs, if_pos rfl, pu_lt, nI_1, ← plc_skip hs]
        refine ih (j + 1) _ _ _ _ _ _ _ _ _ _ _ _ _ r (by omega) (by omega) (hS.skip hs) (fun p hp => ?_) (fun e he hse => ?_)
        · rw [plc_skip hs] at hp
          exact hr p hp
        · by_cases z : e = j
          · subst z
            exact absurd hse hs
          · exact hfa e (by omega) hse
/-! ===== rank: the class ===== -/
theorem pu_tests (hN : 5000 ≤ N) (hF : F ≤ 10) (hR : R < 1024) (hK : K ≤ 6) (hE : Ends F fr tt a c) (hac : ∀ f, f < F → a f < K ∧ c f < K) (hmv : ∀ f, f < F → 1 ≤ (ms f).toInt ∧ (ms f).toInt ≤ 4) (hrv : ∀ f, f < F → -2000 ≤ (rd f).toInt ∧ (rd f).toInt ≤ 2000) {S' : Nat} (hS' : S' < 1024) : ∀ (n i : Nat) (un : Int32) (b0 : Int64) (lh lp : Nat → Int32) (rows : Nat → Nat → Int64) (su ta tb : Nat → Int64), i ≤ F → F - i < n → (∀ e, e < i → S'.testBit e = true → ta e = oL (tT (unr F (clr R e)) F K a c (fun f => (ms f).toInt) (fun f => (rd f).toInt)) ∧ tb e = oL (blF (unr F (clr R e)) F K a c (fun f => (ms f).toInt) (fun f => (rd f).toInt))) → ∃ (un' : Int32) (b0' : Int64) (lh' lp' : Nat → Int32) (rows' : Nat → Nat → Int64) (su' ta' tb' : Nat → Int64), fX4_testWithoutEach_L2 N n (nI S') (nI i) (nI K) (nI F) (nI R) fr tt rd ms un b0 lh lp rows su ta tb = some (un', b0', lh', lp', rows', su', ta', tb') ∧ ∀ e, e < F → S'.testBit e = true → ta' e = oL (tT (unr F (clr R e)) F K a c (fun f => (ms f).toInt) (fun f => (rd f).toInt)) ∧ tb' e = oL (blF (unr F (clr R e)) F K a c (fun f => (ms f).toInt) (fun f => (rd f).toInt)) := by
  intro n
  induction n with
  | zero => intro i un b0 lh lp rows su ta tb h1 h2; omega
  | succ n ih =>
    intro i un b0 lh lp rows su ta tb h1 h2 hT
    unfold fX4_testWithoutEach_L2
    by_cases hi : i = F
    · subst hi
      rw [if_pos (nI_le (Nat.le_refl _) (by omega))]
      exact ⟨un, b0, lh, lp, rows, su, ta, tb, rfl, hT⟩
    · have hlt : i < F := by omega
      rw [if_neg (nI_ge hlt (by omega)), pu_holds hS' (by omega), Option.bind_some]
      by_cases hb : S'.testBit i = true
      · obtain ⟨lh2, lp2, rw2, su2, e2, p4, p5, p6⟩ := pu_solve (un := un) (b0 := b0) (lh := lh) (lp := lp) (rows := rows) (sur := su) hN hF (unr_1024 (R := clr R i) hF) hK hE hac hmv hrv
        rw [if_pos hb, if_neg (show ¬ (1 : Int32) = 0 by decide), pu_unread hF, Option.bind_some, pu_bit (by omega), Option.bind_some, pu_or, unr_more hF hlt, e2, Option.bind_some]
        dsimp only
        rw [pu_testC hN hK (gat_le _ _ _ _) hac p5 p6, Option.bind_some, pu_wr (by omega) (by decide), Option.bind_some, pu_wr (by omega) (by decide), Option.bind_some, pu_lt, nI_1]
        refine ih (i + 1) _ _ _ _ _ _ _ _ (by omega) (by omega) (fun e he hse => ?_)
        by_cases z : e = i
        · subst z
          rw [ya_up_eq, ya_up_eq]
          exact ⟨rfl, rfl⟩
        · rw [ya_up_ne z, ya_up_ne z]
          exact hT e (by omega) hse
      · rw [if_neg hb, if_pos rfl, pu_lt, nI_1]
        refine ih (i + 1) _ _ _ _ _ _ _ _ (by omega) (by omega) (fun e he hse => ?_)
        by_cases z : e = i
        · subst z
          exact absurd hse hb
        · exact hT e (by omega) hse
end
theorem pu_ahead {N F S' f : Nat} {T d : Nat → Int} {sp : Nat → Bool} {ta tb : Nat → Int64} (hN : 5000 ≤ N) (hF : F ≤ 10) (hS' : S' < 1024) (hsp : ∀ e, e < F → S'.testBit e = sp e) (hta : ∀ e, e < F → sp e = true → ta e = oL (T e) ∧ tb e = oL (d e)) (hb : ∀ e, e < F → sp e = true → 0 ≤ T e ∧ T e ≤ 4199040000000 ∧ 1 ≤ d e ∧ d e ≤ 104976) (hf : f < F) (hsf : sp f = true) : fX4_countAhead N (nI F) ta tb (nI f) (nI S') = some (nI (plc (fun e => sp e && ahb T d e f) F)) := by
  obtain ⟨f1, f2⟩ := hta f hf hsf
  obtain ⟨g1, g2, g3, g4⟩ := hb f hf hsf
  have key : ∀ (n i : Nat), i ≤ F → F - i < n → fX4_countAhead_L5 N n (nI f) (nI S') (nI (plc (fun e => sp e && ahb T d e f) i)) (nI i) (nI F) ta tb = some (nI (plc (fun e => sp e && ahb T d e f) F)) := by
    intro n
    induction n with
    | zero => intro i h1 h2; omega
    | succ n ih =>
      intro i h1 h2
      unfold fX4_countAhead_L5
      by_cases hi : i = F
      · subst hi
        rw [if_pos (nI_le (Nat.le_refl _) (by omega))]
      · have hlt : i < F := by omega
        have ih' := ih (i + 1) (by omega) (by omega)
        rw [if_neg (nI_ge hlt (by omega))]
        have hno : ¬ (sp i && ahb T d i f) = true → fX4_countAhead_L5 N n (nI f) (nI S') (nI (plc (fun e => sp e && ahb T d e f) i)) (nI (i + 1)) (nI F) ta tb = some (nI (plc (fun e => sp e && ahb T d e f) F)) := fun hn => by
          rw [plc_skip (hr := fun e => sp e && ahb T d e f) hn] at ih'
          exact ih'
        have hyes : (sp i && ahb T d i f) = true → fX4_countAhead_L5 N n (nI f) (nI S') (nI (plc (fun e => sp e && ahb T d e f) i + 1)) (nI (i + 1)) (nI F) ta tb = some (nI (plc (fun e => sp e && ahb T d e f) F)) := fun hy => by
          rw [plc_succ (hr := fun e => sp e && ahb T d e f) hy] at ih'
          exact ih'
        by_cases hif : i = f
        · rw [if_pos (by rw [hif]), pu_lt, nI_1]
          exact hno (by rw [hif, ahb_irr]; simp)
        · rw [if_neg (fun q => hif ((nI_eq (by omega) (by omega)).mp q)), pu_holds hS' (by omega), Option.bind_some, hsp i hlt]
          by_cases hs : sp i = true
          · obtain ⟨i1, i2⟩ := hta i hlt hs
            obtain ⟨j1, j2, j3, j4⟩ := hb i hlt hs
            have m1 := mul_bound (x := T i) (y := d f) (p := 4199040000000) (q := 104976) (by decide) (by omega) j2 (by omega) g4
            have m2 := mul_bound (x := T f) (y := d i) (p := 4199040000000) (q := 104976) (by decide) (by omega) g2 (by omega) j4
            rw [if_pos hs, if_neg (show ¬ (1 : Int32) = 0 by decide), pu_rd (by omega) (by decide), Option.bind_some, pu_rd (by omega) (by decide), Option.bind_some, pu_lt, pu_rd (by omega) (by decide), Option.bind_some, pu_rd (by omega) (by decide), Option.bind_some, pu_lt, i1, i2, f1, f2, oL_mul, oL_mul]
            have c1 : lg_cmp (oL (T i * d f)) (oL (T f * d i)) < 0 ↔ T i * d f < T f * d i := by
              rw [lg_cmp_lt, Int64.lt_iff_toInt_lt, oL_toInt (by omega) (by omega), oL_toInt (by omega) (by omega)]
            have c2 : lg_cmp (oL (T i * d f)) (oL (T f * d i)) = 0 ↔ T i * d f = T f * d i := by
              rw [lg_cmp_eq]
              constructor
              · intro h
                have := congrArg Int64.toInt h
                rw [oL_toInt (by omega) (by omega), oL_toInt (by omega) (by omega)] at this
                exact this
              · intro h
                rw [h]
            have hah := ahb_iff (T := T) (d := d) (e := i) (f := f)
            by_cases z1 : T i * d f < T f * d i
            · rw [if_pos (c1.mpr z1), pu_lt, pu_lt, nI_1, nI_1]
              exact hyes (by rw [hs, hah.mpr (Or.inl z1)]; rfl)
            · rw [if_neg (fun q => z1 (c1.mp q))]
              by_cases z2 : T i * d f = T f * d i
              · rw [if_pos (c2.mpr z2)]
                by_cases z3 : f ≤ i
                · rw [if_pos (nI_le z3 (by omega)), pu_lt, nI_1]
                  exact hno (fun q => by
                    rw [Bool.and_eq_true, hah] at q
                    omega)
                · rw [if_neg (nI_ge (by omega) (by omega)), pu_lt, pu_lt, nI_1, nI_1]
                  exact hyes (by rw [hs, hah.mpr (Or.inr ⟨z2, by omega⟩)]; rfl)
              · rw [if_neg (fun q => z2 (c2.mp q)), pu_lt, nI_1]
                exact hno (fun q => by
                  rw [Bool.and_eq_true, hah] at q
                  omega)
          · rw [if_neg hs, if_pos rfl, pu_lt, nI_1]
            exact hno (by simp [hs])
  unfold fX4_countAhead
  rw [show fX4_countAhead_L5 N N (nI f) (nI S') 0 0 (nI F) ta tb = some (nI (plc (fun e => sp e && ahb T d e f) F)) from key N 0 (Nat.zero_le F) (by omega), Option.bind_some]
theorem pu_rank26 {N F S' i : Nat} {T d : Nat → Int} {sp : Nat → Bool} {ta tb : Nat → Int64} {r : Nat → Nat} (hN : 5000 ≤ N) (hF : F ≤ 10) (hS' : S' < 1024) (hsp : ∀ e, e < F → S'.testBit e = sp e) (hta : ∀ e, e < F → sp e = true → ta e = oL (T e) ∧ tb e = oL (d e)) (hb : ∀ e, e < F → sp e = true → 0 ≤ T e ∧ T e ≤ 4199040000000 ∧ 1 ≤ d e ∧ d e ≤ 104976) (hS : Srt sp T d F r) (hi : i < plc sp F) : ∀ (n f : Nat), f ≤ r i → F - f < n → fX4_rank_L26 N n (nI i) (nI S') (nI f) (nI F) ta tb = some (.inl (nI (r i))) := by
  obtain ⟨r1, r2⟩ := hS.1 i hi
  have hbd := plc_bd (hr := sp) F
  intro n
  induction n with
  | zero => intro f h1 h2; omega
  | succ n ih =>
    intro f h1 h2
    have hlt : f < F := by omega
    unfold fX4_rank_L26
    rw [if_neg (nI_ge hlt (by omega)), pu_holds hS' (by omega), Option.bind_some, hsp f hlt]
    by_cases hs : sp f = true
    · have hc := plc_bd (hr := fun e => sp e && ahb T d e f) F
      rw [if_pos hs, if_neg (show ¬ (1 : Int32) = 0 by decide), pu_ahead hN hF hS' hsp hta hb hlt hs, Option.bind_some]
      by_cases z : f = r i
      · rw [if_pos (by rw [(hS.uni hi hlt hs).mpr z]), z]
      · rw [if_neg (fun q => z ((hS.uni hi hlt hs).mp ((nI_eq (by omega) (by omega)).mp q))), pu_lt, nI_1]
        exact ih (f + 1) (by omega) (by omega)
    · have : f ≠ r i := fun z => hs (by rw [z]; exact r2)
      rw [if_neg hs, if_pos rfl, pu_lt, nI_1]
      exact ih (f + 1) (by omega) (by omega)

set_option maxHeartbeats 4000000 in
theorem ps_rank {N : Nat} (hN : 5000 ≤ N) : ob_rank N yInv := by
  intro kn fl rs fr tt rd ms pr kd ln sh nx ct kK fK rK frK ttK rdK msK prK kdK lnK shK s_x_groups_least s_x_fit_unread s_x_fit_below s_x_fit_heaps_least s_x_fit_pieces_least s_x_fit_sides_least s_x_fit_rows s_x_fit_surplus s_x_away s_x_testAbove s_x_testBelow mn s_m_below s_m_above1 s_m_below1 nw bf s_m_heapOf s_m_partOf s_m_place s_m_matrix s_m_right s_m_force s_m_work s_m_side s_m_far s_m_fallAbove s_m_fallBelow s_m_ranks s_m_was hI x1
  obtain ⟨⟨K, F, R, hW⟩, hP⟩ := id hI
  have hK := hW.2.1
  have hF := hW.2.2.1
  have hR := hW.2.2.2.1
  have hkn : kn = nI K := hW.2.2.2.2.1
  have hfl : fl = nI F := hW.2.2.2.2.2.1
  have hrs : rs = nI R := hW.2.2.2.2.2.2.1
  have hb0 := hW.2.2.2.2.2.2.2.1
  have hb := hW.2.2.2.2.2.2.2.2.1
  subst hkn
  subst hfl
  subst hrs
  obtain ⟨S', g', s1, s2, s3, -⟩ := pu_spareSet (l := s_x_groups_least) hN hF (pu_1024 hR hF) hW.ends
  obtain ⟨z0, z1, z2, lh2, lp2, pl2, mt2, rt2, fo2, wk2, fa2, fb2, rk2, r, e1, hS, hrk⟩ := pu_rank4 (y1 := x1) hN hF hK hb0 hW.mb hW.mx hW.ends hW.endK hW.mvr hW.rvr N 0 s_m_below s_m_above1 s_m_below1 s_m_heapOf s_m_partOf s_m_place s_m_matrix s_m_right s_m_force s_m_work s_m_fallAbove s_m_fallBelow s_m_ranks (fun p => p) (Nat.zero_le F) (by omega) ⟨fun p hp => absurd hp (Nat.not_lt_zero p), fun p q _ hq => absurd hq (Nat.not_lt_zero q), fun e he => absurd he (Nat.not_lt_zero e)⟩ (fun p hp => absurd hp (Nat.not_lt_zero p)) (fun e he => absurd he (Nat.not_lt_zero e))
  have e1' : fX5_rank_L4 N N x1 0 0 s_m_below s_m_above1 s_m_below1 nw s_m_heapOf s_m_partOf s_m_place s_m_matrix s_m_right s_m_force s_m_work s_m_fallAbove s_m_fallBelow s_m_ranks = some (nI (plc (isSp R (gat (unr F R).testBit (eA fr) (eA tt) F) (eA fr) (eA tt)) F), z0, z1, z2, nw, lh2, lp2, pl2, mt2, rt2, fo2, wk2, fa2, fb2, rk2) := e1
  have hbd := plc_bd (hr := (isSp R (gat (unr F R).testBit (eA fr) (eA tt) F) (eA fr) (eA tt))) F
  have hbc : bc F S' = plc (isSp R (gat (unr F R).testBit (eA fr) (eA tt) F) (eA fr) (eA tt)) F := by
    rw [bc_plc]
    exact plc_congr F s3
  rcases pu_inrange (n := plc (isSp R (gat (unr F R).testBit (eA fr) (eA tt) F) (eA fr) (eA tt)) F) (by omega) x1 with ⟨i, hi, rfl⟩ | ⟨h1, h2⟩
  · obtain ⟨un', b0', lh', lp', rows', su', ta', tb', e2, hT⟩ := pu_tests (rd := rd) (ms := ms) (R := R) hN hF (pu_1024 hR hF) hK hW.ends hW.endK hW.mvr hW.rvr (S' := S') (pu_1024 s2 hF) N 0 s_x_fit_unread s_x_fit_below s_x_fit_heaps_least s_x_fit_pieces_least s_x_fit_rows s_x_fit_surplus s_x_testAbove s_x_testBelow (Nat.zero_le F) (by omega) (fun e he => absurd he (Nat.not_lt_zero e))
    have e2' : fX4_testWithoutEach_L2 N N (nI S') 0 (nI K) (nI F) (nI R) fr tt rd ms s_x_fit_unread s_x_fit_below s_x_fit_heaps_least s_x_fit_pieces_least s_x_fit_rows s_x_fit_surplus s_x_testAbove s_x_testBelow = some (un', b0', lh', lp', rows', su', ta', tb') := e2
    have e3 := pu_rank26 (N := N) (i := i) (ta := ta') (tb := tb') (T := (fun f => tT (unr F (clr R f)) F K (eA fr) (eA tt) (fun f => (ms f).toInt) (fun f => (rd f).toInt))) (d := (fun f => blF (unr F (clr R f)) F K (eA fr) (eA tt) (fun f => (ms f).toInt) (fun f => (rd f).toInt))) hN hF (pu_1024 s2 hF) s3 (fun e he hse => hT e he (by rw [s3 e he]; exact hse)) (fun e he hse => by
      obtain ⟨-, -, -, -, p5, p6, p7, p8⟩ := sp_facts (rd := rd) (ms := ms) hF hK hW.endK hW.mvr hW.rvr he hse
      exact ⟨p5, p6, p7, p8⟩) hS hi N 0 (Nat.zero_le _) (by omega)
    have e3' : fX4_rank_L26 N N (nI i) (nI S') 0 (nI F) ta' tb' = some (.inl (nI (r i))) := e3
    refine ⟨nI (r i), g', un', b0', lh', lp', rows', su', ta', tb', z0, z1, z2, nw, lh2, lp2, pl2, mt2, rt2, fo2, wk2, fa2, fb2, rk2, ?_, ?_, hI⟩
    · unfold fX4_rank
      rw [s1, Option.bind_some]
      dsimp only
      rw [if_neg (nI_pos (by omega)), pu_bcF s2 hF, Option.bind_some, hbc, if_pos (nI_lt hi (by omega))]
      unfold fX4_testWithoutEach
      rw [e2', Option.bind_some]
      dsimp only
      rw [Option.bind_some]
      dsimp only
      rw [e3']
      rfl
    · unfold fX5_rank
      rw [e1', Option.bind_some]
      dsimp only
      rw [pu_isIn, Option.bind_some, if_pos (pu_inIn (by omega) hi), if_neg (show ¬ (1 : Int32) = 0 by decide), pu_rd (by omega) (by decide), Option.bind_some, hrk i hi]
  · refine ⟨-1, g', s_x_fit_unread, s_x_fit_below, s_x_fit_heaps_least, s_x_fit_pieces_least, s_x_fit_rows, s_x_fit_surplus, s_x_testAbove, s_x_testBelow, z0, z1, z2, nw, lh2, lp2, pl2, mt2, rt2, fo2, wk2, fa2, fb2, rk2, ?_, ?_, hI⟩
    · unfold fX4_rank
      rw [s1, Option.bind_some]
      dsimp only
      rcases h1 with h1 | ⟨h1, h3⟩
      · rw [if_pos h1]
      · rw [if_neg h1, pu_bcF s2 hF, Option.bind_some, hbc, if_neg (fun q => by
          rw [Int32.lt_iff_toInt_lt] at q
          rw [Int32.le_iff_toInt_le] at h3
          omega)]
    · unfold fX5_rank
      rw [e1', Option.bind_some]
      dsimp only
      rw [pu_isIn, Option.bind_some, if_neg h2, if_pos rfl]
