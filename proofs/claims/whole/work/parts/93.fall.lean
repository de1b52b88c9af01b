/-! ===== fall ===== -/
theorem plc_less {h1 h2 : Nat → Bool} : ∀ K, (∀ k, k < K → h2 k = true → h1 k = true) → plc h2 K ≤ plc h1 K
  | 0, _ => Nat.le_refl 0
  | K + 1, h => by
    have ih := plc_less K (fun k hk => h k (by omega))
    have hK := h K (by omega)
    show plc h2 K + (if h2 K = true then 1 else 0) ≤ plc h1 K + (if h1 K = true then 1 else 0)
    by_cases b : h2 K = true
    · rw [if_pos b, if_pos (hK b)]
      omega
    · rw [if_neg b]
      split <;> omega
theorem plc_fewer {h1 h2 : Nat → Bool} {t : Nat} (ht1 : h1 t = true) (ht2 : ¬ h2 t = true) : ∀ K, t < K → (∀ k, k < K → h2 k = true → h1 k = true) → plc h2 K < plc h1 K
  | 0, ht, _ => absurd ht (Nat.not_lt_zero t)
  | K + 1, ht, h => by
    have hK := h K (by omega)
    by_cases e : t = K
    · subst e
      rw [plc_succ ht1, plc_skip ht2]
      have := plc_less (h1 := h1) (h2 := h2) t (fun k hk => h k (by omega))
      omega
    · have ih := plc_fewer ht1 ht2 K (by omega) (fun k hk => h k (by omega))
      show plc h2 K + (if h2 K = true then 1 else 0) < plc h1 K + (if h1 K = true then 1 else 0)
      by_cases b : h2 K = true
      · rw [if_pos b, if_pos (hK b)]
        omega
      · rw [if_neg b]
        split <;> omega
section
variable {S S2 F K f : Nat} {a c : Nat → Nat} {mv rv : Nat → Int}
theorem nF_5 (hK : K ≤ 6) : nF S F K a c ≤ 5 := by
  unfold nF hrF
  by_cases e : K = 0
  · subst e
    exact Nat.zero_le _
  · have := plc_bd1 (hrw_0 (P := S.testBit) (Q := Nat.testBit (2 ^ F - 1)) (a := a) (c := c) (F := F)) (K - 1)
    rw [show K - 1 + 1 = K by omega] at this
    omega
theorem nF_4 (hK : K ≤ 6) (hac : ∀ f, f < F → a f < K ∧ c f < K) (hf : f < F) (hsub : ∀ f, f < F → S.testBit f = true → S2.testBit f = true) (hb2 : S2.testBit f = true) (hne : gat S.testBit a c F (a f) ≠ gat S.testBit a c F (c f)) : nF S2 F K a c ≤ 4 := by
  have h5 := nF_5 (S := S) (F := F) (a := a) (c := c) hK
  have hLL : ∀ y, gat S2.testBit a c F (gat S.testBit a c F y) = gat S2.testBit a c F y := fun y => gat_sub (Nat.le_refl F) hsub (gat_idem S.testBit a c F y)
  have hQ : ∀ y, gat (Nat.testBit (2 ^ F - 1)) a c F (gat S.testBit a c F y) = gat (Nat.testBit (2 ^ F - 1)) a c F y := fun y => gat_sub (Nat.le_refl F) (fun g hg _ => allSet_bit hg) (gat_idem S.testBit a c F y)
  have hcon := gat_conn S2.testBit a c F f hf hb2
  have hconQ := gat_conn (Nat.testBit (2 ^ F - 1)) a c F f hf (allSet_bit hf)
  obtain ⟨k1, k2⟩ := hac f hf
  have l1 := gat_le S.testBit a c F (a f)
  have l2 := gat_le S.testBit a c F (c f)
  have hmono : ∀ k, k < K → hrF S2 F a c k = true → hrF S F a c k = true := fun k hk h => by
    unfold hrF hrw at h ⊢
    rw [Bool.and_eq_true] at h ⊢
    refine ⟨?_, h.2⟩
    have e : gat S2.testBit a c F k = k := by simpa using h.1
    have g1 := gat_le S.testBit a c F k
    have g2 := gat_le S2.testBit a c F (gat S.testBit a c F k)
    rw [hLL, e] at g2
    simp
    omega
  have key : ∀ x y, gat S.testBit a c F x < gat S.testBit a c F y → gat S.testBit a c F y < K → gat S2.testBit a c F x = gat S2.testBit a c F y → gat (Nat.testBit (2 ^ F - 1)) a c F x = gat (Nat.testBit (2 ^ F - 1)) a c F y → nF S2 F K a c < nF S F K a c := fun x y hlt hK' e1 e2 => by
    refine plc_fewer (t := gat S.testBit a c F y) ?_ ?_ K hK' hmono
    · unfold hrF hrw
      have g := gat_le (Nat.testBit (2 ^ F - 1)) a c F (gat S.testBit a c F x)
      rw [hQ, e2, ← hQ y] at g
      rw [gat_idem]
      simp
      omega
    · unfold hrF hrw
      have g := gat_le S2.testBit a c F (gat S.testBit a c F x)
      rw [hLL, e1, ← hLL y] at g
      have : ¬ gat S2.testBit a c F (gat S.testBit a c F y) = gat S.testBit a c F y := by omega
      simp [this]
  by_cases hlt : gat S.testBit a c F (a f) < gat S.testBit a c F (c f)
  · have := key (a f) (c f) hlt (by omega) hcon hconQ
    omega
  · have := key (c f) (a f) (by omega) (by omega) hcon.symm hconQ.symm
    omega
theorem gF_nonneg (hmv : ∀ f, f < F → 1 ≤ mv f) {hr : Nat → Bool} {L : Nat → Nat} (i : Nat) : 0 ≤ gF hr L a c F mv i := sm_nonneg F (fun f hf => Int.mul_nonneg (by have := hmv f hf; omega) (by omega))
theorem bl_small (hF : F ≤ 10) (hK : K ≤ 6) (hmv : ∀ f, f < F → 1 ≤ mv f ∧ mv f ≤ 4) : blF S F K a c mv rv ≤ 1048576 := by
  have hpos := aF_pos (P := S.testBit) (Q := Nat.testBit (2 ^ F - 1)) (a := a) (c := c) (F := F) (K := K) (mv := mv) (rv := rv) hK (fun f hf => allSet_bit hf) (fun f hf => (hmv f hf).1)
  have h1 := D_hada (hr := hrF S F a c) (L := gat S.testBit a c F) (a := a) (c := c) (rv := rv) (n := nF S F K a c) (nF_5 hK) (fun f hf => (hmv f hf).1) hpos _ (Nat.le_refl _)
  have h2 : sm 5 (fun i => gF (hrF S F a c) (gat S.testBit a c F) a c F mv i) ≤ 80 := by
    unfold gF
    rw [sm_comm]
    have h2 : sm F (fun f => sm 5 (fun i => mv f * ((wF (hrF S F a c) (gat S.testBit a c F) a c f i).natAbs : Int))) ≤ sm F (fun _ => 8) := sm_le F (fun f hf => by
      rw [sm_mul]
      obtain ⟨h3, h4⟩ := hmv f hf
      have h5 := Int.mul_le_mul_of_nonneg_left (wF_sum (hr := hrF S F a c) (L := gat S.testBit a c F) (a := a) (c := c) f 5) (show 0 ≤ mv f by omega)
      omega)
    rw [sm_const] at h2
    omega
  have e : sm 5 (fun i => gF (hrF S F a c) (gat S.testBit a c F) a c F mv i) = 0 + gF (hrF S F a c) (gat S.testBit a c F) a c F mv 0 + gF (hrF S F a c) (gat S.testBit a c F) a c F mv 1 + gF (hrF S F a c) (gat S.testBit a c F) a c F mv 2 + gF (hrF S F a c) (gat S.testBit a c F) a c F mv 3 + gF (hrF S F a c) (gat S.testBit a c F) a c F mv 4 := rfl
  have t := fun i => gF_nonneg (a := a) (c := c) (fun f hf => (hmv f hf).1) (hr := hrF S F a c) (L := gat S.testBit a c F) i
  have t0 := t 0
  have t1 := t 1
  have t2 := t 2
  have t3 := t 3
  have t4 := t 4
  have h3 := hada5 (B := fun i => (gF (hrF S F a c) (gat S.testBit a c F) a c F mv i).toNat) (n := nF S F K a c) (nF_5 hK) (by omega)
  unfold blF AF
  omega
theorem bl_less (hF : F ≤ 10) (hK : K ≤ 6) (hmv : ∀ f, f < F → 1 ≤ mv f ∧ mv f ≤ 4) (hac : ∀ f, f < F → a f < K ∧ c f < K) (hf : f < F) (hsub : ∀ f, f < F → S.testBit f = true → S2.testBit f = true) (hb2 : S2.testBit f = true) (hne : gat S.testBit a c F (a f) ≠ gat S.testBit a c F (c f)) : blF S2 F K a c mv rv ≤ 104976 := by
  have h4 := nF_4 (S := S) hK hac hf hsub hb2 hne
  have hpos := aF_pos (P := S2.testBit) (Q := Nat.testBit (2 ^ F - 1)) (a := a) (c := c) (F := F) (K := K) (mv := mv) (rv := rv) hK (fun f hf => allSet_bit hf) (fun f hf => (hmv f hf).1)
  have h1 := D_hada (hr := hrF S2 F a c) (L := gat S2.testBit a c F) (a := a) (c := c) (rv := rv) (n := nF S2 F K a c) (nF_5 hK) (fun f hf => (hmv f hf).1) hpos _ (Nat.le_refl _)
  have h2 : sm 5 (fun i => gF (hrF S2 F a c) (gat S2.testBit a c F) a c F mv i) ≤ 72 := by
    unfold gF
    rw [sm_comm]
    have h2 : sm F (fun e => sm 5 (fun i => mv e * ((wF (hrF S2 F a c) (gat S2.testBit a c F) a c e i).natAbs : Int))) ≤ sm F (fun e => 1 * 8 + (-8) * ((if true = true ∧ e = f then 1 else 0) * 1)) := sm_le F (fun e he => by
      rw [sm_mul]
      obtain ⟨h3, h4⟩ := hmv e he
      by_cases z : e = f
      · have hz : sm 5 (fun i => ((wF (hrF S2 F a c) (gat S2.testBit a c F) a c e i).natAbs : Int)) = 0 := sm_zero 5 (fun i _ => by
          rw [wF_same (by rw [z]; exact gat_conn S2.testBit a c F f hf hb2)]
          rfl)
        rw [hz, if_pos ⟨rfl, z⟩]
        omega
      · have h5 := Int.mul_le_mul_of_nonneg_left (wF_sum (hr := hrF S2 F a c) (L := gat S2.testBit a c F) (a := a) (c := c) e 5) (show 0 ≤ mv e by omega)
        rw [if_neg (fun q => z q.2)]
        omega)
    rw [sm_lin, sm_const, sm_ind, if_pos ⟨rfl, hf⟩] at h2
    omega
  have e : sm 5 (fun i => gF (hrF S2 F a c) (gat S2.testBit a c F) a c F mv i) = 0 + gF (hrF S2 F a c) (gat S2.testBit a c F) a c F mv 0 + gF (hrF S2 F a c) (gat S2.testBit a c F) a c F mv 1 + gF (hrF S2 F a c) (gat S2.testBit a c F) a c F mv 2 + gF (hrF S2 F a c) (gat S2.testBit a c F) a c F mv 3 + gF (hrF S2 F a c) (gat S2.testBit a c F) a c F mv 4 := rfl
  have t := fun i => gF_nonneg (a := a) (c := c) (fun f hf => (hmv f hf).1) (hr := hrF S2 F a c) (L := gat S2.testBit a c F) i
  have t0 := t 0
  have t1 := t 1
  have t2 := t 2
  have t3 := t 3
  have t4 := t 4
  have h3 := hada4 (B := fun i => (gF (hrF S2 F a c) (gat S2.testBit a c F) a c F mv i).toNat) (n := nF S2 F K a c) h4 (by omega)
  unfold blF AF
  omega
end
/-- test, and what is below it -/
def tT (S F K : Nat) (a c : Nat → Nat) (mv rv : Nat → Int) : Int := tsF (gat S.testBit a c F) a c F rv (fcF S F K a c mv rv)
/-- the fall's numbers, not in lowest terms -/
def faX (S S2 F K : Nat) (a c : Nat → Nat) (mv rv : Nat → Int) : Int := tT S F K a c mv rv * blF S2 F K a c mv rv - tT S2 F K a c mv rv * blF S F K a c mv rv
def faY (S S2 F K : Nat) (a c : Nat → Nat) (mv rv : Nat → Int) : Int := blF S F K a c mv rv * blF S2 F K a c mv rv
theorem fa_range {S S2 F K f : Nat} {a c : Nat → Nat} {mv rv : Nat → Int} (hF : F ≤ 10) (hK : K ≤ 6) (hmv : ∀ f, f < F → 1 ≤ mv f ∧ mv f ≤ 4) (hrv : ∀ f, f < F → -2000 ≤ rv f ∧ rv f ≤ 2000) (hac : ∀ f, f < F → a f < K ∧ c f < K) (hf : f < F) (hsub : ∀ f, f < F → S.testBit f = true → S2.testBit f = true) (hb2 : S2.testBit f = true) (hne : gat S.testBit a c F (a f) ≠ gat S.testBit a c F (c f)) : 0 ≤ faX S S2 F K a c mv rv ∧ faX S S2 F K a c mv rv < 2 ^ 63 ∧ 1 ≤ faY S S2 F K a c mv rv ∧ faY S S2 F K a c mv rv < 2 ^ 63 ∧ 0 ≤ tT S2 F K a c mv rv ∧ tT S2 F K a c mv rv ≤ 4199040000000 ∧ 1 ≤ blF S2 F K a c mv rv ∧ blF S2 F K a c mv rv ≤ 104976 := by
  have h0 := ts_fall (S := S) (S2 := S2) hF hK hmv hrv hac hsub
  obtain ⟨a1, a2⟩ := ts_range (S := S) hF hK hmv hrv hac
  obtain ⟨c1, c2⟩ := ts_range (S := S2) hF hK hmv hrv hac
  have d1 := (blF_pos (S := S) (a := a) (c := c) hK hF hmv hrv).1
  have d2 := (blF_pos (S := S2) (a := a) (c := c) hK hF hmv hrv).1
  have s1 := bl_small (S := S) (a := a) (c := c) (rv := rv) hF hK hmv
  have s2 := bl_less (rv := rv) hF hK hmv hac hf hsub hb2 hne
  unfold faX faY tT
  generalize tsF (gat S2.testBit a c F) a c F rv (fcF S2 F K a c mv rv) = T2 at *
  generalize tsF (gat S.testBit a c F) a c F rv (fcF S F K a c mv rv) = T1 at *
  generalize blF S F K a c mv rv = x at *
  generalize blF S2 F K a c mv rv = y at *
  have m1 := mul_bound (x := T1) (y := y) (p := 41943040000000) (q := 104976) (by decide) (by omega) (by omega) (by omega) s2
  have m2 := Int.mul_nonneg c1 (show 0 ≤ x by omega)
  have m3 := mul_bound (x := x) (y := y) (p := 1048576) (q := 104976) (by decide) (by omega) s1 (by omega) s2
  have m4 := Int.mul_nonneg (show 0 ≤ x - 1 by omega) (show 0 ≤ y - 1 by omega)
  have e4 : (x - 1) * (y - 1) = x * y - x - y + 1 := by grind
  refine ⟨h0, by omega, by omega, by omega, c1, by omega, d2, s2⟩
theorem gA_scale {g x y : Int} (hg : 1 ≤ g) : gA (g * x) (g * y) = g * gA x y := by
  unfold gA
  rw [Int.natAbs_mul, Int.natAbs_mul, Nat.gcd_mul_left, Int.natCast_mul, show ((g.natAbs : Nat) : Int) = g by omega]
theorem lt2_scale {g x y : Int} {w : Int32} (hg : 1 ≤ g) : lt2 (g * x) (g * y) w = lt2 x y w := by
  unfold lt2
  rw [gA_scale hg, Int.mul_ediv_mul_of_pos x _ (by omega), Int.mul_ediv_mul_of_pos y _ (by omega)]
/-- what the reference keeps of a fall -/
theorem pu_fallOf {N F R K f : Nat} {b0 z1 z2 : Int64} {fr tt rd ms pr b lh lp pl : Nat → Int32} {mat right fo w : Nat → Int64} {a c : Nat → Nat} (hN : 5000 ≤ N) (hF : F ≤ 10) (hK : K ≤ 6) (hb0 : b 0 = nI K) (hM : Mb F R fr tt b) (hX : Mx F rd ms pr b) (hE : Ends F fr tt a c) (hac : ∀ f, f < F → a f < K ∧ c f < K) (hmv : ∀ f, f < F → 1 ≤ (ms f).toInt ∧ (ms f).toInt ≤ 4) (hrv : ∀ f, f < F → -2000 ≤ (rd f).toInt ∧ (rd f).toInt ≤ 2000) (hf : f < F) (hsp : isSp R (gat (unr F R).testBit a c F) a c f = true) : ∃ (v1 : Int64) (lh' lp' pl' : Nat → Int32) (mat' right' fo' w' : Nat → Int64), fX5_fallOf N b0 z1 z2 b lh lp pl mat right fo w (nI f) = some (v1, lt2 (faX (unr F R) (unr F (clr R f)) F K a c (fun f => (ms f).toInt) (fun f => (rd f).toInt)) (faY (unr F R) (unr F (clr R f)) F K a c (fun f => (ms f).toInt) (fun f => (rd f).toInt)) 0, lt2 (faX (unr F R) (unr F (clr R f)) F K a c (fun f => (ms f).toInt) (fun f => (rd f).toInt)) (faY (unr F R) (unr F (clr R f)) F K a c (fun f => (ms f).toInt) (fun f => (rd f).toInt)) 1, b, lh', lp', pl', mat', right', fo', w') := by
  unfold isSp at hsp
  rw [Bool.and_eq_true] at hsp
  have hbit : R.testBit f = true := hsp.1
  have hne : gat (unr F R).testBit a c F (a f) ≠ gat (unr F R).testBit a c F (c f) := by simpa using hsp.2
  have hsub : ∀ g, g < F → (unr F R).testBit g = true → (unr F (clr R f)).testBit g = true := fun g hg h => by
    rw [unr_P hF hg] at h ⊢
    rw [clr_bit (by omega)]
    simp at h
    simp [h]
  have hb2 : (unr F (clr R f)).testBit f = true := by
    rw [unr_P hF hf, clr_bit (by omega)]
    simp
  obtain ⟨r1, r2, r3, r4, r5, r6, r7, r8⟩ := fa_range (rv := (fun f => (rd f).toInt)) hF hK hmv hrv hac hf hsub hb2 hne
  obtain ⟨nw2, n1, n2, n3, n4, n5⟩ := pu_without hF hb0 hM hX hf hbit
  obtain ⟨mh, mp, ml, mm, mr, mf, mw, e1, q1, q2⟩ := pu_solves (b0 := b0) (lh := lh) (lp := lp) (pl := pl) (mat := mat) (right := right) (fo := fo) (w := w) hN hF hK hb0 hM hX hE hac
  obtain ⟨mh2, mp2, ml2, mm2, mr2, mf2, mw2, e2, q3, q4⟩ := pu_solves (b0 := oL (blF (unr F R) F K a c (fun f => (ms f).toInt) (fun f => (rd f).toInt))) (lh := mh) (lp := mp) (pl := ml) (mat := mm) (right := mr) (fo := mf) (w := mw) hN hF hK n5 n3 n4 hE hac
  have t1 := pu_testM hN hF hK hM hX hE hac q1 (gat_le _ _ _ _) (fun g hg hz => gat_conn _ _ _ F g hg (by rw [unr_P hF hg, hz]; rfl)) q2
  have t2 := pu_testM hN hF hK n3 n4 hE hac q3 (gat_le _ _ _ _) (fun g hg hz => gat_conn _ _ _ F g hg (by rw [unr_P hF hg, hz]; rfl)) q4
  obtain ⟨b1, b2⟩ := blF_pos (S := unr F R) (a := a) (c := c) hK hF hmv hrv
  obtain ⟨b3, b4⟩ := blF_pos (S := unr F (clr R f)) (a := a) (c := c) hK hF hmv hrv
  have hT1 := tsF_bound (rv := (fun f => (rd f).toInt)) (fc := fcF (unr F R) F K a c (fun f => (ms f).toInt) (fun f => (rd f).toInt)) hF (gat_le (unr F R).testBit a c F) hac hrv (fun k hk => fcF_bound hK hF hmv hrv hk)
  have hT2 := tsF_bound (rv := (fun f => (rd f).toInt)) (fc := fcF (unr F (clr R f)) F K a c (fun f => (ms f).toInt) (fun f => (rd f).toInt)) hF (gat_le (unr F (clr R f)).testBit a c F) hac hrv (fun k hk => fcF_bound hK hF hmv hrv hk)
  have o1 := (pu_terms hN (x := tT (unr F R) F K a c (fun f => (ms f).toInt) (fun f => (rd f).toInt)) (y := blF (unr F R) F K a c (fun f => (ms f).toInt) (fun f => (rd f).toInt)) (w := 0) (by unfold tT; omega) (by unfold tT; omega) b1 (by omega) (Or.inl rfl)).2
  have o2 := (pu_terms hN (x := tT (unr F R) F K a c (fun f => (ms f).toInt) (fun f => (rd f).toInt)) (y := blF (unr F R) F K a c (fun f => (ms f).toInt) (fun f => (rd f).toInt)) (w := 1) (by unfold tT; omega) (by unfold tT; omega) b1 (by omega) (Or.inr rfl)).2
  have o3 := (pu_terms hN (x := tT (unr F (clr R f)) F K a c (fun f => (ms f).toInt) (fun f => (rd f).toInt)) (y := blF (unr F (clr R f)) F K a c (fun f => (ms f).toInt) (fun f => (rd f).toInt)) (w := 0) (by unfold tT; omega) (by unfold tT; omega) b3 (by omega) (Or.inl rfl)).2
  have o4 := (pu_terms hN (x := tT (unr F (clr R f)) F K a c (fun f => (ms f).toInt) (fun f => (rd f).toInt)) (y := blF (unr F (clr R f)) F K a c (fun f => (ms f).toInt) (fun f => (rd f).toInt)) (w := 1) (by unfold tT; omega) (by unfold tT; omega) b3 (by omega) (Or.inr rfl)).2
  have g1 := gA_pos (x := tT (unr F R) F K a c (fun f => (ms f).toInt) (fun f => (rd f).toInt)) b1
  have g2 := gA_pos (x := tT (unr F (clr R f)) F K a c (fun f => (ms f).toInt) (fun f => (rd f).toInt)) b3
  have x1 := gA_l (tT (unr F R) F K a c (fun f => (ms f).toInt) (fun f => (rd f).toInt)) (blF (unr F R) F K a c (fun f => (ms f).toInt) (fun f => (rd f).toInt))
  have x2 := gA_r (tT (unr F R) F K a c (fun f => (ms f).toInt) (fun f => (rd f).toInt)) (blF (unr F R) F K a c (fun f => (ms f).toInt) (fun f => (rd f).toInt))
  have x3 := gA_l (tT (unr F (clr R f)) F K a c (fun f => (ms f).toInt) (fun f => (rd f).toInt)) (blF (unr F (clr R f)) F K a c (fun f => (ms f).toInt) (fun f => (rd f).toInt))
  have x4 := gA_r (tT (unr F (clr R f)) F K a c (fun f => (ms f).toInt) (fun f => (rd f).toInt)) (blF (unr F (clr R f)) F K a c (fun f => (ms f).toInt) (fun f => (rd f).toInt))
  unfold lt2 at o1 o2 o3 o4
  rw [if_pos rfl] at o1 o3
  rw [if_neg (show ¬ (1 : Int32) = 0 by decide)] at o2 o4
  unfold faX at r1 r2
  unfold faY at r3 r4
  unfold faX faY
  unfold tT at r1 r2 r5 r6 o1 o2 o3 o4 g1 g2 x1 x2 x3 x4 ⊢
  generalize hg1 : gA (tsF (gat (unr F R).testBit a c F) a c F (fun f => (rd f).toInt) (fcF (unr F R) F K a c (fun f => (ms f).toInt) (fun f => (rd f).toInt))) (blF (unr F R) F K a c (fun f => (ms f).toInt) (fun f => (rd f).toInt)) = G1 at *
  generalize hg2 : gA (tsF (gat (unr F (clr R f)).testBit a c F) a c F (fun f => (rd f).toInt) (fcF (unr F (clr R f)) F K a c (fun f => (ms f).toInt) (fun f => (rd f).toInt))) (blF (unr F (clr R f)) F K a c (fun f => (ms f).toInt) (fun f => (rd f).toInt)) = G2 at *
  generalize tsF (gat (unr F R).testBit a c F) a c F (fun f => (rd f).toInt) (fcF (unr F R) F K a c (fun f => (ms f).toInt) (fun f => (rd f).toInt)) = T1 at *
  generalize tsF (gat (unr F (clr R f)).testBit a c F) a c F (fun f => (rd f).toInt) (fcF (unr F (clr R f)) F K a c (fun f => (ms f).toInt) (fun f => (rd f).toInt)) = T2 at *
  generalize blF (unr F R) F K a c (fun f => (ms f).toInt) (fun f => (rd f).toInt) = D1 at *
  generalize blF (unr F (clr R f)) F K a c (fun f => (ms f).toInt) (fun f => (rd f).toInt) = D2 at *
  have hG : 1 ≤ G1 * G2 := by
    have m4 := Int.mul_nonneg (show 0 ≤ G1 - 1 by omega) (show 0 ≤ G2 - 1 by omega)
    have e4 : (G1 - 1) * (G2 - 1) = G1 * G2 - G1 - G2 + 1 := by grind
    omega
  have eX : T1 * D2 - T2 * D1 = (G1 * G2) * (T1 / G1 * (D2 / G2) - D1 / G1 * (T2 / G2)) := by
    have e : (G1 * G2) * (T1 / G1 * (D2 / G2) - D1 / G1 * (T2 / G2)) = (G1 * (T1 / G1)) * (G2 * (D2 / G2)) - (G2 * (T2 / G2)) * (G1 * (D1 / G1)) := by grind
    rw [e, x1, x2, x3, x4]
  have eY : D1 * D2 = (G1 * G2) * (D1 / G1 * (D2 / G2)) := by
    have e : (G1 * G2) * (D1 / G1 * (D2 / G2)) = (G1 * (D1 / G1)) * (G2 * (D2 / G2)) := by grind
    rw [e, x2, x4]
  rw [eX] at r1 r2 ⊢
  rw [eY] at r3 r4 ⊢
  rw [lt2_scale hG, lt2_scale hG]
  have y1 := abs_le_mul hG (show -2 ^ 63 < (G1 * G2) * (T1 / G1 * (D2 / G2) - D1 / G1 * (T2 / G2)) by omega) r2
  have y2 := abs_le_mul hG (show -2 ^ 63 < (G1 * G2) * (D1 / G1 * (D2 / G2)) by omega) r4
  have y3 : 1 ≤ D1 / G1 * (D2 / G2) := by
    have := nonneg_of_mul hG (show 0 ≤ (G1 * G2) * (D1 / G1 * (D2 / G2)) by omega)
    refine Classical.byContradiction fun hn => ?_
    have e0 : D1 / G1 * (D2 / G2) = 0 := by omega
    rw [e0, Int.mul_zero] at r3
    omega
  have o5 := (pu_terms hN (x := T1 / G1 * (D2 / G2) - D1 / G1 * (T2 / G2)) (y := D1 / G1 * (D2 / G2)) (w := 0) y1.1 y1.2 y3 y2.2 (Or.inl rfl)).2
  have o6 := (pu_terms hN (x := T1 / G1 * (D2 / G2) - D1 / G1 * (T2 / G2)) (y := D1 / G1 * (D2 / G2)) (w := 1) y1.1 y1.2 y3 y2.2 (Or.inr rfl)).2
  refine ⟨oL D2, mh2, mp2, ml2, mm2, mr2, mf2, mw2, ?_⟩
  unfold fX5_fallOf
  rw [e1, Option.bind_some]
  dsimp only
  rw [t1, Option.bind_some, o1, Option.bind_some, Option.bind_some, o2, Option.bind_some, n1, Option.bind_some, e2, Option.bind_some]
  dsimp only
  rw [t2, Option.bind_some, o3, Option.bind_some, Option.bind_some, o4, Option.bind_some, n2, Option.bind_some, oL_mul, oL_mul, oL_sub, oL_mul, o5, Option.bind_some, o6, Option.bind_some]

set_option maxHeartbeats 4000000 in
theorem ps_fall {N : Nat} (hN : 5000 ≤ N) : ob_fall N yInv := by
  intro kn fl rs fr tt rd ms pr kd ln sh nx ct kK fK rK frK ttK rdK msK prK kdK lnK shK s_x_groups_least s_x_fit_unread s_x_fit_below s_x_fit_heaps_least s_x_fit_pieces_least s_x_fit_sides_least s_x_fit_rows s_x_fit_surplus s_x_away s_x_testAbove s_x_testBelow mn s_m_below s_m_above1 s_m_below1 nw bf s_m_heapOf s_m_partOf s_m_place s_m_matrix s_m_right s_m_force s_m_work s_m_side s_m_far s_m_fallAbove s_m_fallBelow s_m_ranks s_m_was hI x1 x2
  obtain ⟨⟨K, F, R, hW⟩, hP⟩ := id hI
  have hK := hW.2.1
  have hF := hW.2.2.1
  have hR := hW.2.2.2.1
  have hkn : kn = nI K := hW.2.2.2.2.1
  have hfl : fl = nI F := hW.2.2.2.2.2.1
  have hrs : rs = nI R := hW.2.2.2.2.2.2.1
  have hb0 := hW.2.2.2.2.2.2.2.1
  have hb := hW.2.2.2.2.2.2.2.2.1
  subst hkn
  subst hfl
  subst hrs
  rcases pu_flow hF hb x1 with ⟨f, hf, rfl, c1, c2⟩ | ⟨c1, c2⟩
  · rcases pu_what x2 with ⟨w1, w2, w3⟩ | ⟨w1, w2⟩
    · obtain ⟨S', g', s1, s2, s3, -⟩ := pu_spareSet (l := s_x_groups_least) hN hF (pu_1024 hR hF) hW.ends
      obtain ⟨m1, s4, -⟩ := pu_isSpare (l := s_m_heapOf) hN hF hW.mb hW.ends hf
      by_cases hs : isSp R (gat (unr F R).testBit (eA fr) (eA tt) F) (eA fr) (eA tt) f = true
      · obtain ⟨v1, fh, fp, fl', fm, frr, ff, fw, e3⟩ := pu_fallOf (b0 := s_m_below) (z1 := s_m_above1) (z2 := s_m_below1) (lh := m1) (lp := s_m_partOf) (pl := s_m_place) (mat := s_m_matrix) (right := s_m_right) (fo := s_m_force) (w := s_m_work) hN hF hK hb0 hW.mb hW.mx hW.ends hW.endK hW.mvr hW.rvr hf hs
        have hs' := hs
        unfold isSp at hs'
        rw [Bool.and_eq_true] at hs'
        have hbit : R.testBit f = true := hs'.1
        have hne : gat (unr F R).testBit (eA fr) (eA tt) F (eA fr f) ≠ gat (unr F R).testBit (eA fr) (eA tt) F (eA tt f) := by simpa using hs'.2
        have hsub : ∀ g, g < F → (unr F R).testBit g = true → (unr F (clr R f)).testBit g = true := fun g hg h => by
          rw [unr_P hF hg] at h ⊢
          rw [clr_bit (by omega)]
          simp at h
          simp [h]
        have hb2 : (unr F (clr R f)).testBit f = true := by
          rw [unr_P hF hf, clr_bit (by omega)]
          simp
        obtain ⟨r1, r2, r3, r4, -, -, -, -⟩ := fa_range (rv := (fun f => (rd f).toInt)) hF hK hW.mvr hW.rvr hW.endK hf hsub hb2 hne
        obtain ⟨lh, lp, rw', su, e1, p1, p2, p3⟩ := pu_solve (un := s_x_fit_unread) (b0 := s_x_fit_below) (lh := s_x_fit_heaps_least) (lp := s_x_fit_pieces_least) (rows := s_x_fit_rows) (sur := s_x_fit_surplus) hN hF (unr_1024 (R := R) hF) hK hW.ends hW.endK hW.mvr hW.rvr
        obtain ⟨lh2, lp2, rw2, su2, e2, p4, p5, p6⟩ := pu_solve (un := nI (unr F R)) (b0 := oL (blF (unr F R) F K (eA fr) (eA tt) (fun f => (ms f).toInt) (fun f => (rd f).toInt))) (lh := lh) (lp := lp) (rows := rw') (sur := su) hN hF (unr_1024 (R := clr R f) hF) hK hW.ends hW.endK hW.mvr hW.rvr
        obtain ⟨t1, -⟩ := pu_terms hN (x := (faX (unr F R) (unr F (clr R f)) F K (eA fr) (eA tt) (fun f => (ms f).toInt) (fun f => (rd f).toInt))) (y := (faY (unr F R) (unr F (clr R f)) F K (eA fr) (eA tt) (fun f => (ms f).toInt) (fun f => (rd f).toInt))) (w := x2) (by omega) r2 r3 r4 w3
        have hM : fX5_fall N s_m_below s_m_above1 s_m_below1 nw s_m_heapOf s_m_partOf s_m_place s_m_matrix s_m_right s_m_force s_m_work (nI f) x2 = some (lt2 (faX (unr F R) (unr F (clr R f)) F K (eA fr) (eA tt) (fun f => (ms f).toInt) (fun f => (rd f).toInt)) (faY (unr F R) (unr F (clr R f)) F K (eA fr) (eA tt) (fun f => (ms f).toInt) (fun f => (rd f).toInt)) x2, v1, lt2 (faX (unr F R) (unr F (clr R f)) F K (eA fr) (eA tt) (fun f => (ms f).toInt) (fun f => (rd f).toInt)) (faY (unr F R) (unr F (clr R f)) F K (eA fr) (eA tt) (fun f => (ms f).toInt) (fun f => (rd f).toInt)) 0, lt2 (faX (unr F R) (unr F (clr R f)) F K (eA fr) (eA tt) (fun f => (ms f).toInt) (fun f => (rd f).toInt)) (faY (unr F R) (unr F (clr R f)) F K (eA fr) (eA tt) (fun f => (ms f).toInt) (fun f => (rd f).toInt)) 1, nw, fh, fp, fl', fm, frr, ff, fw) := by
          unfold fX5_fall
          rw [c2, Option.bind_some, if_neg (show ¬ (1 : Int32) = 0 by decide), w2, Option.bind_some, if_neg (show ¬ (1 : Int32) = 0 by decide), s4, Option.bind_some]
          dsimp only
          rw [if_pos hs, if_neg (show ¬ (1 : Int32) = 0 by decide), e3, Option.bind_some]
          dsimp only
          rcases w3 with w3 | w3
          · rw [if_pos w3, w3]
          · rw [if_neg (by rw [w3]; decide), w3]
        refine ⟨lt2 (faX (unr F R) (unr F (clr R f)) F K (eA fr) (eA tt) (fun f => (ms f).toInt) (fun f => (rd f).toInt)) (faY (unr F R) (unr F (clr R f)) F K (eA fr) (eA tt) (fun f => (ms f).toInt) (fun f => (rd f).toInt)) x2, g', nI (unr F (clr R f)), oL (blF (unr F (clr R f)) F K (eA fr) (eA tt) (fun f => (ms f).toInt) (fun f => (rd f).toInt)), lh2, lp2, rw2, su2, v1, lt2 (faX (unr F R) (unr F (clr R f)) F K (eA fr) (eA tt) (fun f => (ms f).toInt) (fun f => (rd f).toInt)) (faY (unr F R) (unr F (clr R f)) F K (eA fr) (eA tt) (fun f => (ms f).toInt) (fun f => (rd f).toInt)) 0, lt2 (faX (unr F R) (unr F (clr R f)) F K (eA fr) (eA tt) (fun f => (ms f).toInt) (fun f => (rd f).toInt)) (faY (unr F R) (unr F (clr R f)) F K (eA fr) (eA tt) (fun f => (ms f).toInt) (fun f => (rd f).toInt)) 1, nw, fh, fp, fl', fm, frr, ff, fw, ?_, hM, hI⟩
        unfold fX4_fall
        rw [c1, Option.bind_some, if_neg (show ¬ (1 : Int32) = 0 by decide), w1, Option.bind_some, if_neg (show ¬ (1 : Int32) = 0 by decide), s1, Option.bind_some]
        dsimp only
        rw [pu_holds (pu_1024 s2 hF) (by omega), Option.bind_some, s3 f hf, if_pos hs, if_neg (show ¬ (1 : Int32) = 0 by decide), pu_unread hF, Option.bind_some, e1, Option.bind_some]
        dsimp only
        rw [pu_testC hN hK (gat_le _ _ _ _) hW.endK p2 p3, Option.bind_some, Option.bind_some, pu_bit (by omega), Option.bind_some, pu_or, unr_more hF hf, e2, Option.bind_some]
        dsimp only
        rw [pu_testC hN hK (gat_le _ _ _ _) hW.endK p5 p6, Option.bind_some, oL_mul, oL_mul, oL_sub, oL_mul]
        have t1' := t1
        unfold faX faY tT at t1'
        rw [t1', Option.bind_some]
        rfl
      · refine ⟨-1, g', s_x_fit_unread, s_x_fit_below, s_x_fit_heaps_least, s_x_fit_pieces_least, s_x_fit_rows, s_x_fit_surplus, s_m_below, s_m_above1, s_m_below1, nw, m1, s_m_partOf, s_m_place, s_m_matrix, s_m_right, s_m_force, s_m_work, ?_, ?_, hI⟩
        · unfold fX4_fall
          rw [c1, Option.bind_some, if_neg (show ¬ (1 : Int32) = 0 by decide), w1, Option.bind_some, if_neg (show ¬ (1 : Int32) = 0 by decide), s1, Option.bind_some]
          dsimp only
          rw [pu_holds (pu_1024 s2 hF) (by omega), Option.bind_some, s3 f hf, if_neg hs, if_pos rfl]
        · unfold fX5_fall
          rw [c2, Option.bind_some, if_neg (show ¬ (1 : Int32) = 0 by decide), w2, Option.bind_some, if_neg (show ¬ (1 : Int32) = 0 by decide), s4, Option.bind_some]
          dsimp only
          rw [if_neg hs, if_pos rfl]
    · refine ⟨-1, s_x_groups_least, s_x_fit_unread, s_x_fit_below, s_x_fit_heaps_least, s_x_fit_pieces_least, s_x_fit_rows, s_x_fit_surplus, s_m_below, s_m_above1, s_m_below1, nw, s_m_heapOf, s_m_partOf, s_m_place, s_m_matrix, s_m_right, s_m_force, s_m_work, ?_, ?_, hI⟩
      · unfold fX4_fall
        rw [c1, Option.bind_some, if_neg (show ¬ (1 : Int32) = 0 by decide), w1, Option.bind_some, if_pos rfl]
      · unfold fX5_fall
        rw [c2, Option.bind_some, if_neg (show ¬ (1 : Int32) = 0 by decide), w2, Option.bind_some, if_pos rfl]
  · refine ⟨-1, s_x_groups_least, s_x_fit_unread, s_x_fit_below, s_x_fit_heaps_least, s_x_fit_pieces_least, s_x_fit_rows, s_x_fit_surplus, s_m_below, s_m_above1, s_m_below1, nw, s_m_heapOf, s_m_partOf, s_m_place, s_m_matrix, s_m_right, s_m_force, s_m_work, ?_, ?_, hI⟩
    · unfold fX4_fall
      rw [c1, Option.bind_some, if_pos rfl]
    · unfold fX5_fall
      rw [c2, Option.bind_some, if_pos rfl]
