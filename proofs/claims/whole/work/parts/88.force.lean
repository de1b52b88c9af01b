/-! ===== lowest terms ===== -/
theorem oL_nz {y : Nat} (h0 : 0 < y) (h : y < 2 ^ 63) : ¬ oL (y : Int) = 0 := fun q => by
  have := congrArg Int64.toInt q
  rw [oL_toInt (by omega) (by omega), Int64.toInt_zero] at this
  omega
theorem pu_lrm {x y : Nat} (h0 : 0 < y) (hx : x < 2 ^ 63) (hy : y < 2 ^ 63) : ya_lrm (oL (x : Int)) (oL (y : Int)) = some (oL ((x % y : Nat) : Int)) := by
  unfold ya_lrm
  rw [if_neg (oL_nz h0 hy)]
  refine congrArg some (Int64.toInt_inj.mp ?_)
  have hm := Nat.mod_lt x h0
  rw [_root_.Jvm.Kit.i64_rem_nonneg (by rw [oL_toInt (by omega) (by omega)]; omega), oL_toInt (by omega) (by omega), oL_toInt (by omega) (by omega), oL_toInt (by omega) (by omega), Int.natCast_emod]
theorem gcd_half {y r : Nat} (hr : 0 < r) (hry : r < y) : 2 * (y % r) < y := by
  have h1 := Nat.mod_lt y hr
  by_cases h : 2 * r ≤ y
  · omega
  · have : y % r = y - r := by
      rw [Nat.mod_eq_sub_mod (by omega), Nat.mod_eq_of_lt (by omega)]
    omega
theorem cmp00 : lg_cmp (oL ((0 : Nat) : Int)) 0 = 0 := (lg_cmp_eq _ _).mpr rfl
theorem pu_gcdM {N : Nat} : ∀ (k n x y : Nat), x < 2 ^ 63 → y < 2 ^ 63 → y < 2 ^ k → 2 * k + 1 ≤ n → fX5_common_L17 N n (oL (x : Int)) (oL (y : Int)) = some (oL ((Nat.gcd x y : Nat) : Int)) := by
  intro k
  induction k with
  | zero =>
    intro n x y hx hy hk hn
    obtain ⟨n, rfl⟩ : ∃ m, n = m + 1 := ⟨n - 1, by omega⟩
    have : y = 0 := by omega
    subst this
    unfold fX5_common_L17
    rw [if_pos cmp00, Nat.gcd_zero_right]
  | succ k ih =>
    intro n x y hx hy hk hn
    obtain ⟨n, rfl⟩ : ∃ m, n = m + 2 := ⟨n - 2, by omega⟩
    by_cases h0 : y = 0
    · subst h0
      unfold fX5_common_L17
      rw [if_pos cmp00, Nat.gcd_zero_right]
    · have hr := Nat.mod_lt x (show 0 < y by omega)
      unfold fX5_common_L17
      rw [if_neg (fun q => oL_nz (by omega) hy ((lg_cmp_eq _ _).mp q)), pu_lrm (by omega) hx hy, Option.bind_some]
      by_cases h1 : x % y = 0
      · rw [h1]
        unfold fX5_common_L17
        rw [if_pos cmp00, Nat.gcd_comm x y, Nat.gcd_rec, h1, Nat.gcd_zero_left]
      · unfold fX5_common_L17
        have h2 := gcd_half (show 0 < x % y by omega) hr
        have e : Nat.gcd x y = Nat.gcd (x % y) (y % (x % y)) := by
          rw [Nat.gcd_comm x y, Nat.gcd_rec y x, Nat.gcd_rec (x % y) y, Nat.gcd_comm]
        rw [if_neg (fun q => oL_nz (by omega) (by omega) ((lg_cmp_eq _ _).mp q)), pu_lrm (by omega) hy (by omega), Option.bind_some, e]
        have hp : 2 ^ (k + 1) = 2 * 2 ^ k := by rw [Nat.pow_succ, Nat.mul_comm]
        exact ih n (x % y) (y % (x % y)) (by omega) (by omega) (by omega) (by omega)
theorem pu_gcdC {N : Nat} : ∀ (k n s x y : Nat), x < 2 ^ 63 → y < 2 ^ 63 → y < 2 ^ k → s + 2 * k ≤ 128 → 2 * k + 1 ≤ n → fX4_commonDivisor_L9 N n (oL (x : Int)) (oL (y : Int)) (nI s) = some (oL ((Nat.gcd x y : Nat) : Int)) := by
  intro k
  induction k with
  | zero =>
    intro n s x y hx hy hk hs hn
    obtain ⟨n, rfl⟩ : ∃ m, n = m + 1 := ⟨n - 1, by omega⟩
    have : y = 0 := by omega
    subst this
    unfold fX4_commonDivisor_L9
    rw [Nat.gcd_zero_right]
    by_cases q : (128 : Int32) ≤ nI s
    · rw [if_pos q]
    · rw [if_neg q, if_pos cmp00]
  | succ k ih =>
    intro n s x y hx hy hk hs hn
    obtain ⟨n, rfl⟩ : ∃ m, n = m + 2 := ⟨n - 2, by omega⟩
    have hs1 : ¬ (128 : Int32) ≤ nI s := nI_ge (b := 128) (by omega) (by decide)
    have hs2 : ¬ (128 : Int32) ≤ nI (s + 1) := nI_ge (b := 128) (by omega) (by decide)
    by_cases h0 : y = 0
    · subst h0
      unfold fX4_commonDivisor_L9
      rw [if_neg hs1, if_pos cmp00, Nat.gcd_zero_right]
    · have hr := Nat.mod_lt x (show 0 < y by omega)
      unfold fX4_commonDivisor_L9
      rw [if_neg hs1, if_neg (fun q => oL_nz (by omega) hy ((lg_cmp_eq _ _).mp q)), pu_lrm (by omega) hx hy, Option.bind_some, pu_lt, nI_1]
      by_cases h1 : x % y = 0
      · rw [h1]
        unfold fX4_commonDivisor_L9
        rw [if_neg hs2, if_pos cmp00, Nat.gcd_comm x y, Nat.gcd_rec, h1, Nat.gcd_zero_left]
      · unfold fX4_commonDivisor_L9
        have h2 := gcd_half (show 0 < x % y by omega) hr
        have e : Nat.gcd x y = Nat.gcd (x % y) (y % (x % y)) := by
          rw [Nat.gcd_comm x y, Nat.gcd_rec y x, Nat.gcd_rec (x % y) y, Nat.gcd_comm]
        rw [if_neg hs2, if_neg (fun q => oL_nz (by omega) (by omega) ((lg_cmp_eq _ _).mp q)), pu_lrm (by omega) hy (by omega), Option.bind_some, pu_lt, nI_1, e]
        have hp : 2 ^ (k + 1) = 2 * 2 ^ k := by rw [Nat.pow_succ, Nat.mul_comm]
        exact ih n (s + 1 + 1) (x % y) (y % (x % y)) (by omega) (by omega) (by omega) (by omega) (by omega)
/-- the greatest number that goes into both -/
def gA (x y : Int) : Int := ((Nat.gcd x.natAbs y.natAbs : Nat) : Int)
theorem gA_pos {x y : Int} (hy : 1 ≤ y) : 1 ≤ gA x y := by
  have := Nat.gcd_pos_of_pos_right x.natAbs (show 0 < y.natAbs by omega)
  unfold gA
  omega
theorem gA_le {x y : Int} (hy : 1 ≤ y) : gA x y ≤ y := by
  have := Nat.gcd_le_right x.natAbs (show 0 < y.natAbs by omega)
  unfold gA
  omega
theorem gA_l (x y : Int) : gA x y * (x / gA x y) = x := by
  refine Int.mul_ediv_cancel' ?_
  unfold gA
  exact Int.ofNat_dvd_left.mpr (Nat.gcd_dvd_left _ _)
theorem gA_r (x y : Int) : gA x y * (y / gA x y) = y := by
  refine Int.mul_ediv_cancel' ?_
  unfold gA
  exact Int.ofNat_dvd_left.mpr (Nat.gcd_dvd_right _ _)
theorem pu_abs {x : Int} (h1 : -2 ^ 63 < x) (h2 : x < 2 ^ 63) : (if (0 : Int64) < oL x then oL x else - oL x) = oL (x.natAbs : Int) ∧ (0 ≤ lg_cmp (oL x) 0 → oL x = oL (x.natAbs : Int)) ∧ (¬ 0 ≤ lg_cmp (oL x) 0 → - oL x = oL (x.natAbs : Int)) := by
  have e := oL_toInt (x := x) (by omega) h2
  have ep : 0 ≤ x → oL x = oL (x.natAbs : Int) := fun h => congrArg oL (by omega)
  have en : x ≤ 0 → - oL x = oL (x.natAbs : Int) := fun h => by
    rw [oL_neg]
    exact congrArg oL (by omega)
  refine ⟨?_, fun h => ep ?_, fun h => en ?_⟩
  · by_cases z : (0 : Int64) < oL x
    · rw [if_pos z]
      rw [Int64.lt_iff_toInt_lt, e, Int64.toInt_zero] at z
      exact ep (by omega)
    · rw [if_neg z]
      rw [Int64.lt_iff_toInt_lt, e, Int64.toInt_zero] at z
      exact en (by omega)
  · rw [lg_cmp_ge, Int64.le_iff_toInt_le, e, Int64.toInt_zero] at h
    exact h
  · rw [lg_cmp_ge, Int64.le_iff_toInt_le, e, Int64.toInt_zero] at h
    omega
theorem pu_common {N : Nat} (hN : 5000 ≤ N) {x y : Int} (h1 : -2 ^ 63 < x) (h2 : x < 2 ^ 63) (h3 : 1 ≤ y) (h4 : y < 2 ^ 63) : fX5_common N (oL x) (oL y) = some (oL (gA x y)) ∧ fX4_commonDivisor N (if (0 : Int64) < oL x then oL x else - oL x) (oL y) = some (oL (gA x y)) := by
  obtain ⟨a1, a2, a3⟩ := pu_abs h1 h2
  have ey : oL y = oL (y.natAbs : Int) := congrArg oL (by omega)
  have gM := pu_gcdM (N := N) 63 N x.natAbs y.natAbs (by omega) (by omega) (by omega) (by omega)
  have gC := pu_gcdC (N := N) 63 N 0 x.natAbs y.natAbs (by omega) (by omega) (by omega) (by omega) (by omega)
  constructor
  · unfold fX5_common
    by_cases h : 0 ≤ lg_cmp (oL x) 0
    · rw [if_pos h, a2 h, ey, gM, Option.bind_some]
      rfl
    · rw [if_neg h, pu_lt, a3 h, ey, gM, Option.bind_some]
      rfl
  · unfold fX4_commonDivisor
    rw [a1, ey, show (0 : Int32) = nI 0 from rfl, gC, Option.bind_some]
    rfl
/-- a part of a fraction in lowest terms -/
def lt2 (x y : Int) (w : Int32) : Int64 := if w = 0 then oL (x / gA x y) else oL (y / gA x y)
theorem pu_terms {N : Nat} (hN : 5000 ≤ N) {x y : Int} {w : Int32} (h1 : -2 ^ 63 < x) (h2 : x < 2 ^ 63) (h3 : 1 ≤ y) (h4 : y < 2 ^ 63) (hw : w = 0 ∨ w = 1) : fX4_lowestTerms N (oL x) (oL y) w = some (lt2 x y w) ∧ fX5_told N (oL x) (oL y) w = some (lt2 x y w) := by
  obtain ⟨c1, c2⟩ := pu_common hN h1 h2 h3 h4
  have g1 := gA_pos (x := x) h3
  have g2 := gA_le (x := x) h3
  have d1 : ya_ldv (oL x) (oL (gA x y)) = some (oL (x / gA x y)) := by
    have := oL_div (d := gA x y) (x := x / gA x y) g1 (by omega) (by rw [gA_l]; exact h1) (by rw [gA_l]; exact h2)
    rw [gA_l] at this
    exact this
  have d2 : ya_ldv (oL y) (oL (gA x y)) = some (oL (y / gA x y)) := by
    have := oL_div (d := gA x y) (x := y / gA x y) g1 (by omega) (by rw [gA_r]; omega) (by rw [gA_r]; exact h4)
    rw [gA_r] at this
    exact this
  unfold fX4_lowestTerms fX5_told lt2
  rw [c1, c2, Option.bind_some, Option.bind_some, if_pos (oL_ge1 g1 (by omega))]
  rcases hw with hw | hw
  · rw [if_pos hw, if_pos hw, if_pos hw, d1]
    exact ⟨rfl, rfl⟩
  · have h0 : ¬ w = 0 := by rw [hw]; decide
    rw [if_neg h0, if_neg h0, if_neg h0, if_pos hw, d2]
    exact ⟨rfl, rfl⟩
theorem pu_what (w : Int32) : (fX4_isPart w = some 1 ∧ fX5_isWhat w = some 1 ∧ (w = 0 ∨ w = 1)) ∨ (fX4_isPart w = some 0 ∧ fX5_isWhat w = some 0) := by
  unfold fX4_isPart fX5_isWhat
  by_cases h0 : w = 0
  · rw [if_pos h0]
    exact Or.inl ⟨rfl, rfl, Or.inl h0⟩
  · by_cases h1 : w = 1
    · rw [if_neg h0, if_pos h1]
      exact Or.inl ⟨rfl, rfl, Or.inr h1⟩
    · rw [if_neg h0, if_neg h1]
      exact Or.inr ⟨rfl, rfl⟩
/-! ===== what the works give a fit ===== -/
theorem RelW.mvr {K F R : Nat} {kn fl rs : Int32} {fr tt rd ms pr kd ln sh b : Nat → Int32} (h : RelW K F R kn fl rs fr tt rd ms pr kd ln sh b) : ∀ f, f < F → 1 ≤ (ms f).toInt ∧ (ms f).toInt ≤ 4 := fun f hf => by
  obtain ⟨a0, a1, a2, a3, a4, a5, a6, a7, a8, a9, a10, a11, a12, a13, a14, a15, a16⟩ := h.2.2.2.2.2.2.2.2.2 f hf
  exact a8
theorem RelW.rvr {K F R : Nat} {kn fl rs : Int32} {fr tt rd ms pr kd ln sh b : Nat → Int32} (h : RelW K F R kn fl rs fr tt rd ms pr kd ln sh b) : ∀ f, f < F → -2000 ≤ (rd f).toInt ∧ (rd f).toInt ≤ 2000 := fun f hf => by
  obtain ⟨a0, a1, a2, a3, a4, a5, a6, a7, a8, a9, a10, a11, a12, a13, a14, a15, a16⟩ := h.2.2.2.2.2.2.2.2.2 f hf
  exact a6
theorem RelW.endK {K F R : Nat} {kn fl rs : Int32} {fr tt rd ms pr kd ln sh b : Nat → Int32} (h : RelW K F R kn fl rs fr tt rd ms pr kd ln sh b) : ∀ f, f < F → eA fr f < K ∧ eA tt f < K := fun f hf => by
  obtain ⟨a, c, ha, hc, hac, e1, e2⟩ := (h.2.2.2.2.2.2.2.2.2 f hf).1
  have hK := h.2.1
  unfold eA
  rw [e1, e2, nI_clamp (by omega), nI_clamp (by omega)]
  exact ⟨ha, hc⟩
theorem fcF_bound {S F K : Nat} {a c : Nat → Nat} {mv rv : Nat → Int} (hK : K ≤ 6) (hF : F ≤ 10) (hmv : ∀ f, f < F → 1 ≤ mv f ∧ mv f ≤ 4) (hrv : ∀ f, f < F → -2000 ≤ rv f ∧ rv f ≤ 2000) {k : Nat} (hk : k < K) : -1565415720000 ≤ fcF S F K a c mv rv k ∧ fcF S F K a c mv rv k ≤ 1565415720000 := by
  unfold fcF
  by_cases h : hrF S F a c k = true
  · rw [if_pos h]
    have hn : nF S F K a c ≤ 5 := by
      unfold nF hrF
      have := plc_bd1 (hrw_0 (P := S.testBit) (Q := Nat.testBit (2 ^ F - 1)) (a := a) (c := c) (F := F)) (K - 1)
      rw [show K - 1 + 1 = K by omega] at this
      omega
    have h1 := Em_bound (hr := hrF S F a c) (L := gat S.testBit a c F) (a := a) (c := c) hF hmv hrv (m := nF S F K a c) (k := plc (hrF S F a c) k) (by omega) (plc_lt h hk) 6
    have h2 := (pd_bounds (B := BF (hrF S F a c) (gat S.testBit a c F) a c F mv) (fun i => by unfold BF; omega) (BF_sum hF hmv)).2.2 (nF S F K a c) hn
    unfold AF
    omega
  · rw [if_neg h]
    decide
theorem pu_forceC {S F K k : Nat} {lh : Nat → Int32} {rows : Nat → Nat → Int64} {L : Nat → Nat} {fc : Nat → Int} (hK : K ≤ 6) (hL : Lr lh L) (hle : ∀ k, L k ≤ k) (hR : ∀ k, k < K → rows k 6 = oL (fc k)) (hk : k < K) : fX0_forceAbove lh rows (nI k) = some (oL (fc (L k))) := by
  have := hle k
  unfold fX0_forceAbove
  rw [pu_rd (by omega) (by decide), Option.bind_some, hL k (by omega), pu_ix (by omega) (by decide), Option.bind_some, show (6 : Int32) = nI 6 from rfl, pu_rd (by decide) (by decide), Option.bind_some, hR _ (by omega)]

set_option maxHeartbeats 4000000 in
theorem ps_force {N : Nat} (hN : 5000 ≤ N) : ob_force N yInv := by
  intro kn fl rs fr tt rd ms pr kd ln sh nx ct kK fK rK frK ttK rdK msK prK kdK lnK shK s_x_groups_least s_x_fit_unread s_x_fit_below s_x_fit_heaps_least s_x_fit_pieces_least s_x_fit_sides_least s_x_fit_rows s_x_fit_surplus s_x_away s_x_testAbove s_x_testBelow mn s_m_below s_m_above1 s_m_below1 nw bf s_m_heapOf s_m_partOf s_m_place s_m_matrix s_m_right s_m_force s_m_work s_m_side s_m_far s_m_fallAbove s_m_fallBelow s_m_ranks s_m_was hI x1 x2
  obtain ⟨⟨K, F, R, hW⟩, hP⟩ := id hI
  have hK := hW.2.1
  have hF := hW.2.2.1
  have hR := hW.2.2.2.1
  have hkn : kn = nI K := hW.2.2.2.2.1
  have hfl : fl = nI F := hW.2.2.2.2.2.1
  have hrs : rs = nI R := hW.2.2.2.2.2.2.1
  have hb0 := hW.2.2.2.2.2.2.2.1
  have hb := hW.2.2.2.2.2.2.2.2.1
  subst hkn
  subst hfl
  subst hrs
  rcases pu_knot hK hb0 x1 with ⟨k, hk, rfl, c1, c2⟩ | ⟨c1, c2⟩
  · rcases pu_what x2 with ⟨w1, w2, w3⟩ | ⟨w1, w2⟩
    · obtain ⟨lh, lp, rw', su, e1, p1, p2, p3⟩ := pu_solve (un := s_x_fit_unread) (b0 := s_x_fit_below) (lh := s_x_fit_heaps_least) (lp := s_x_fit_pieces_least) (rows := s_x_fit_rows) (sur := s_x_fit_surplus) hN hF (unr_1024 (R := R) hF) hK hW.ends hW.endK hW.mvr hW.rvr
      obtain ⟨mh, mp, ml, mm, mr, mf, mw, e2, q1, q2⟩ := pu_solves (b0 := s_m_below) (lh := s_m_heapOf) (lp := s_m_partOf) (pl := s_m_place) (mat := s_m_matrix) (right := s_m_right) (fo := s_m_force) (w := s_m_work) hN hF hK hb0 hW.mb hW.mx hW.ends hW.endK
      obtain ⟨b1, b2⟩ := blF_pos (S := unr F R) (a := eA fr) (c := eA tt) hK hF hW.mvr hW.rvr
      have hfb := fcF_bound (S := unr F R) (a := eA fr) (c := eA tt) hK hF hW.mvr hW.rvr (k := gat (unr F R).testBit (eA fr) (eA tt) F k) (Nat.lt_of_le_of_lt (gat_le _ _ _ _ _) hk)
      obtain ⟨t1, t2⟩ := pu_terms hN (x := fcF (unr F R) F K (eA fr) (eA tt) (fun f => (ms f).toInt) (fun f => (rd f).toInt) (gat (unr F R).testBit (eA fr) (eA tt) F k)) (y := blF (unr F R) F K (eA fr) (eA tt) (fun f => (ms f).toInt) (fun f => (rd f).toInt)) (w := x2) (by omega) (by omega) b1 (by omega) w3
      refine ⟨lt2 (fcF (unr F R) F K (eA fr) (eA tt) (fun f => (ms f).toInt) (fun f => (rd f).toInt) (gat (unr F R).testBit (eA fr) (eA tt) F k)) (blF (unr F R) F K (eA fr) (eA tt) (fun f => (ms f).toInt) (fun f => (rd f).toInt)) x2, nI (unr F R), oL (blF (unr F R) F K (eA fr) (eA tt) (fun f => (ms f).toInt) (fun f => (rd f).toInt)), lh, lp, rw', su, oL (blF (unr F R) F K (eA fr) (eA tt) (fun f => (ms f).toInt) (fun f => (rd f).toInt)), mh, mp, ml, mm, mr, mf, mw, ?_, ?_, hI⟩
      · unfold fX4_force
        rw [c1, Option.bind_some, if_neg (show ¬ (1 : Int32) = 0 by decide), w1, Option.bind_some, if_neg (show ¬ (1 : Int32) = 0 by decide), pu_unread hF, Option.bind_some, e1, Option.bind_some]
        dsimp only
        rw [pu_forceC (S := unr F R) (F := F) hK p1 (gat_le _ _ _ _) p2 hk, Option.bind_some, t1, Option.bind_some]
      · unfold fX5_force
        rw [c2, Option.bind_some, if_neg (show ¬ (1 : Int32) = 0 by decide), w2, Option.bind_some, if_neg (show ¬ (1 : Int32) = 0 by decide), e2, Option.bind_some]
        dsimp only
        have hg := gat_le (unr F R).testBit (eA fr) (eA tt) F k
        rw [pu_rd (by omega) (by decide), Option.bind_some, q1 k (by omega), pu_rd (by omega) (by decide), Option.bind_some, q2 _ (by omega), t2, Option.bind_some]
    · refine ⟨-1, s_x_fit_unread, s_x_fit_below, s_x_fit_heaps_least, s_x_fit_pieces_least, s_x_fit_rows, s_x_fit_surplus, s_m_below, s_m_heapOf, s_m_partOf, s_m_place, s_m_matrix, s_m_right, s_m_force, s_m_work, ?_, ?_, hI⟩
      · unfold fX4_force
        rw [c1, Option.bind_some, if_neg (show ¬ (1 : Int32) = 0 by decide), w1, Option.bind_some, if_pos rfl]
      · unfold fX5_force
        rw [c2, Option.bind_some, if_neg (show ¬ (1 : Int32) = 0 by decide), w2, Option.bind_some, if_pos rfl]
  · refine ⟨-1, s_x_fit_unread, s_x_fit_below, s_x_fit_heaps_least, s_x_fit_pieces_least, s_x_fit_rows, s_x_fit_surplus, s_m_below, s_m_heapOf, s_m_partOf, s_m_place, s_m_matrix, s_m_right, s_m_force, s_m_work, ?_, ?_, hI⟩
    · unfold fX4_force
      rw [c1, Option.bind_some, if_pos rfl]
    · unfold fX5_force
      rw [c2, Option.bind_some, if_pos rfl]
