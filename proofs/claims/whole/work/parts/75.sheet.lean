/-! ===== sheet ===== -/
/-- byte j of a word, the highest one first -/
def bt (w : Int32) (j : Nat) : Int32 := (w <<< ((8 * nI j) &&& 31)) >>> (24 &&& 31)
theorem bt_range (w : Int32) (j : Nat) : -128 ≤ (bt w j).toInt ∧ (bt w j).toInt ≤ 127 := by
  unfold bt
  generalize w <<< ((8 * nI j) &&& 31) = x
  have e : (x >>> (24 &&& 31)).toInt = x.toInt >>> 24 := by
    show (BitVec.sshiftRight' x.toBitVec ((24 &&& 31 : Int32).toBitVec.smod 32)).toInt = _
    rw [show ((24 &&& 31 : Int32).toBitVec.smod 32) = 24#32 by decide]
    show (x.toBitVec.sshiftRight (24#32).toNat).toInt = _
    rw [BitVec.toInt_sshiftRight]
    rfl
  rw [e, Int.shiftRight_eq_div_pow]
  have h1 := x.toInt_lt
  have h2 := x.le_toInt
  omega
theorem bt_0 (w : Int32) : w >>> (24 &&& 31) = bt w 0 := by
  unfold bt
  rw [show ((8 * nI 0) &&& 31 : Int32) = 0 by decide, show w <<< (0 : Int32) = w from by simp]
theorem bt_1 (w : Int32) : (w <<< (8 &&& 31)) >>> (24 &&& 31) = bt w 1 := by
  unfold bt
  rw [show ((8 * nI 1) &&& 31 : Int32) = 8 &&& 31 by decide]
theorem bt_2 (w : Int32) : (w <<< (16 &&& 31)) >>> (24 &&& 31) = bt w 2 := by
  unfold bt
  rw [show ((8 * nI 2) &&& 31 : Int32) = 16 &&& 31 by decide]
theorem bt_3 (w : Int32) : (w <<< (24 &&& 31)) >>> (24 &&& 31) = bt w 3 := by
  unfold bt
  rw [show ((8 * nI 3) &&& 31 : Int32) = 24 &&& 31 by decide]
theorem pu_put {f h0 : Nat} {sh : Nat → Int32} {x : Int32} (hf : f < 10) (hh : h0 + 4 ≤ 16) : ∃ sh', fX3_putBytes sh (nI f) (nI h0) x = some sh' ∧ (∀ j, j < 4 → sh' (16 * f + h0 + j) = bt x j) ∧ ∀ j, (j < 16 * f + h0 ∨ 16 * f + h0 + 4 ≤ j) → sh' j = sh j := by
  unfold fX3_putBytes
  rw [pu_lt, show nI f * (16 : Int32) + nI h0 = nI (16 * f + h0) from by rw [show (16 : Int32) = nI 16 from rfl, pk_mul, nI_add, Nat.mul_comm], bt_0, bt_1, bt_2, bt_3, show nI (16 * f + h0) + (1 : Int32) = nI (16 * f + h0 + 1) from nI_add _ 1, show nI (16 * f + h0) + (2 : Int32) = nI (16 * f + h0 + 2) from nI_add _ 2, show nI (16 * f + h0) + (3 : Int32) = nI (16 * f + h0 + 3) from nI_add _ 3]
  rw [pu_wr (by omega) (by decide), Option.bind_some, pu_wr (by omega) (by decide), Option.bind_some, pu_wr (by omega) (by decide), Option.bind_some, pu_wr (by omega) (by decide), Option.bind_some]
  refine ⟨_, rfl, fun j hj => ?_, fun j hj => ?_⟩
  · match j, hj with
    | 0, _ => rw [ya_up_ne (by omega), ya_up_ne (by omega), ya_up_ne (by omega), Nat.add_zero, ya_up_eq]
    | 1, _ => rw [ya_up_ne (by omega), ya_up_ne (by omega), ya_up_eq]
    | 2, _ => rw [ya_up_ne (by omega), ya_up_eq]
    | 3, _ => rw [ya_up_eq]
  · rw [ya_up_ne (by omega), ya_up_ne (by omega), ya_up_ne (by omega), ya_up_ne (by omega)]
/-- the word of an hour -/
def wd (p q r s : Int32) (h : Nat) : Int32 := if h < 4 then p else if h < 8 then q else if h < 12 then r else s
theorem pu_put4 {f : Nat} {sh : Nat → Int32} {p q r s : Int32} (hf : f < 10) : ∃ s1 s2 s3 s4, fX3_putBytes sh (nI f) 0 p = some s1 ∧ fX3_putBytes s1 (nI f) 4 q = some s2 ∧ fX3_putBytes s2 (nI f) 8 r = some s3 ∧ fX3_putBytes s3 (nI f) 12 s = some s4 ∧ (∀ h, h < 16 → s4 (16 * f + h) = bt (wd p q r s h) (h % 4)) ∧ ∀ j, (j < 16 * f ∨ 16 * f + 16 ≤ j) → s4 j = sh j := by
  obtain ⟨s1, e1, a1, b1⟩ := pu_put (sh := sh) (h0 := 0) (x := p) hf (by decide)
  obtain ⟨s2, e2, a2, b2⟩ := pu_put (sh := s1) (h0 := 4) (x := q) hf (by decide)
  obtain ⟨s3, e3, a3, b3⟩ := pu_put (sh := s2) (h0 := 8) (x := r) hf (by decide)
  obtain ⟨s4, e4, a4, b4⟩ := pu_put (sh := s3) (h0 := 12) (x := s) hf (by decide)
  refine ⟨s1, s2, s3, s4, e1, e2, e3, e4, fun h hh => ?_, fun j hj => ?_⟩
  · unfold wd
    by_cases c1 : h < 4
    · rw [b4 _ (by omega), b3 _ (by omega), b2 _ (by omega), if_pos c1, show 16 * f + h = 16 * f + 0 + h by omega, a1 h c1, Nat.mod_eq_of_lt c1]
    · rw [if_neg c1]
      by_cases c2 : h < 8
      · rw [b4 _ (by omega), b3 _ (by omega), if_pos c2, show 16 * f + h = 16 * f + 4 + h % 4 by omega, a2 _ (by omega)]
      · rw [if_neg c2]
        by_cases c3 : h < 12
        · rw [b4 _ (by omega), if_pos c3, show 16 * f + h = 16 * f + 8 + h % 4 by omega, a3 _ (by omega)]
        · rw [if_neg c3, show 16 * f + h = 16 * f + 12 + h % 4 by omega, a4 _ (by omega)]
  · rw [b4 _ (by omega), b3 _ (by omega), b2 _ (by omega), b1 _ (by omega)]
def vl (kd n w : Int32) (h : Nat) : Int32 := if nI h < n then (if kd = 3 ∧ bt w (h % 4) = -128 then -1000000 else 10 * bt w (h % 4)) else 0
theorem pu_irm4 {a : Nat} (ha : a < 2 ^ 31) : ya_irm (nI a) 4 = some (nI (a % 4)) := by
  unfold ya_irm
  rw [if_neg (by decide), show (4 : Int32) = nI 4 from rfl, pk_rem ha (by decide) (by decide)]
theorem pu_shTail {f i : Nat} {kd n w : Int32} {d : Nat → Int32} {β : Type} {k : Int32 → (Nat → Int32) → Option β} (hf : f < 10) (hi : i < 16) : ((ya_irm (nI i) 4).bind fun v21 => ya_lt ((w <<< ((8 * v21) &&& 31)) >>> (24 &&& 31)) fun v23 => (if nI i < n then (if kd = 3 then (if v23 = (-128) then (fX5_set d (nI f) (8 + nI i) (-1000000)).bind fun v36 => ya_lt (nI i + 1) fun v38 => k v38 v36 else (fX5_set d (nI f) (8 + nI i) (10 * v23)).bind fun v32 => ya_lt (nI i + 1) fun v34 => k v34 v32) else (fX5_set d (nI f) (8 + nI i) (10 * v23)).bind fun v27 => ya_lt (nI i + 1) fun v29 => k v29 v27) else (fX5_set d (nI f) (8 + nI i) 0).bind fun v40 => ya_lt (nI i + 1) fun v42 => k v42 v40)) = k (nI (i + 1)) (ya_up d (2 + 24 * f + (8 + i)) (vl kd n w i)) := by
  have hs : ∀ v, fX5_set d (nI f) (8 + nI i) v = some (ya_up d (2 + 24 * f + (8 + i)) v) := fun v => pu_set (8 + i) (show (8 : Int32) + nI i = nI (8 + i) from nI_add 8 i) (by omega)
  rw [pu_irm4 (by omega), Option.bind_some, pu_lt, show (w <<< ((8 * nI (i % 4)) &&& 31)) >>> (24 &&& 31) = bt w (i % 4) from rfl]
  simp only [hs, Option.bind_some, pu_lt, nI_1]
  unfold vl
  by_cases c1 : nI i < n
  · rw [if_pos c1, if_pos c1]
    by_cases c2 : kd = 3
    · rw [if_pos c2]
      by_cases c3 : bt w (i % 4) = -128
      · rw [if_pos c3, if_pos ⟨c2, c3⟩]
      · rw [if_neg c3, if_neg (fun z => c3 z.2)]
    · rw [if_neg c2, if_neg (fun z => c2 z.1)]
  · rw [if_neg c1, if_neg c1]
theorem pu_sh52 {N f : Nat} {kd n p q r s : Int32} (hf : f < 10) : ∀ (m i : Nat) (d : Nat → Int32), i ≤ 16 → 16 - i < m → ∃ d', fX5_sheet_L52 N m (nI f) kd n p q r s (nI i) d = some d' ∧ (∀ h, i ≤ h → h < 16 → d' (2 + 24 * f + (8 + h)) = vl kd n (wd p q r s h) h) ∧ ∀ j, (j < 2 + 24 * f + (8 + i) ∨ 2 + 24 * f + 24 ≤ j) → d' j = d j := by
  intro m
  induction m with
  | zero => intro i d h1 h2; omega
  | succ m ih =>
    intro i d h1 h2
    unfold fX5_sheet_L52
    by_cases h : i = 16
    · subst h
      rw [if_pos (show (16 : Int32) ≤ nI 16 from nI_le (a := 16) (Nat.le_refl _) (by decide))]
      exact ⟨d, rfl, fun h q1 q2 => by omega, fun j hj => rfl⟩
    · rw [if_neg (show ¬ (16 : Int32) ≤ nI i from nI_ge (b := 16) (by omega) (by decide))]
      obtain ⟨d', e, z1, z2⟩ := ih (i + 1) (ya_up d (2 + 24 * f + (8 + i)) (vl kd n (wd p q r s i) i)) (by omega) (by omega)
      refine ⟨d', ?_, fun h q1 q2 => ?_, fun j hj => ?_⟩
      · rw [← e]
        unfold wd
        by_cases c1 : i < 4
        · rw [if_neg (show ¬ (4 : Int32) ≤ nI i from nI_ge (b := 4) c1 (by decide)), if_pos c1]
          exact pu_shTail (k := fun a b => fX5_sheet_L52 N m (nI f) kd n p q r s a b) hf (by omega)
        · rw [if_pos (show (4 : Int32) ≤ nI i from nI_le (a := 4) (by omega) (by omega)), if_neg c1]
          by_cases c2 : i < 8
          · rw [if_neg (show ¬ (8 : Int32) ≤ nI i from nI_ge (b := 8) c2 (by decide)), if_pos c2]
            exact pu_shTail (k := fun a b => fX5_sheet_L52 N m (nI f) kd n p q r s a b) hf (by omega)
          · rw [if_pos (show (8 : Int32) ≤ nI i from nI_le (a := 8) (by omega) (by omega)), if_neg c2]
            by_cases c3 : i < 12
            · rw [if_neg (show ¬ (12 : Int32) ≤ nI i from nI_ge (b := 12) c3 (by decide)), if_pos c3]
              exact pu_shTail (k := fun a b => fX5_sheet_L52 N m (nI f) kd n p q r s a b) hf (by omega)
            · rw [if_pos (show (12 : Int32) ≤ nI i from nI_le (a := 12) (by omega) (by omega)), if_neg c3]
              exact pu_shTail (k := fun a b => fX5_sheet_L52 N m (nI f) kd n p q r s a b) hf (by omega)
      · by_cases e1 : h = i
        · subst e1
          rw [z2 _ (by omega), ya_up_eq]
        · exact z1 h (by omega) q2
      · rw [z2 j (by omega), ya_up_ne (by omega)]

set_option maxHeartbeats 4000000 in
theorem ps_sheet {N : Nat} (hN : 5000 ≤ N) : ob_sheet N yInv := by
  intro kn fl rs fr tt rd ms pr kd ln sh nx ct kK fK rK frK ttK rdK msK prK kdK lnK shK s_x_groups_least s_x_fit_unread s_x_fit_below s_x_fit_heaps_least s_x_fit_pieces_least s_x_fit_sides_least s_x_fit_rows s_x_fit_surplus s_x_away s_x_testAbove s_x_testBelow mn s_m_below s_m_above1 s_m_below1 nw bf s_m_heapOf s_m_partOf s_m_place s_m_matrix s_m_right s_m_force s_m_work s_m_side s_m_far s_m_fallAbove s_m_fallBelow s_m_ranks s_m_was hI x1 x2 x3 x4 x5 x6 x7
  obtain ⟨⟨K, F, R, hW⟩, hP⟩ := id hI
  have hK := hW.2.1
  have hF := hW.2.2.1
  have hR := hW.2.2.2.1
  have hkn : kn = nI K := hW.2.2.2.2.1
  have hfl : fl = nI F := hW.2.2.2.2.2.1
  have hrs : rs = nI R := hW.2.2.2.2.2.2.1
  have hb0 := hW.2.2.2.2.2.2.2.1
  have hb := hW.2.2.2.2.2.2.2.2.1
  subst hkn
  subst hfl
  subst hrs
  rcases pu_flow hF hb x1 with ⟨f, hf, rfl, c1, c2⟩ | ⟨c1, c2⟩
  · by_cases hk : 0 ≤ x2 ∧ x2 ≤ 3
    · by_cases hn : 0 ≤ x3 ∧ x3 ≤ 16
      · have hrf := hW.2.2.2.2.2.2.2.2.2 f hf
        obtain ⟨a0, a1, a2, a3, a4, a5, a6, a7, a8, a9, a10, a11, a12, a13, a14, a15, a16⟩ := id hrf
        have k1 : ¬ x2 < 0 := fun q => by
          have := hk.1
          rw [Int32.le_iff_toInt_le] at this
          rw [Int32.lt_iff_toInt_lt] at q
          omega
        have k2 : ¬ 3 < x2 := fun q => by
          have := hk.2
          rw [Int32.le_iff_toInt_le] at this
          rw [Int32.lt_iff_toInt_lt] at q
          omega
        have k3 : ¬ x3 < 0 := fun q => by
          have := hn.1
          rw [Int32.le_iff_toInt_le] at this
          rw [Int32.lt_iff_toInt_lt] at q
          omega
        have i1 := hk.1
        have i2 := hk.2
        have i3 := hn.1
        have i4 := hn.2
        rw [Int32.le_iff_toInt_le] at i1 i2 i3 i4
        rw [show (0 : Int32).toInt = 0 by decide] at i1 i3
        rw [show (3 : Int32).toInt = 3 by decide] at i2
        rw [show (16 : Int32).toInt = 16 by decide] at i4
        obtain ⟨zn, zc, z3, z4, z5, z6, z7, z8, z9, z10, z11, z12, z13, y1, y2, e1, e2, hP2⟩ := pu_keepP hN hP hW
        obtain ⟨s1, s2, s3, s4, w1, w2, w3, w4, w5, w6⟩ := pu_put4 (f := f) (sh := sh) (p := x4) (q := x5) (r := x6) (s := x7) (by omega)
        obtain ⟨d', v1, v2, v3⟩ := pu_sh52 (N := N) (f := f) (kd := x2) (n := x3) (p := x4) (q := x5) (r := x6) (s := x7) (by omega) N 0 (ya_up (ya_up nw (2 + 24 * f + 6) x2) (2 + 24 * f + 7) x3) (by decide) (by omega)
        have o6 : d' (2 + 24 * f + 6) = x2 := by rw [v3 _ (by omega), ya_up_ne (by omega), ya_up_eq]
        have o7 : d' (2 + 24 * f + 7) = x3 := by rw [v3 _ (by omega), ya_up_eq]
        have ok : ∀ j, (j < 2 + 24 * f + 6 ∨ 2 + 24 * f + 24 ≤ j) → d' j = nw j := fun j hj => by rw [v3 _ (by omega), ya_up_ne (by omega), ya_up_ne (by omega)]
        refine ⟨x3, ya_up kd f x2, ya_up ln f x3, s4, zn, zc, z3, z4, z5, z6, z7, z8, z9, z10, z11, z12, z13, y1, d', y2, ?_, ?_, ⟨K, F, R, ?_⟩, hP2⟩
        · unfold fX4_sheet
          rw [c1, Option.bind_some, if_neg (show ¬ (1 : Int32) = 0 by decide), if_neg k1, if_neg k2, if_neg k3, if_pos hn.2, e1, Option.bind_some]
          show (ya_wr kd 10 (nI f) x2).bind _ = _
          rw [pu_wr (by omega) (by decide), Option.bind_some, pu_wr (by omega) (by decide), Option.bind_some, w1, Option.bind_some, w2, Option.bind_some, w3, Option.bind_some, w4, Option.bind_some]
        · unfold fX5_sheet
          rw [c2, Option.bind_some, if_neg (show ¬ (1 : Int32) = 0 by decide), pu_isIn, Option.bind_some, if_pos hk, if_neg (show ¬ (1 : Int32) = 0 by decide), pu_isIn, Option.bind_some, if_pos hn, if_neg (show ¬ (1 : Int32) = 0 by decide), e2, Option.bind_some]
          show (fX5_set nw (nI f) 6 x2).bind _ = _
          rw [pu_set (f := f) (x := 6) 6 rfl (by omega), Option.bind_some, pu_set (f := f) (x := 7) 7 rfl (by omega), Option.bind_some, show fX5_sheet_L52 N N (nI f) x2 x3 x4 x5 x6 x7 0 (ya_up (ya_up nw (2 + 24 * f + 6) x2) (2 + 24 * f + 7) x3) = some d' from v1, Option.bind_some]
        · refine hW.upd hf hR (fun _ _ _ => rfl) (fun _ _ => rfl) (fun _ _ => rfl) (fun _ _ => rfl) (fun _ _ => rfl) (fun _ _ => rfl) (fun j hj => ya_up_ne hj) (fun j hj => ya_up_ne hj) (fun j hj => w6 j hj) (fun j hj => ok j (by omega)) ?_
          rw [ya_up_eq, ya_up_eq]
          refine ⟨a0, (ok _ (by omega)).trans a1, (ok _ (by omega)).trans a2, (ok _ (by omega)).trans a3, (ok _ (by omega)).trans a4, a5, a6, (ok _ (by omega)).trans a7, a8, (ok _ (by omega)).trans a9, a10, o6, ⟨by omega, i2⟩, o7, ⟨i3, i4⟩, fun q => by
            rw [q] at i1
            exact absurd i1 (by decide), fun h hh hl => ?_⟩
          show (-128 ≤ (s4 (16 * f + h)).toInt ∧ (s4 (16 * f + h)).toInt ≤ 127) ∧ d' (2 + 24 * f + (8 + h)) = if x2 = 3 ∧ s4 (16 * f + h) = -128 then -1000000 else 10 * s4 (16 * f + h)
          rw [w5 h hh]
          refine ⟨bt_range _ _, ?_⟩
          rw [v2 h (Nat.zero_le h) hh]
          unfold vl
          rw [if_pos (by
            rw [Int32.lt_iff_toInt_lt, nI_toInt (by omega)]
            exact hl)]
      · refine ⟨-1, kd, ln, sh, nx, ct, kK, fK, rK, frK, ttK, rdK, msK, prK, kdK, lnK, shK, mn, nw, bf, ?_, ?_, hI⟩
        · unfold fX4_sheet
          rw [c1, Option.bind_some, if_neg (show ¬ (1 : Int32) = 0 by decide)]
          by_cases q1 : x2 < 0
          · rw [if_pos q1]
          rw [if_neg q1]
          by_cases q2 : 3 < x2
          · rw [if_pos q2]
          rw [if_neg q2]
          by_cases q3 : x3 < 0
          · rw [if_pos q3]
          rw [if_neg q3, if_neg]
          intro q4
          refine hn ⟨?_, q4⟩
          rw [Int32.lt_iff_toInt_lt] at q3
          rw [Int32.le_iff_toInt_le]
          omega
        · unfold fX5_sheet
          rw [c2, Option.bind_some, if_neg (show ¬ (1 : Int32) = 0 by decide), pu_isIn, Option.bind_some, if_pos hk, if_neg (show ¬ (1 : Int32) = 0 by decide), pu_isIn, Option.bind_some, if_neg hn, if_pos rfl]
    · refine ⟨-1, kd, ln, sh, nx, ct, kK, fK, rK, frK, ttK, rdK, msK, prK, kdK, lnK, shK, mn, nw, bf, ?_, ?_, hI⟩
      · unfold fX4_sheet
        rw [c1, Option.bind_some, if_neg (show ¬ (1 : Int32) = 0 by decide)]
        by_cases q1 : x2 < 0
        · rw [if_pos q1]
        rw [if_neg q1, if_pos]
        refine Classical.byContradiction fun q2 => hk ⟨?_, ?_⟩
        · rw [Int32.lt_iff_toInt_lt] at q1
          rw [Int32.le_iff_toInt_le]
          omega
        · rw [Int32.lt_iff_toInt_lt] at q2
          rw [Int32.le_iff_toInt_le]
          omega
      · unfold fX5_sheet
        rw [c2, Option.bind_some, if_neg (show ¬ (1 : Int32) = 0 by decide), pu_isIn, Option.bind_some, if_neg hk, if_pos rfl]
  · refine ⟨-1, kd, ln, sh, nx, ct, kK, fK, rK, frK, ttK, rdK, msK, prK, kdK, lnK, shK, mn, nw, bf, ?_, ?_, hI⟩
    · unfold fX4_sheet
      rw [c1, Option.bind_some, if_pos rfl]
    · unfold fX5_sheet
      rw [c2, Option.bind_some, if_pos rfl]
