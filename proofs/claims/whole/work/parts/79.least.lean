/-! ===== least ===== -/
def prs (pr : Nat → Int32) (T : Nat) : Nat → Int32
  | 0 => 0
  | i + 1 => if T.testBit i then prs pr T i + pr i else prs pr T i
theorem pu_priceOf {N F T : Nat} {pr : Nat → Int32} (hN : 5000 ≤ N) (hF : F ≤ 10) (hT : T < 1024) : fX3_priceOfSet N (nI F) pr (nI T) = some (prs pr T F) := by
  have key : ∀ (n i : Nat), i ≤ F → F - i < n → fX3_priceOfSet_L4 N n (nI T) (prs pr T i) (nI i) (nI F) pr = some (prs pr T F) := by
    intro n
    induction n with
    | zero => intro i h1 h2; omega
    | succ n ih =>
      intro i h1 h2
      unfold fX3_priceOfSet_L4
      by_cases hi : i = F
      · subst hi
        rw [if_pos (nI_le (Nat.le_refl _) (by omega))]
      · have hlt : i < F := by omega
        have e : prs pr T (i + 1) = if T.testBit i = true then prs pr T i + pr i else prs pr T i := rfl
        have ih' := ih (i + 1) (by omega) (by omega)
        rw [if_neg (nI_ge hlt (by omega)), pu_holds hT (by omega), Option.bind_some]
        by_cases hb : T.testBit i = true
        · rw [if_pos hb, if_neg (show ¬ (1 : Int32) = 0 by decide), pu_rd (by omega) (by decide), Option.bind_some, pu_lt, pu_lt, nI_1]
          rw [e, if_pos hb] at ih'
          exact ih'
        · rw [if_neg hb, if_pos rfl, pu_lt, nI_1]
          rw [e, if_neg hb] at ih'
          exact ih'
  unfold fX3_priceOfSet
  rw [show fX3_priceOfSet_L4 N N (nI T) 0 0 (nI F) pr = some (prs pr T F) from key N 0 (Nat.zero_le F) (by omega), Option.bind_some]
theorem pu_least37 {N F R T : Nat} {y1 y2 y3 y4 : Int32} {fr tt rd ms pr b : Nat → Int32} (hF : F ≤ 10) (hT : T < 1024) (hM : Mb F R fr tt b) (hX : Mx F rd ms pr b) : ∀ (n i : Nat) (y : Int32), i ≤ F → F - i < n → ((y = 1 ∧ ∀ f, f < i → T.testBit f = true → R.testBit f = false) ∨ (y = 0 ∧ ¬ ∀ f, f < i → T.testBit f = true → R.testBit f = false)) → ∃ v, fX5_least_L37 N n y1 y2 y3 y4 (nI T) (prs pr T i) y (nI i) b = some (prs pr T F, v) ∧ ((v = 1 ∧ ∀ f, f < F → T.testBit f = true → R.testBit f = false) ∨ (v = 0 ∧ ¬ ∀ f, f < F → T.testBit f = true → R.testBit f = false)) := by
  intro n
  induction n with
  | zero => intro i y h1 h2; omega
  | succ n ih =>
    intro i y h1 h2 hy
    unfold fX5_least_L37
    rw [pu_flows, hM.1, Option.bind_some]
    by_cases hi : i = F
    · subst hi
      rw [if_pos (nI_le (Nat.le_refl _) (by omega))]
      exact ⟨y, rfl, hy⟩
    · have hlt : i < F := by omega
      have e : prs pr T (i + 1) = if T.testBit i = true then prs pr T i + pr i else prs pr T i := rfl
      rw [if_neg (nI_ge hlt (by omega)), pu_bitv hT (by omega)]
      have ih' := fun y => ih (i + 1) y (by omega) (by omega)
      by_cases hb : T.testBit i = true
      · rw [e, if_pos hb] at ih'
        rw [if_pos hb, if_neg (show ¬ (1 : Int32) = 0 by decide), pu_get (f := i) (x := 5) 5 rfl (by omega), Option.bind_some, (hX i hlt).2.2, pu_lt]
        rcases hy with ⟨hy, hq⟩ | ⟨hy, hq⟩
        · rw [if_neg (by rw [hy]; decide), pu_isRead hF hM hlt, Option.bind_some]
          by_cases hr : R.testBit i = true
          · rw [if_pos hr, if_neg (show ¬ (1 : Int32) = 0 by decide), pu_lt, nI_1]
            refine ih' 0 (Or.inr ⟨rfl, fun z => ?_⟩)
            have := z i (by omega) hb
            rw [hr] at this
            exact absurd this (by decide)
          · rw [if_neg hr, if_pos rfl, pu_lt, nI_1]
            refine ih' 1 (Or.inl ⟨rfl, fun f hf hbf => ?_⟩)
            by_cases ef : f = i
            · subst ef
              rw [Bool.not_eq_true] at hr
              exact hr
            · exact hq f (by omega) hbf
        · rw [if_pos hy, pu_lt, nI_1]
          exact ih' 0 (Or.inr ⟨rfl, fun z => hq (fun f hf hbf => z f (by omega) hbf)⟩)
      · rw [e, if_neg hb] at ih'
        rw [if_neg hb, if_pos rfl, pu_lt, nI_1]
        refine ih' y ?_
        rcases hy with ⟨hy, hq⟩ | ⟨hy, hq⟩
        · refine Or.inl ⟨hy, fun f hf hbf => ?_⟩
          by_cases ef : f = i
          · subst ef
            exact absurd hbf hb
          · exact hq f (by omega) hbf
        · exact Or.inr ⟨hy, fun z => hq (fun f hf hbf => z f (by omega) hbf)⟩
theorem pu_shl1 {F : Nat} (h : F ≤ 10) : (1 : Int32) <<< (nI F &&& 31) = nI (2 ^ F) := by
  match F, h with
  | 0, _ => decide +kernel
  | 1, _ => decide +kernel
  | 2, _ => decide +kernel
  | 3, _ => decide +kernel
  | 4, _ => decide +kernel
  | 5, _ => decide +kernel
  | 6, _ => decide +kernel
  | 7, _ => decide +kernel
  | 8, _ => decide +kernel
  | 9, _ => decide +kernel
  | 10, _ => decide +kernel
theorem pu_subset {F R T : Nat} (hF : F ≤ 10) (hT : T < 2 ^ F) : (nI T &&& (nI (unr F R) ^^^ (-1)) = 0) ↔ ∀ f, f < F → T.testBit f = true → R.testBit f = false := by
  have hle : T &&& (unr F R ^^^ 4294967295) ≤ T := Nat.and_le_left
  have hT' := pu_1024 hT hF
  rw [pu_not, pu_and, show (0 : Int32) = nI 0 from rfl, nI_eq (by omega) (by decide)]
  constructor
  · intro h f hf hb
    have : Nat.testBit (T &&& (unr F R ^^^ 4294967295)) f = Nat.testBit 0 f := by rw [h]
    rw [Nat.testBit_and, Nat.testBit_xor, pu_ones (by omega), hb, unr_P hF hf, Nat.zero_testBit] at this
    simpa using this
  · intro h
    apply Nat.eq_of_testBit_eq
    intro j
    rw [Nat.testBit_and, Nat.zero_testBit]
    by_cases hj : j < F
    · rw [Nat.testBit_xor, pu_ones (by omega), unr_P hF hj]
      by_cases hb : T.testBit j = true
      · rw [hb, h j hj hb]
        rfl
      · rw [Bool.not_eq_true] at hb
        rw [hb, Bool.false_and]
    · rw [Nat.testBit_lt_two_pow (Nat.lt_of_lt_of_le hT (Nat.pow_le_pow_right (by decide) (by omega))), Bool.false_and]
theorem pu_subLe {F R T : Nat} (hF : F ≤ 10) (hT : T < 2 ^ F) (h : ∀ f, f < F → T.testBit f = true → R.testBit f = false) : T ≤ unr F R := by
  have e : T = T &&& unr F R := by
    apply Nat.eq_of_testBit_eq
    intro j
    rw [Nat.testBit_and]
    by_cases hj : j < F
    · rw [unr_P hF hj]
      by_cases hb : T.testBit j = true
      · rw [hb, h j hj hb]
        rfl
      · rw [Bool.not_eq_true] at hb
        rw [hb, Bool.false_and]
    · rw [Nat.testBit_lt_two_pow (Nat.lt_of_lt_of_le hT (Nat.pow_le_pow_right (by decide) (by omega))), Bool.false_and]
  rw [e]
  exact Nat.and_le_right
theorem pu_left {F R T : Nat} (hF : F ≤ 10) : nI (unr F R) &&& (nI T ^^^ (-1)) = nI (unr F (R ||| T)) := by
  rw [pu_not, pu_and]
  congr 1
  apply pu_ext (F := F) (Nat.lt_of_le_of_lt Nat.and_le_left unr_lt) unr_lt
  intro j hj
  rw [Nat.testBit_and, Nat.testBit_xor, pu_ones (by omega), unr_P hF hj, unr_P hF hj, Nat.testBit_or]
  cases R.testBit j <;> cases T.testBit j <;> rfl
theorem pu_rest {N F R : Nat} {x1 x2 best price : Int32} {fr tt rd ms pr b s w : Nat → Int32} (hN : 5000 ≤ N) (hF : F ≤ 10) (hM : Mb F R fr tt b) (hX : Mx F rd ms pr b) : ∀ (n T : Nat), unr F R < T → T ≤ 2 ^ F → 2 ^ F - T < n → fX5_least_L17 N n x1 x2 best price (nI T) b s w = some (best, price, b, s, w) := by
  have h1024 : 2 ^ F ≤ 1024 := Nat.pow_le_pow_right (n := 2) (by decide) hF
  intro n
  induction n with
  | zero => intro T h1 h2 h3; omega
  | succ n ih =>
    intro T h1 h2 h3
    unfold fX5_least_L17
    rw [pu_flows, hM.1, Option.bind_some, pu_shl1 hF]
    by_cases hT : T = 2 ^ F
    · rw [hT, if_pos (nI_le (Nat.le_refl _) (by omega))]
    · obtain ⟨v, e, h⟩ := pu_least37 (N := N) (T := T) (y1 := x1) (y2 := x2) (y3 := best) (y4 := price) hF (by omega) hM hX N 0 1 (Nat.zero_le F) (by omega) (Or.inl ⟨rfl, fun f hf => absurd hf (Nat.not_lt_zero f)⟩)
      have hv : v = 0 := by
        rcases h with ⟨-, h⟩ | ⟨h, -⟩
        · have := pu_subLe hF (by omega) h
          omega
        · exact h
      rw [if_neg (nI_ge (by omega) (by omega)), show fX5_least_L37 N N x1 x2 best price (nI T) 0 1 0 b = some (prs pr T F, v) from e, Option.bind_some]
      dsimp only
      rw [if_pos hv, pu_lt, nI_1]
      exact ih (T + 1) (by omega) (by omega) (by omega)
theorem pu_leastL {N F R : Nat} {x1 x2 : Int32} {fr tt rd ms pr b : Nat → Int32} {a c : Nat → Nat} (hN : 5000 ≤ N) (hF : F ≤ 10) (hR : R < 2 ^ F) (hM : Mb F R fr tt b) (hX : Mx F rd ms pr b) (hE : Ends F fr tt a c) (hx : x1 = 0 ∨ x1 = 1) : ∀ (n T : Nat) (best price : Int32) (l s w : Nat → Int32), T ≤ unr F R + 1 → 2 ^ F - T < n → ∃ (best' price' : Int32) (l' s' w' : Nat → Int32), fX4_least_L28 N n x1 x2 (nI (unr F R)) best price (nI T) (nI F) fr tt pr l = some (best', price', l') ∧ fX5_least_L17 N n x1 x2 best price (nI T) b s w = some (best', price', b, s', w') := by
  have h1024 : 2 ^ F ≤ 1024 := Nat.pow_le_pow_right (n := 2) (by decide) hF
  have hU : unr F R < 2 ^ F := unr_lt
  intro n
  induction n with
  | zero => intro T best price l s w h1 h2; omega
  | succ n ih =>
    intro T best price l s w h1 h2
    by_cases hT : T = unr F R + 1
    · subst hT
      refine ⟨best, price, l, s, w, ?_, pu_rest hN hF hM hX (n + 1) (unr F R + 1) (by omega) (by omega) h2⟩
      unfold fX4_least_L28
      rw [if_pos (nI_lt (by omega) (by omega))]
    · have hT1 : T ≤ unr F R := by omega
      have hT2 : T < 2 ^ F := by omega
      unfold fX4_least_L28 fX5_least_L17
      rw [pu_flows, hM.1, Option.bind_some, pu_shl1 hF, if_neg (nI_nlt hT1 (by omega)), if_neg (nI_ge hT2 (by omega))]
      obtain ⟨v, e, h⟩ := pu_least37 (N := N) (T := T) (y1 := x1) (y2 := x2) (y3 := best) (y4 := price) hF (by omega) hM hX N 0 1 (Nat.zero_le F) (by omega) (Or.inl ⟨rfl, fun f hf => absurd hf (Nat.not_lt_zero f)⟩)
      rw [show fX5_least_L37 N N x1 x2 best price (nI T) 0 1 0 b = some (prs pr T F, v) from e, Option.bind_some]
      dsimp only
      rcases h with ⟨hv, hsub⟩ | ⟨hv, hsub⟩
      · rw [if_pos ((pu_subset hF hT2).mpr hsub), if_neg (by rw [hv]; decide), pu_priceOf hN hF (by omega), Option.bind_some, pu_left hF]
        obtain ⟨v1, l1, e1, z1⟩ := pu_showsC (R := R ||| T) (l := l) hN hF hE hx
        obtain ⟨v2, s2, w2, e2, z2⟩ := pu_showsM (s := s) (w := w) hN hF hR hT2 hM hE hx
        rw [e1, e2, Option.bind_some, Option.bind_some]
        dsimp only
        simp only [pu_lt, nI_1]
        have hyes : ∀ bb pp, ∃ (best' price' : Int32) (l' s' w' : Nat → Int32), (if v1 = 0 then fX4_least_L28 N n x1 x2 (nI (unr F R)) best price (nI (T + 1)) (nI F) fr tt pr l1 else fX4_least_L28 N n x1 x2 (nI (unr F R)) bb pp (nI (T + 1)) (nI F) fr tt pr l1) = some (best', price', l') ∧ (if v2 = 0 then fX5_least_L17 N n x1 x2 best price (nI (T + 1)) b s2 w2 else fX5_least_L17 N n x1 x2 bb pp (nI (T + 1)) b s2 w2) = some (best', price', b, s', w') := by
          intro bb pp
          rcases z1 with ⟨y1, y2⟩ | ⟨y1, y2⟩
          · rcases z2 with ⟨y3, y4⟩ | ⟨y3, y4⟩
            · rw [if_neg (by rw [y1]; decide), if_neg (by rw [y3]; decide)]
              exact ih (T + 1) bb pp l1 s2 w2 (by omega) (by omega)
            · exact absurd y2 y4
          · rcases z2 with ⟨y3, y4⟩ | ⟨y3, y4⟩
            · exact absurd y4 y2
            · rw [if_pos y1, if_pos y3]
              exact ih (T + 1) best price l1 s2 w2 (by omega) (by omega)
        by_cases hb : best = -1
        · rw [if_pos hb, if_pos hb]
          exact hyes (nI T) (prs pr T F)
        · rw [if_neg hb, if_neg hb]
          by_cases hp : price ≤ prs pr T F
          · rw [if_pos hp, if_pos hp]
            exact ih (T + 1) best price l s w (by omega) (by omega)
          · rw [if_neg hp, if_neg hp]
            exact hyes (nI T) (prs pr T F)
      · rw [if_neg (fun q => hsub ((pu_subset hF hT2).mp q)), if_pos hv]
        simp only [pu_lt, nI_1]
        exact ih (T + 1) best price l s w (by omega) (by omega)

set_option maxHeartbeats 4000000 in
theorem ps_least {N : Nat} (hN : 5000 ≤ N) : ob_least N yInv := by
  intro kn fl rs fr tt rd ms pr kd ln sh nx ct kK fK rK frK ttK rdK msK prK kdK lnK shK s_x_groups_least s_x_fit_unread s_x_fit_below s_x_fit_heaps_least s_x_fit_pieces_least s_x_fit_sides_least s_x_fit_rows s_x_fit_surplus s_x_away s_x_testAbove s_x_testBelow mn s_m_below s_m_above1 s_m_below1 nw bf s_m_heapOf s_m_partOf s_m_place s_m_matrix s_m_right s_m_force s_m_work s_m_side s_m_far s_m_fallAbove s_m_fallBelow s_m_ranks s_m_was hI x1 x2 hx
  obtain ⟨⟨K, F, R, hW⟩, hP⟩ := id hI
  have hK := hW.2.1
  have hF := hW.2.2.1
  have hR := hW.2.2.2.1
  have hkn : kn = nI K := hW.2.2.2.2.1
  have hfl : fl = nI F := hW.2.2.2.2.2.1
  have hrs : rs = nI R := hW.2.2.2.2.2.2.1
  have hb0 := hW.2.2.2.2.2.2.2.1
  have hb := hW.2.2.2.2.2.2.2.2.1
  subst hkn
  subst hfl
  subst hrs
  obtain ⟨bt', pp', l', s', w', e1, e2⟩ := pu_leastL (x1 := x1) (x2 := x2) hN hF hR hW.mb hW.mx hW.ends hx N 0 (-1) 0 s_x_groups_least s_m_side s_m_was (by omega) (by
    have h1024 : 2 ^ F ≤ 1024 := Nat.pow_le_pow_right (n := 2) (by decide) hF
    omega)
  have g1 : fX4_least_L28 N N x1 x2 (nI (unr F R)) (-1) 0 0 (nI F) fr tt pr s_x_groups_least = some (bt', pp', l') := e1
  have g2 : fX5_least_L17 N N x1 x2 (-1) 0 0 nw s_m_side s_m_was = some (bt', pp', nw, s', w') := e2
  have hw2 : fX5_isWhat x2 = some (if x2 = 0 ∨ x2 = 1 then 1 else 0) := by
    unfold fX5_isWhat
    by_cases h0 : x2 = 0
    · simp [h0]
    · by_cases h1 : x2 = 1
      · simp [h1]
      · simp [h0, h1]
  by_cases h0 : x2 = 0
  · by_cases hb1 : bt' = -1
    · refine ⟨-1, l', nw, s', w', ?_, ?_, hI⟩
      · unfold fX4_least
        rw [if_pos h0, pu_unread hF, Option.bind_some, g1, Option.bind_some]
        dsimp only
        rw [if_pos hb1]
      · unfold fX5_least
        rw [hw2, if_pos (Or.inl h0), Option.bind_some, if_neg (show ¬ (1 : Int32) = 0 by decide), g2, Option.bind_some]
        dsimp only
        rw [if_pos hb1]
    · refine ⟨pp', l', nw, s', w', ?_, ?_, hI⟩
      · unfold fX4_least
        rw [if_pos h0, pu_unread hF, Option.bind_some, g1, Option.bind_some]
        dsimp only
        rw [if_neg hb1, if_pos h0]
      · unfold fX5_least
        rw [hw2, if_pos (Or.inl h0), Option.bind_some, if_neg (show ¬ (1 : Int32) = 0 by decide), g2, Option.bind_some]
        dsimp only
        rw [if_neg hb1, if_pos h0]
  · by_cases h1 : x2 = 1
    · by_cases hb1 : bt' = -1
      · refine ⟨-1, l', nw, s', w', ?_, ?_, hI⟩
        · unfold fX4_least
          rw [if_neg h0, if_pos h1, pu_unread hF, Option.bind_some, g1, Option.bind_some]
          dsimp only
          rw [if_pos hb1]
        · unfold fX5_least
          rw [hw2, if_pos (Or.inr h1), Option.bind_some, if_neg (show ¬ (1 : Int32) = 0 by decide), g2, Option.bind_some]
          dsimp only
          rw [if_pos hb1]
      · refine ⟨bt', l', nw, s', w', ?_, ?_, hI⟩
        · unfold fX4_least
          rw [if_neg h0, if_pos h1, pu_unread hF, Option.bind_some, g1, Option.bind_some]
          dsimp only
          rw [if_neg hb1, if_neg h0]
        · unfold fX5_least
          rw [hw2, if_pos (Or.inr h1), Option.bind_some, if_neg (show ¬ (1 : Int32) = 0 by decide), g2, Option.bind_some]
          dsimp only
          rw [if_neg hb1, if_neg h0]
    · refine ⟨-1, s_x_groups_least, nw, s_m_side, s_m_was, ?_, ?_, hI⟩
      · unfold fX4_least
        rw [if_neg h0, if_neg h1]
      · unfold fX5_least
        rw [hw2, if_neg (by rintro (q | q); exact h0 q; exact h1 q), Option.bind_some, if_pos rfl]
