/-! ===== change; test ===== -/
/-- by how much the force rises along a flow -/
def dlF (L a c : Nat → Nat) (fc : Nat → Int) (f : Nat) : Int := fc (L (c f)) - fc (L (a f))
theorem dlF_bound {L a c : Nat → Nat} {fc : Nat → Int} {F K : Nat} (hle : ∀ k, L k ≤ k) (hac : ∀ f, f < F → a f < K ∧ c f < K) (hfc : ∀ k, k < K → -1565415720000 ≤ fc k ∧ fc k ≤ 1565415720000) {f : Nat} (hf : f < F) : -3130831440000 ≤ dlF L a c fc f ∧ dlF L a c fc f ≤ 3130831440000 := by
  obtain ⟨h1, h2⟩ := hac f hf
  have h3 := hfc (L (a f)) (by have := hle (a f); omega)
  have h4 := hfc (L (c f)) (by have := hle (c f); omega)
  unfold dlF
  omega
theorem mul_bound {x y p q : Int} (hp : 0 ≤ p) (hx1 : -p ≤ x) (hx2 : x ≤ p) (hy1 : -q ≤ y) (hy2 : y ≤ q) : -(p * q) ≤ x * y ∧ x * y ≤ p * q := by
  have h : (x * y).natAbs ≤ p.natAbs * q.natAbs := by
    rw [Int.natAbs_mul]
    exact Nat.mul_le_mul (by omega) (by omega)
  have e : ((p.natAbs * q.natAbs : Nat) : Int) = p * q := by
    rw [Int.natCast_mul, show ((p.natAbs : Nat) : Int) = p by omega, show ((q.natAbs : Nat) : Int) = q by omega]
  omega
theorem pu_changeC {F K f : Nat} {lh fr tt ms : Nat → Int32} {rows : Nat → Nat → Int64} {L a c : Nat → Nat} {fc : Nat → Int} (hF : F ≤ 10) (hK : K ≤ 6) (hE : Ends F fr tt a c) (hac : ∀ f, f < F → a f < K ∧ c f < K) (hL : Lr lh L) (hle : ∀ k, L k ≤ k) (hR : ∀ k, k < K → rows k 6 = oL (fc k)) (hf : f < F) : fX0_changeAbove lh rows fr tt ms (nI f) = some (oL ((ms f).toInt * dlF L a c fc f)) := by
  obtain ⟨q1, q2, -, e1, e2⟩ := hE f hf
  obtain ⟨k1, k2⟩ := hac f hf
  unfold fX0_changeAbove dlF
  rw [pu_rd (by omega) (by decide), Option.bind_some, pu_rd (by omega) (by decide), Option.bind_some, e2, pu_forceC (S := 0) (F := F) hK hL hle hR k2, Option.bind_some, pu_rd (by omega) (by decide), Option.bind_some, e1, pu_forceC (S := 0) (F := F) hK hL hle hR k1, Option.bind_some, oL_i32, oL_sub, oL_mul]
theorem pu_changeM {F R K f : Nat} {lh fr tt rd ms pr b : Nat → Int32} {fo : Nat → Int64} {L a c : Nat → Nat} {fc : Nat → Int} (hF : F ≤ 10) (hK : K ≤ 6) (hM : Mb F R fr tt b) (hX : Mx F rd ms pr b) (hE : Ends F fr tt a c) (hac : ∀ f, f < F → a f < K ∧ c f < K) (hL : Lr lh L) (hle : ∀ k, L k ≤ k) (hR : ∀ k, k < K → fo k = oL (fc k)) (hf : f < F) : fX5_changeOf b lh fo (nI f) = some (oL ((ms f).toInt * dlF L a c fc f)) := by
  obtain ⟨q1, q2, -, e1, e2⟩ := hE f hf
  obtain ⟨k1, k2⟩ := hac f hf
  obtain ⟨m0, m1, -⟩ := hM.2 f hf
  obtain ⟨m3, m4, -⟩ := hX f hf
  have l1 := hle (a f)
  have l2 := hle (c f)
  unfold fX5_changeOf dlF
  rw [pu_get (f := f) (x := 4) 4 rfl (by omega), Option.bind_some, m4, pu_get (f := f) (x := 1) 1 rfl (by omega), Option.bind_some, m1, e2, pu_rd q2 (by decide), Option.bind_some, hL _ q2, pu_rd (by omega) (by decide), Option.bind_some, hR _ (by omega), pu_get (f := f) (x := 0) 0 rfl (by omega), Option.bind_some, m0, e1, pu_rd q1 (by decide), Option.bind_some, hL _ q1, pu_rd (by omega) (by decide), Option.bind_some, hR _ (by omega), oL_i32, oL_sub, oL_mul]
/-- the test, times what is below -/
def tsF (L a c : Nat → Nat) (F : Nat) (rv fc : Nat → Int) : Int := - sm F (fun f => rv f * dlF L a c fc f)
theorem tsF_bound {L a c : Nat → Nat} {rv fc : Nat → Int} {F K : Nat} (hF : F ≤ 10) (hle : ∀ k, L k ≤ k) (hac : ∀ f, f < F → a f < K ∧ c f < K) (hrv : ∀ f, f < F → -2000 ≤ rv f ∧ rv f ≤ 2000) (hfc : ∀ k, k < K → -1565415720000 ≤ fc k ∧ fc k ≤ 1565415720000) : -62616628800000000 ≤ tsF L a c F rv fc ∧ tsF L a c F rv fc ≤ 62616628800000000 := by
  have hb : ∀ f, f < F → -(2000 * 3130831440000) ≤ rv f * dlF L a c fc f ∧ rv f * dlF L a c fc f ≤ 2000 * 3130831440000 := fun f hf => mul_bound (by decide) (hrv f hf).1 (hrv f hf).2 (dlF_bound hle hac hfc hf).1 (dlF_bound hle hac hfc hf).2
  have h1 := sm_le (f := fun f => rv f * dlF L a c fc f) (g := fun _ => 2000 * 3130831440000) F (fun f hf => (hb f hf).2)
  have h2 := sm_le (f := fun _ => -(2000 * 3130831440000)) (g := fun f => rv f * dlF L a c fc f) F (fun f hf => (hb f hf).1)
  rw [sm_const] at h1 h2
  unfold tsF
  omega
theorem sm_sF {L a c : Nat → Nat} {fc : Nat → Int} {K f : Nat} (h1 : L (a f) < K) (h2 : L (c f) < K) : sm K (fun k => fc k * sF L a c f k) = dlF L a c fc f := by
  have e : sm K (fun k => fc k * sF L a c f k) = sm K (fun k => 1 * ((if true = true ∧ k = L (c f) then 1 else 0) * fc k) + (-1) * ((if true = true ∧ k = L (a f) then 1 else 0) * fc k)) := sm_congr K (fun k _ => by
    unfold sF
    simp only [true_and]
    grind)
  rw [e, sm_lin, sm_ind, sm_ind, if_pos ⟨rfl, h2⟩, if_pos ⟨rfl, h1⟩]
  unfold dlF
  omega
theorem ts_class {L a c : Nat → Nat} {rv fc : Nat → Int} {F K : Nat} (hle : ∀ k, L k ≤ k) (hac : ∀ f, f < F → a f < K ∧ c f < K) : - sm K (fun k => fc k * sm F (fun f => rv f * sF L a c f k)) = tsF L a c F rv fc := by
  have e : sm K (fun k => fc k * sm F (fun f => rv f * sF L a c f k)) = sm F (fun f => rv f * dlF L a c fc f) := by
    rw [sm_congr K (g := fun k => sm F (fun f => rv f * (fc k * sF L a c f k))) (fun k _ => by
      rw [← sm_mul]
      exact sm_congr F (fun f _ => by grind)), sm_comm]
    refine sm_congr F (fun f hf => ?_)
    obtain ⟨h1, h2⟩ := hac f hf
    have h3 := hle (a f)
    have h4 := hle (c f)
    rw [sm_mul, sm_sF (by omega) (by omega)]
  rw [e]
  rfl
theorem pu_testC {N K F : Nat} {rows : Nat → Nat → Int64} {su : Nat → Int64} {L a c : Nat → Nat} {rv fc : Nat → Int} (hN : 5000 ≤ N) (hK : K ≤ 6) (hle : ∀ k, L k ≤ k) (hac : ∀ f, f < F → a f < K ∧ c f < K) (hR : ∀ k, k < K → rows k 6 = oL (fc k)) (hS : ∀ k, k < K → su k = oL (sm F (fun f => rv f * sF L a c f k))) : fX0_testAbove N rows su (nI K) = some (oL (tsF L a c F rv fc)) := by
  have key : ∀ (n i : Nat), i ≤ K → K - i < n → fX0_testAbove_L5 N n (nI K) (oL (- sm i (fun k => fc k * sm F (fun f => rv f * sF L a c f k)))) (nI i) rows su = some (oL (tsF L a c F rv fc)) := by
    intro n
    induction n with
    | zero => intro i h1 h2; omega
    | succ n ih =>
      intro i h1 h2
      unfold fX0_testAbove_L5
      by_cases hi : i = K
      · subst hi
        rw [if_pos (nI_le (Nat.le_refl _) (by omega)), ts_class hle hac]
      · rw [if_neg (nI_ge (by omega) (by omega)), pu_ix (by omega) (by decide), Option.bind_some, show (6 : Int32) = nI 6 from rfl, pu_rd (by decide) (by decide), Option.bind_some, pu_rd (by omega) (by decide), Option.bind_some, hR i (by omega), hS i (by omega), pu_lt, pu_lt, nI_1, oL_mul, oL_sub, ← ih (i + 1) (by omega) (by omega)]
        refine congrArg (fun z => fX0_testAbove_L5 N n (nI K) (oL z) (nI (i + 1)) rows su) ?_
        rw [sm_succ]
        omega
  unfold fX0_testAbove
  rw [show fX0_testAbove_L5 N N (nI K) 0 0 rows su = some (oL (tsF L a c F rv fc)) from key N 0 (Nat.zero_le K) (by omega), Option.bind_some]
theorem pu_testM {N F R K : Nat} {lh fr tt rd ms pr b : Nat → Int32} {fo : Nat → Int64} {L a c : Nat → Nat} {fc : Nat → Int} (hN : 5000 ≤ N) (hF : F ≤ 10) (hK : K ≤ 6) (hM : Mb F R fr tt b) (hX : Mx F rd ms pr b) (hE : Ends F fr tt a c) (hac : ∀ f, f < F → a f < K ∧ c f < K) (hL : Lr lh L) (hle : ∀ k, L k ≤ k) (hc : ∀ f, f < F → R.testBit f = false → L (a f) = L (c f)) (hR : ∀ k, k < K → fo k = oL (fc k)) : fX5_testOf N b lh fo = some (oL (tsF L a c F (fun f => (rd f).toInt) fc)) := by
  have key : ∀ (n i : Nat), i ≤ F → F - i < n → fX5_testOf_L4 N n (oL (- sm i (fun f => (rd f).toInt * dlF L a c fc f))) (nI i) b lh fo = some (oL (tsF L a c F (fun f => (rd f).toInt) fc)) := by
    intro n
    induction n with
    | zero => intro i h1 h2; omega
    | succ n ih =>
      intro i h1 h2
      unfold fX5_testOf_L4
      rw [pu_flows, hM.1, Option.bind_some]
      by_cases hi : i = F
      · subst hi
        rw [if_pos (nI_le (Nat.le_refl _) (by omega))]
        rfl
      · have hlt : i < F := by omega
        obtain ⟨q1, q2, -, e1, e2⟩ := hE i hlt
        obtain ⟨k1, k2⟩ := hac i hlt
        obtain ⟨m0, m1, -⟩ := hM.2 i hlt
        obtain ⟨m3, m4, -⟩ := hX i hlt
        have l1 := hle (a i)
        have l2 := hle (c i)
        have ih' := ih (i + 1) (by omega) (by omega)
        rw [if_neg (nI_ge hlt (by omega)), pu_isRead hF hM hlt, Option.bind_some]
        by_cases hb : R.testBit i = true
        · rw [if_pos hb, if_neg (show ¬ (1 : Int32) = 0 by decide), pu_get (f := i) (x := 3) 3 rfl (by omega), Option.bind_some, m3, pu_get (f := i) (x := 1) 1 rfl (by omega), Option.bind_some, m1, e2, pu_rd q2 (by decide), Option.bind_some, hL _ q2, pu_rd (by omega) (by decide), Option.bind_some, hR _ (by omega), pu_get (f := i) (x := 0) 0 rfl (by omega), Option.bind_some, m0, e1, pu_rd q1 (by decide), Option.bind_some, hL _ q1, pu_rd (by omega) (by decide), Option.bind_some, hR _ (by omega), pu_lt, pu_lt, nI_1, oL_i32, oL_sub, oL_mul, oL_sub, ← ih']
          refine congrArg (fun z => fX5_testOf_L4 N n (oL z) (nI (i + 1)) b lh fo) ?_
          rw [sm_succ]
          unfold dlF
          omega
        · have hz : dlF L a c fc i = 0 := by
            unfold dlF
            rw [hc i hlt (by simpa using hb)]
            omega
          rw [sm_succ, hz, Int.mul_zero, Int.add_zero] at ih'
          rw [if_neg hb, if_pos rfl, pu_lt, nI_1]
          exact ih'
  unfold fX5_testOf
  rw [show fX5_testOf_L4 N N 0 0 b lh fo = some (oL (tsF L a c F (fun f => (rd f).toInt) fc)) from key N 0 (Nat.zero_le F) (by omega), Option.bind_some]

set_option maxHeartbeats 4000000 in
theorem ps_change {N : Nat} (hN : 5000 ≤ N) : ob_change N yInv := by
  intro kn fl rs fr tt rd ms pr kd ln sh nx ct kK fK rK frK ttK rdK msK prK kdK lnK shK s_x_groups_least s_x_fit_unread s_x_fit_below s_x_fit_heaps_least s_x_fit_pieces_least s_x_fit_sides_least s_x_fit_rows s_x_fit_surplus s_x_away s_x_testAbove s_x_testBelow mn s_m_below s_m_above1 s_m_below1 nw bf s_m_heapOf s_m_partOf s_m_place s_m_matrix s_m_right s_m_force s_m_work s_m_side s_m_far s_m_fallAbove s_m_fallBelow s_m_ranks s_m_was hI x1 x2
  obtain ⟨⟨K, F, R, hW⟩, hP⟩ := id hI
  have hK := hW.2.1
  have hF := hW.2.2.1
  have hR := hW.2.2.2.1
  have hkn : kn = nI K := hW.2.2.2.2.1
  have hfl : fl = nI F := hW.2.2.2.2.2.1
  have hrs : rs = nI R := hW.2.2.2.2.2.2.1
  have hb0 := hW.2.2.2.2.2.2.2.1
  have hb := hW.2.2.2.2.2.2.2.2.1
  subst hkn
  subst hfl
  subst hrs
  rcases pu_flow hF hb x1 with ⟨f, hf, rfl, c1, c2⟩ | ⟨c1, c2⟩
  · rcases pu_what x2 with ⟨w1, w2, w3⟩ | ⟨w1, w2⟩
    · by_cases hbit : R.testBit f = true
      · obtain ⟨lh, lp, rw', su, e1, p1, p2, p3⟩ := pu_solve (un := s_x_fit_unread) (b0 := s_x_fit_below) (lh := s_x_fit_heaps_least) (lp := s_x_fit_pieces_least) (rows := s_x_fit_rows) (sur := s_x_fit_surplus) hN hF (unr_1024 (R := R) hF) hK hW.ends hW.endK hW.mvr hW.rvr
        obtain ⟨mh, mp, ml, mm, mr, mf, mw, e2, q1, q2⟩ := pu_solves (b0 := s_m_below) (lh := s_m_heapOf) (lp := s_m_partOf) (pl := s_m_place) (mat := s_m_matrix) (right := s_m_right) (fo := s_m_force) (w := s_m_work) hN hF hK hb0 hW.mb hW.mx hW.ends hW.endK
        obtain ⟨b1, b2⟩ := blF_pos (S := unr F R) (a := eA fr) (c := eA tt) hK hF hW.mvr hW.rvr
        have hdl := dlF_bound (fc := (fcF (unr F R) F K (eA fr) (eA tt) (fun f => (ms f).toInt) (fun f => (rd f).toInt))) (gat_le (unr F R).testBit (eA fr) (eA tt) F) hW.endK (fun k hk => fcF_bound (S := unr F R) (a := eA fr) (c := eA tt) hK hF hW.mvr hW.rvr hk) hf
        have hmb := mul_bound (p := 4) (by decide) (by have := (hW.mvr f hf).1; omega) (hW.mvr f hf).2 hdl.1 hdl.2
        obtain ⟨t1, t2⟩ := pu_terms hN (x := (ms f).toInt * dlF (gat (unr F R).testBit (eA fr) (eA tt) F) (eA fr) (eA tt) (fcF (unr F R) F K (eA fr) (eA tt) (fun f => (ms f).toInt) (fun f => (rd f).toInt)) f) (y := (blF (unr F R) F K (eA fr) (eA tt) (fun f => (ms f).toInt) (fun f => (rd f).toInt))) (w := x2) (by omega) (by omega) b1 (by omega) w3
        refine ⟨lt2 ((ms f).toInt * dlF (gat (unr F R).testBit (eA fr) (eA tt) F) (eA fr) (eA tt) (fcF (unr F R) F K (eA fr) (eA tt) (fun f => (ms f).toInt) (fun f => (rd f).toInt)) f) (blF (unr F R) F K (eA fr) (eA tt) (fun f => (ms f).toInt) (fun f => (rd f).toInt)) x2, nI (unr F R), oL (blF (unr F R) F K (eA fr) (eA tt) (fun f => (ms f).toInt) (fun f => (rd f).toInt)), lh, lp, rw', su, oL (blF (unr F R) F K (eA fr) (eA tt) (fun f => (ms f).toInt) (fun f => (rd f).toInt)), mh, mp, ml, mm, mr, mf, mw, ?_, ?_, hI⟩
        · unfold fX4_change
          rw [c1, Option.bind_some, if_neg (show ¬ (1 : Int32) = 0 by decide), w1, Option.bind_some, if_neg (show ¬ (1 : Int32) = 0 by decide), pu_holds (pu_1024 hR hF) (by omega), Option.bind_some, if_pos hbit, if_neg (show ¬ (1 : Int32) = 0 by decide), pu_unread hF, Option.bind_some, e1, Option.bind_some]
          dsimp only
          rw [pu_changeC hF hK hW.ends hW.endK p1 (gat_le _ _ _ _) p2 hf, Option.bind_some, t1, Option.bind_some]
        · unfold fX5_change
          rw [c2, Option.bind_some, if_neg (show ¬ (1 : Int32) = 0 by decide), pu_isRead hF hW.mb hf, Option.bind_some, if_pos hbit, if_neg (show ¬ (1 : Int32) = 0 by decide), w2, Option.bind_some, if_neg (show ¬ (1 : Int32) = 0 by decide), e2, Option.bind_some]
          dsimp only
          rw [pu_changeM hF hK hW.mb hW.mx hW.ends hW.endK q1 (gat_le _ _ _ _) q2 hf, Option.bind_some, t2, Option.bind_some]
      · refine ⟨-1, s_x_fit_unread, s_x_fit_below, s_x_fit_heaps_least, s_x_fit_pieces_least, s_x_fit_rows, s_x_fit_surplus, s_m_below, s_m_heapOf, s_m_partOf, s_m_place, s_m_matrix, s_m_right, s_m_force, s_m_work, ?_, ?_, hI⟩
        · unfold fX4_change
          rw [c1, Option.bind_some, if_neg (show ¬ (1 : Int32) = 0 by decide), w1, Option.bind_some, if_neg (show ¬ (1 : Int32) = 0 by decide), pu_holds (pu_1024 hR hF) (by omega), Option.bind_some, if_neg hbit, if_pos rfl]
        · unfold fX5_change
          rw [c2, Option.bind_some, if_neg (show ¬ (1 : Int32) = 0 by decide), pu_isRead hF hW.mb hf, Option.bind_some, if_neg hbit, if_pos rfl]
    · refine ⟨-1, s_x_fit_unread, s_x_fit_below, s_x_fit_heaps_least, s_x_fit_pieces_least, s_x_fit_rows, s_x_fit_surplus, s_m_below, s_m_heapOf, s_m_partOf, s_m_place, s_m_matrix, s_m_right, s_m_force, s_m_work, ?_, ?_, hI⟩
      · unfold fX4_change
        rw [c1, Option.bind_some, if_neg (show ¬ (1 : Int32) = 0 by decide), w1, Option.bind_some, if_pos rfl]
      · unfold fX5_change
        rw [c2, Option.bind_some, if_neg (show ¬ (1 : Int32) = 0 by decide), pu_isRead hF hW.mb hf, Option.bind_some]
        by_cases hbit : R.testBit f = true
        · rw [if_pos hbit, if_neg (show ¬ (1 : Int32) = 0 by decide), w2, Option.bind_some, if_pos rfl]
        · rw [if_neg hbit, if_pos rfl]
  · refine ⟨-1, s_x_fit_unread, s_x_fit_below, s_x_fit_heaps_least, s_x_fit_pieces_least, s_x_fit_rows, s_x_fit_surplus, s_m_below, s_m_heapOf, s_m_partOf, s_m_place, s_m_matrix, s_m_right, s_m_force, s_m_work, ?_, ?_, hI⟩
    · unfold fX4_change
      rw [c1, Option.bind_some, if_pos rfl]
    · unfold fX5_change
      rw [c2, Option.bind_some, if_pos rfl]

set_option maxHeartbeats 4000000 in
theorem ps_test {N : Nat} (hN : 5000 ≤ N) : ob_test N yInv := by
  intro kn fl rs fr tt rd ms pr kd ln sh nx ct kK fK rK frK ttK rdK msK prK kdK lnK shK s_x_groups_least s_x_fit_unread s_x_fit_below s_x_fit_heaps_least s_x_fit_pieces_least s_x_fit_sides_least s_x_fit_rows s_x_fit_surplus s_x_away s_x_testAbove s_x_testBelow mn s_m_below s_m_above1 s_m_below1 nw bf s_m_heapOf s_m_partOf s_m_place s_m_matrix s_m_right s_m_force s_m_work s_m_side s_m_far s_m_fallAbove s_m_fallBelow s_m_ranks s_m_was hI x1
  obtain ⟨⟨K, F, R, hW⟩, hP⟩ := id hI
  have hK := hW.2.1
  have hF := hW.2.2.1
  have hR := hW.2.2.2.1
  have hkn : kn = nI K := hW.2.2.2.2.1
  have hfl : fl = nI F := hW.2.2.2.2.2.1
  have hrs : rs = nI R := hW.2.2.2.2.2.2.1
  have hb0 := hW.2.2.2.2.2.2.2.1
  have hb := hW.2.2.2.2.2.2.2.2.1
  subst hkn
  subst hfl
  subst hrs
  rcases pu_what x1 with ⟨w1, w2, w3⟩ | ⟨w1, w2⟩
  · obtain ⟨lh, lp, rw', su, e1, p1, p2, p3⟩ := pu_solve (un := s_x_fit_unread) (b0 := s_x_fit_below) (lh := s_x_fit_heaps_least) (lp := s_x_fit_pieces_least) (rows := s_x_fit_rows) (sur := s_x_fit_surplus) hN hF (unr_1024 (R := R) hF) hK hW.ends hW.endK hW.mvr hW.rvr
    obtain ⟨mh, mp, ml, mm, mr, mf, mw, e2, q1, q2⟩ := pu_solves (b0 := s_m_below) (lh := s_m_heapOf) (lp := s_m_partOf) (pl := s_m_place) (mat := s_m_matrix) (right := s_m_right) (fo := s_m_force) (w := s_m_work) hN hF hK hb0 hW.mb hW.mx hW.ends hW.endK
    obtain ⟨b1, b2⟩ := blF_pos (S := unr F R) (a := eA fr) (c := eA tt) hK hF hW.mvr hW.rvr
    have htb := tsF_bound (rv := (fun f => (rd f).toInt)) (fc := (fcF (unr F R) F K (eA fr) (eA tt) (fun f => (ms f).toInt) (fun f => (rd f).toInt))) hF (gat_le (unr F R).testBit (eA fr) (eA tt) F) hW.endK hW.rvr (fun k hk => fcF_bound (S := unr F R) (a := eA fr) (c := eA tt) hK hF hW.mvr hW.rvr hk)
    obtain ⟨t1, t2⟩ := pu_terms hN (x := tsF (gat (unr F R).testBit (eA fr) (eA tt) F) (eA fr) (eA tt) F (fun f => (rd f).toInt) (fcF (unr F R) F K (eA fr) (eA tt) (fun f => (ms f).toInt) (fun f => (rd f).toInt))) (y := (blF (unr F R) F K (eA fr) (eA tt) (fun f => (ms f).toInt) (fun f => (rd f).toInt))) (w := x1) (by omega) (by omega) b1 (by omega) w3
    refine ⟨lt2 (tsF (gat (unr F R).testBit (eA fr) (eA tt) F) (eA fr) (eA tt) F (fun f => (rd f).toInt) (fcF (unr F R) F K (eA fr) (eA tt) (fun f => (ms f).toInt) (fun f => (rd f).toInt))) (blF (unr F R) F K (eA fr) (eA tt) (fun f => (ms f).toInt) (fun f => (rd f).toInt)) x1, nI (unr F R), oL (blF (unr F R) F K (eA fr) (eA tt) (fun f => (ms f).toInt) (fun f => (rd f).toInt)), lh, lp, rw', su, oL (blF (unr F R) F K (eA fr) (eA tt) (fun f => (ms f).toInt) (fun f => (rd f).toInt)), mh, mp, ml, mm, mr, mf, mw, ?_, ?_, hI⟩
    · unfold fX4_test
      rw [w1, Option.bind_some, if_neg (show ¬ (1 : Int32) = 0 by decide), pu_unread hF, Option.bind_some, e1, Option.bind_some]
      dsimp only
      rw [pu_testC hN hK (gat_le _ _ _ _) hW.endK p2 p3, Option.bind_some, t1, Option.bind_some]
    · unfold fX5_test
      rw [w2, Option.bind_some, if_neg (show ¬ (1 : Int32) = 0 by decide), e2, Option.bind_some]
      dsimp only
      rw [pu_testM hN hF hK hW.mb hW.mx hW.ends hW.endK q1 (gat_le _ _ _ _) (fun f hf hb => gat_conn _ _ _ F f hf (by rw [unr_P hF hf, hb]; rfl)) q2, Option.bind_some, t2, Option.bind_some]
  · refine ⟨-1, s_x_fit_unread, s_x_fit_below, s_x_fit_heaps_least, s_x_fit_pieces_least, s_x_fit_rows, s_x_fit_surplus, s_m_below, s_m_heapOf, s_m_partOf, s_m_place, s_m_matrix, s_m_right, s_m_force, s_m_work, ?_, ?_, hI⟩
    · unfold fX4_test
      rw [w1, Option.bind_some, if_pos rfl]
    · unfold fX5_test
      rw [w2, Option.bind_some, if_pos rfl]
