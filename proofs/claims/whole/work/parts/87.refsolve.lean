/-! ===== the reference's fit ===== -/
theorem wF_dS {hr : Nat → Bool} {L a c : Nat → Nat} {f p : Nat} : wF hr L a c f p = dS hr (L (a f)) p - dS hr (L (c f)) p := rfl
theorem pu_so244 {N F R K : Nat} {y1 : Int32} {fr tt rd ms pr b lh pl : Nat → Int32} {L a c : Nat → Nat} {hr : Nat → Bool} (hF : F ≤ 10) (hK : K ≤ 6) (hM : Mb F R fr tt b) (hX : Mx F rd ms pr b) (hE : Ends F fr tt a c) (hac : ∀ f, f < F → a f < K ∧ c f < K) (hL : Lr lh L) (h1 : ∀ k, L k ≤ k) (hc : ∀ f, f < F → R.testBit f = false → L (a f) = L (c f)) (hpl : ∀ k, k < K → pl k = plv hr k) : ∀ (n i : Nat) (mat right : Nat → Int64), i ≤ F → F - i < n → (∀ p q, p < 6 → q < 6 → mat (6 * p + q) = oL (sm i (fun f => (ms f).toInt * (wF hr L a c f p * wF hr L a c f q)))) → (∀ p, p < 6 → right p = oL (sm i (fun f => (rd f).toInt * wF hr L a c f p))) → ∃ mat' right', fX5_solves_L244 N n y1 (nI i) b lh pl mat right = some (mat', right') ∧ (∀ p q, p < 6 → q < 6 → mat' (6 * p + q) = oL (sm F (fun f => (ms f).toInt * (wF hr L a c f p * wF hr L a c f q)))) ∧ ∀ p, p < 6 → right' p = oL (sm F (fun f => (rd f).toInt * wF hr L a c f p)) := by
  intro n
  induction n with
  | zero => intro i mat right g1 g2; omega
  | succ n ih =>
    intro i mat right g1 g2 hmat hright
    unfold fX5_solves_L244
    rw [pu_flows, hM.1, Option.bind_some]
    by_cases hi : i = F
    · subst hi
      rw [if_pos (nI_le (Nat.le_refl _) (by omega))]
      exact ⟨mat, right, rfl, hmat, hright⟩
    · have hlt : i < F := by omega
      obtain ⟨q1, q2, -, e1, e2⟩ := hE i hlt
      obtain ⟨k1, k2⟩ := hac i hlt
      obtain ⟨m0, m1, -⟩ := hM.2 i hlt
      obtain ⟨m3, m4, -⟩ := hX i hlt
      have l1 := h1 (a i)
      have l2 := h1 (c i)
      rw [if_neg (nI_ge hlt (by omega)), pu_get (f := i) (x := 0) 0 rfl (by omega), Option.bind_some, m0, e1, pu_rd q1 (by decide), Option.bind_some, pu_get (f := i) (x := 1) 1 rfl (by omega), Option.bind_some, m1, e2, pu_rd q2 (by decide), Option.bind_some, hL _ q1, hL _ q2, pu_isRead hF hM hlt, Option.bind_some]
      have hskip : L (a i) = L (c i) → ∃ mat' right', fX5_solves_L244 N n y1 (nI (i + 1)) b lh pl mat right = some (mat', right') ∧ (∀ p q, p < 6 → q < 6 → mat' (6 * p + q) = oL (sm F (fun f => (ms f).toInt * (wF hr L a c f p * wF hr L a c f q)))) ∧ ∀ p, p < 6 → right' p = oL (sm F (fun f => (rd f).toInt * wF hr L a c f p)) := fun hq => ih (i + 1) mat right (by omega) (by omega) (fun p q hp hq2 => by
          rw [sm_succ, wF_same hq, Int.zero_mul, Int.mul_zero, Int.add_zero]
          exact hmat p q hp hq2) (fun p hp => by
          rw [sm_succ, wF_same hq, Int.mul_zero, Int.add_zero]
          exact hright p hp)
      by_cases hb : R.testBit i = true
      · rw [if_pos hb, if_neg (show ¬ (1 : Int32) = 0 by decide)]
        by_cases hq : L (a i) = L (c i)
        · rw [if_pos (by rw [hq]), pu_lt, nI_1]
          exact hskip hq
        · have hla : hr (L (a i)) = true → plc hr (L (a i)) < 6 := fun _ => by
            have := plc_bd (hr := hr) (L (a i))
            omega
          have hlc : hr (L (c i)) = true → plc hr (L (c i)) < 6 := fun _ => by
            have := plc_bd (hr := hr) (L (c i))
            omega
          obtain ⟨mat1, z1, z2⟩ := pu_puts (hr := hr) (mat := mat) (s := L (a i)) (g := L (c i)) (ms := ms i) hla hlc (fun u v w => hq (plc_inj u v w))
          obtain ⟨mat2, z3, z4⟩ := pu_puts (hr := hr) (mat := mat1) (s := L (c i)) (g := L (a i)) (ms := ms i) hlc hla (fun u v w => hq (plc_inj v u w.symm))
          rw [if_neg (fun q => hq ((nI_eq (by omega) (by omega)).mp q)), pu_rd (by omega) (by decide), Option.bind_some, pu_rd (by omega) (by decide), Option.bind_some, hpl _ (by omega), hpl _ (by omega), pu_get (f := i) (x := 4) 4 rfl (by omega), Option.bind_some, m4, z1, Option.bind_some, Option.bind_some, Option.bind_some, Option.bind_some, z3, Option.bind_some, Option.bind_some, pu_get (f := i) (x := 3) 3 rfl (by omega), m3]
          have hm2 : ∀ p q, p < 6 → q < 6 → mat2 (6 * p + q) = oL (sm (i + 1) (fun f => (ms f).toInt * (wF hr L a c f p * wF hr L a c f q))) := fun p q hp hq2 => by
            rw [z4 p q hp hq2, z2 p q hp hq2, hmat p q hp hq2, oL_add, oL_add, sm_succ, wF_dS, wF_dS]
            refine congrArg oL ?_
            grind
          have hfin : ∀ right' : Nat → Int64, (∀ p, p < 6 → right' p = right p + oL ((rd i).toInt * (dS hr (L (a i)) p - dS hr (L (c i)) p))) → ∃ mat' right'', fX5_solves_L244 N n y1 (nI (i + 1)) b lh pl mat2 right' = some (mat', right'') ∧ (∀ p q, p < 6 → q < 6 → mat' (6 * p + q) = oL (sm F (fun f => (ms f).toInt * (wF hr L a c f p * wF hr L a c f q)))) ∧ ∀ p, p < 6 → right'' p = oL (sm F (fun f => (rd f).toInt * wF hr L a c f p)) := fun right' hr' => ih (i + 1) mat2 right' (by omega) (by omega) hm2 (fun p hp => by
            rw [hr' p hp, hright p hp, oL_add, sm_succ, wF_dS])
          have zz : ∀ v : Int64, v + oL 0 = v := fun v => Int64.add_zero v
          have hmm : ∀ v : Int64, v - oL (rd i).toInt = v + oL (- (rd i).toInt) := fun v => by rw [← oL_neg, Int64.sub_eq_add_neg]
          by_cases b2 : hr (L (c i)) = true
          · have e3 : plv hr (L (c i)) = nI (plc hr (L (c i))) := if_pos b2
            have hlc' := hlc b2
            rw [e3, if_neg (fun q => pu_m1 (v := plc hr (L (c i))) (by omega) q.symm), Option.bind_some, pu_rd hlc' (by decide), Option.bind_some, Option.bind_some, pu_wr hlc' (by decide), Option.bind_some, Option.bind_some, oL_i32]
            by_cases b1 : hr (L (a i)) = true
            · have e4 : plv hr (L (a i)) = nI (plc hr (L (a i))) := if_pos b1
              have hla' := hla b1
              have hne : plc hr (L (a i)) ≠ plc hr (L (c i)) := fun q => hq (plc_inj b1 b2 q)
              have hne2 : plc hr (L (c i)) ≠ plc hr (L (a i)) := fun q => hne q.symm
              rw [e4, if_neg (fun q => pu_m1 (v := plc hr (L (a i))) (by omega) q.symm), Option.bind_some, pu_rd hla' (by decide), Option.bind_some, Option.bind_some, pu_wr hla' (by decide), Option.bind_some, pu_lt, nI_1]
              refine hfin _ (fun p hp => ?_)
              unfold dS
              simp only [b1, b2, true_and]
              by_cases p1 : p = plc hr (L (a i))
              · rw [p1, ya_up_eq, ya_up_ne hne]
                simp [hne, oL_i32]
              · rw [ya_up_ne p1]
                by_cases p2 : p = plc hr (L (c i))
                · rw [p2, ya_up_eq, hmm]
                  simp [hne2]
                · rw [ya_up_ne p2]
                  simp [p1, p2, zz]
            · have e4 : plv hr (L (a i)) = -1 := if_neg b1
              rw [e4, if_pos rfl, pu_lt, nI_1]
              refine hfin _ (fun p hp => ?_)
              unfold dS
              simp only [b1, b2, true_and, false_and]
              by_cases p2 : p = plc hr (L (c i))
              · rw [p2, ya_up_eq, hmm]
                simp
              · rw [ya_up_ne p2]
                simp [p2, zz]
          · have e3 : plv hr (L (c i)) = -1 := if_neg b2
            rw [e3, if_pos rfl, Option.bind_some]
            by_cases b1 : hr (L (a i)) = true
            · have e4 : plv hr (L (a i)) = nI (plc hr (L (a i))) := if_pos b1
              have hla' := hla b1
              rw [e4, if_neg (fun q => pu_m1 (v := plc hr (L (a i))) (by omega) q.symm), Option.bind_some, pu_rd hla' (by decide), Option.bind_some, Option.bind_some, pu_wr hla' (by decide), Option.bind_some, pu_lt, nI_1, oL_i32]
              refine hfin _ (fun p hp => ?_)
              unfold dS
              simp only [b1, b2, true_and, false_and]
              by_cases p1 : p = plc hr (L (a i))
              · rw [p1, ya_up_eq]
                simp
              · rw [ya_up_ne p1]
                simp [p1, zz]
            · have e4 : plv hr (L (a i)) = -1 := if_neg b1
              rw [e4, if_pos rfl, pu_lt, nI_1]
              refine hfin _ (fun p hp => ?_)
              unfold dS
              simp [b1, b2, zz]
      · rw [if_neg hb, if_pos rfl, pu_lt, nI_1]
        exact hskip (hc i hlt (by simpa using hb))
theorem pu_so412 {N : Nat} {y1 : Int32} {mat : Nat → Int64} : ∀ (n i : Nat) (w : Nat → Int64), i ≤ 36 → 36 - i < n → (∀ k, k < i → w k = mat k) → ∃ w', fX5_solves_L412 N n y1 (nI i) mat w = some w' ∧ ∀ k, k < 36 → w' k = mat k := by
  intro n
  induction n with
  | zero => intro i m h1 h2; omega
  | succ n ih =>
    intro i m h1 h2 h3
    unfold fX5_solves_L412
    by_cases h : i = 36
    · subst h
      rw [if_pos (show (36 : Int32) ≤ nI 36 from nI_le (a := 36) (Nat.le_refl _) (by decide))]
      exact ⟨m, rfl, h3⟩
    · rw [if_neg (show ¬ (36 : Int32) ≤ nI i from nI_ge (b := 36) (by omega) (by decide)), pu_rd (by omega) (by decide), Option.bind_some, pu_wr (by omega) (by decide), Option.bind_some, pu_lt, nI_1]
      refine ih (i + 1) _ (by omega) (by omega) (fun k hk => ?_)
      by_cases q : k = i
      · subst q
        rw [ya_up_eq]
      · rw [ya_up_ne q]
        exact h3 k (by omega)
theorem pu_so486 {N nn k r t : Nat} {pl : Nat → Int32} {mat right : Nat → Int64} {A : Nat → Nat → Int} (hnn : nn ≤ 5) (hk : k < 6) (ht : t < 6) (hr : r < nn) (hpl : pl k = nI t) (hmat : ∀ p q, p < 6 → q < 6 → mat (6 * p + q) = oL (A p q)) (hright : ∀ p, p < 6 → right p = oL (A p 6)) : ∀ (n j : Nat) (w : Nat → Int64), j ≤ nn → nn - j < n → ∃ w', fX5_solves_L486 N n (nI nn) (nI k) (nI r) (nI j) pl mat right w = some w' ∧ (∀ q, j ≤ q → q < nn → w' (6 * r + q) = oL (cr A t (fun i => A i 6) r q)) ∧ ∀ x, (x < 6 * r + j ∨ 6 * r + nn ≤ x) → w' x = w x := by
  intro n
  induction n with
  | zero => intro j w h1 h2; omega
  | succ n ih =>
    intro j w h1 h2
    unfold fX5_solves_L486
    by_cases hj : j = nn
    · subst hj
      rw [if_pos (nI_le (Nat.le_refl _) (by omega))]
      exact ⟨w, rfl, fun q q1 q2 => by omega, fun _ _ => rfl⟩
    · rw [if_neg (nI_ge (by omega) (by omega)), pu_rd hk (by decide), Option.bind_some, hpl]
      have hfin : ∀ v : Int64, v = oL (cr A t (fun i => A i 6) r j) → ∃ w', fX5_solves_L486 N n (nI nn) (nI k) (nI r) (nI (j + 1)) pl mat right (ya_up w (6 * r + j) v) = some w' ∧ (∀ q, j ≤ q → q < nn → w' (6 * r + q) = oL (cr A t (fun i => A i 6) r q)) ∧ ∀ x, (x < 6 * r + j ∨ 6 * r + nn ≤ x) → w' x = w x := by
        intro v hv
        obtain ⟨w', e, u1, u2⟩ := ih (j + 1) (ya_up w (6 * r + j) v) (by omega) (by omega)
        refine ⟨w', e, fun q q1 q2 => ?_, fun x hx => ?_⟩
        · by_cases eq : q = j
          · subst eq
            rw [u2 _ (by omega), ya_up_eq, hv]
          · exact u1 q (by omega) q2
        · rw [u2 x (by omega), ya_up_ne (by omega)]
      by_cases hjt : j = t
      · rw [if_pos (by rw [hjt]), pu_rd (by omega) (by decide), Option.bind_some, show (6 * nI r) + nI j = nI (6 * r + j) from by rw [show (6 : Int32) = nI 6 from rfl, pk_mul, nI_add], pu_wr (by omega) (by decide), Option.bind_some, pu_lt, nI_1]
        exact hfin _ (by rw [hjt, cr_eq, hright r (by omega)])
      · rw [if_neg (fun q => hjt ((nI_eq (by omega) (by omega)).mp q)), show (6 * nI r) + nI j = nI (6 * r + j) from by rw [show (6 : Int32) = nI 6 from rfl, pk_mul, nI_add], pu_rd (by omega) (by decide), Option.bind_some, pu_wr (by omega) (by decide), Option.bind_some, pu_lt, nI_1]
        exact hfin _ (by rw [cr_ne hjt, hmat r j (by omega) (by omega)])
theorem pu_so478 {N nn k t : Nat} {pl : Nat → Int32} {mat right : Nat → Int64} {A : Nat → Nat → Int} (hN : 5000 ≤ N) (hnn : nn ≤ 5) (hk : k < 6) (ht : t < 6) (hpl : pl k = nI t) (hmat : ∀ p q, p < 6 → q < 6 → mat (6 * p + q) = oL (A p q)) (hright : ∀ p, p < 6 → right p = oL (A p 6)) : ∀ (n i : Nat) (w : Nat → Int64), i ≤ nn → nn - i < n → (∀ p q, p < i → q < nn → w (6 * p + q) = oL (cr A t (fun i => A i 6) p q)) → ∃ w', fX5_solves_L478 N n (nI nn) (nI k) (nI i) pl mat right w = some w' ∧ ∀ p q, p < nn → q < nn → w' (6 * p + q) = oL (cr A t (fun i => A i 6) p q) := by
  intro n
  induction n with
  | zero => intro i w h1 h2; omega
  | succ n ih =>
    intro i w h1 h2 hw
    unfold fX5_solves_L478
    by_cases hi : i = nn
    · subst hi
      rw [if_pos (nI_le (Nat.le_refl _) (by omega))]
      exact ⟨w, rfl, hw⟩
    · obtain ⟨w1, e, u1, u2⟩ := pu_so486 (N := N) (r := i) hnn hk ht (by omega) hpl hmat hright N 0 w (Nat.zero_le _) (by omega)
      rw [if_neg (nI_ge (by omega) (by omega)), show (0 : Int32) = nI 0 from rfl, e, Option.bind_some, pu_lt, nI_1]
      refine ih (i + 1) w1 (by omega) (by omega) (fun p q hp hq => ?_)
      by_cases ep : p = i
      · subst ep
        exact u1 q (Nat.zero_le q) hq
      · rw [u2 _ (by omega)]
        exact hw p q (by omega) hq
theorem pu_so448 {N K nn : Nat} {b pl : Nat → Int32} {mat right : Nat → Int64} {A : Nat → Nat → Int} {hr : Nat → Bool} (hN : 5000 ≤ N) (hK : K ≤ 6) (hnn : nn ≤ 5) (hb0 : b 0 = nI K) (hpl : ∀ k, k < K → pl k = plv hr k) (hmat : ∀ p q, p < 6 → q < 6 → mat (6 * p + q) = oL (A p q)) (hright : ∀ p, p < 6 → right p = oL (A p 6)) : ∀ (n i : Nat) (fo w : Nat → Int64), i ≤ K → K - i < n → (∀ k, k < i → fo k = oL (if hr k then Em A nn (plc hr k) 6 else 0)) → ∃ fo' w', fX5_solves_L448 N n (nI nn) (nI i) b pl mat right fo w = some (fo', w') ∧ ∀ k, k < K → fo' k = oL (if hr k then Em A nn (plc hr k) 6 else 0) := by
  intro n
  induction n with
  | zero => intro i fo w h1 h2; omega
  | succ n ih =>
    intro i fo w h1 h2 hfo
    unfold fX5_solves_L448
    rw [pu_knots, hb0, Option.bind_some]
    by_cases hi : i = K
    · subst hi
      rw [if_pos (nI_le (Nat.le_refl _) (by omega))]
      exact ⟨fo, w, rfl, hfo⟩
    · have hlt : i < K := by omega
      rw [if_neg (nI_ge hlt (by omega)), pu_wr (by omega) (by decide), Option.bind_some, pu_rd (by omega) (by decide), Option.bind_some]
      by_cases b1 : hr i = true
      · have e4 : pl i = nI (plc hr i) := (hpl i hlt).trans (if_pos b1)
        have hb := plc_bd (hr := hr) i
        obtain ⟨w1, e1, u1⟩ := pu_so478 (N := N) (k := i) (t := plc hr i) hN hnn (by omega) (by omega) e4 hmat hright N 0 w (Nat.zero_le _) (by omega) (fun p q hp => absurd hp (Nat.not_lt_zero p))
        obtain ⟨w2, e2, -⟩ := pu_det hN nn 0 7 w1 (cr A (plc hr i) (fun i => A i 6)) (by omega) (by omega) (fun p q hp hq => by
          rw [Nat.mul_zero, Nat.zero_add]
          exact u1 p q hp hq)
        rw [e4, if_neg (fun q => pu_m1 (v := plc hr i) (by omega) q.symm), show (0 : Int32) = nI 0 from rfl, e1, Option.bind_some, e2, Option.bind_some]
        dsimp only
        rw [pu_wr (by omega) (by decide), Option.bind_some, pu_lt, nI_1]
        refine ih (i + 1) _ w2 (by omega) (by omega) (fun k hk => ?_)
        by_cases ek : k = i
        · subst ek
          rw [ya_up_eq, if_pos b1]
          rfl
        · rw [ya_up_ne ek, ya_up_ne ek]
          exact hfo k (by omega)
      · have e4 : pl i = -1 := (hpl i hlt).trans (if_neg b1)
        rw [e4, if_pos rfl, pu_lt, nI_1]
        refine ih (i + 1) _ w (by omega) (by omega) (fun k hk => ?_)
        by_cases ek : k = i
        · subst ek
          rw [ya_up_eq, if_neg b1]
          rfl
        · rw [ya_up_ne ek]
          exact hfo k (by omega)
theorem pu_solves {N F R K : Nat} {b0 : Int64} {fr tt rd ms pr b lh lp pl : Nat → Int32} {mat right fo w : Nat → Int64} {a c : Nat → Nat} (hN : 5000 ≤ N) (hF : F ≤ 10) (hK : K ≤ 6) (hb0 : b 0 = nI K) (hM : Mb F R fr tt b) (hX : Mx F rd ms pr b) (hE : Ends F fr tt a c) (hac : ∀ f, f < F → a f < K ∧ c f < K) : ∃ (lh' lp' pl' : Nat → Int32) (mat' right' fo' w' : Nat → Int64), fX5_solves N b0 b lh lp pl mat right fo w = some (oL (blF (unr F R) F K a c (fun f => (ms f).toInt) (fun f => (rd f).toInt)), lh', lp', pl', mat', right', fo', w') ∧ Lr lh' (gat (unr F R).testBit a c F) ∧ ∀ k, k < K → fo' k = oL (fcF (unr F R) F K a c (fun f => (ms f).toInt) (fun f => (rd f).toInt) k) := by
  obtain ⟨lh', e1, h1⟩ := pu_heaps (l := lh) hN hF hM hE (P := (unr F R).testBit) (fun f hf => unr_P hF hf)
  obtain ⟨lp1, lp2, e2, e3, h2⟩ := pu_pieces (lp := lp) (Q := Nat.testBit (2 ^ F - 1)) hN hF hM hE h1 (fun f hf => allSet_bit hf)
  obtain ⟨pl', e4, h3⟩ := pu_so146 (N := N) hK hb0 h1 h2 (gat_le _ a c F) (gat_le _ a c F) N 0 pl (Nat.zero_le K) (by omega) (fun k hk => absurd hk (Nat.not_lt_zero k))
  obtain ⟨m1, e5, h4⟩ := pu_so202 (N := N) (y1 := nI (nF (unr F R) F K a c)) N 0 mat (by decide) (by omega) (fun k hk => absurd hk (Nat.not_lt_zero k))
  obtain ⟨r1, e6, h5⟩ := pu_so223 (N := N) (y1 := nI (nF (unr F R) F K a c)) N 0 right (by decide) (by omega) (fun k hk => absurd hk (Nat.not_lt_zero k))
  obtain ⟨m2, r2, e7, h6, h7⟩ := pu_so244 (N := N) (y1 := nI (nF (unr F R) F K a c)) (hr := hrF (unr F R) F a c) hF hK hM hX hE hac h1 (gat_le _ a c F) (fun f hf hb => gat_conn _ a c F f hf (by rw [unr_P hF hf, hb]; rfl)) h3 N 0 m1 r1 (Nat.zero_le F) (by omega) (fun p q hp hq => by
    rw [h4 _ (by omega)]
    rfl) (fun p hp => by
    rw [h5 p hp]
    rfl)
  obtain ⟨w1, e8, h8⟩ := pu_so412 (N := N) (y1 := nI (nF (unr F R) F K a c)) (mat := m2) N 0 w (by decide) (by omega) (fun k hk => absurd hk (Nat.not_lt_zero k))
  have hnn : nF (unr F R) F K a c ≤ 5 := by
    unfold nF hrF
    by_cases e : K = 0
    · subst e
      exact Nat.zero_le _
    · have := plc_bd1 (hrw_0 (P := (unr F R).testBit) (Q := Nat.testBit (2 ^ F - 1)) (a := a) (c := c) (F := F)) (K - 1)
      rw [show K - 1 + 1 = K by omega] at this
      omega
  have hA1 : ∀ p q, p < 6 → q < 6 → m2 (6 * p + q) = oL (AF (unr F R) F a c (fun f => (ms f).toInt) (fun f => (rd f).toInt) p q) := fun p q hp hq => by
    rw [h6 p q hp hq]
    unfold AF aF
    rw [if_neg (by omega)]
  have hA2 : ∀ p, p < 6 → r2 p = oL (AF (unr F R) F a c (fun f => (ms f).toInt) (fun f => (rd f).toInt) p 6) := fun p hp => by
    rw [h7 p hp]
    unfold AF aF
    rw [if_pos rfl]
  obtain ⟨w2, e9, -⟩ := pu_det hN (nF (unr F R) F K a c) 0 7 w1 (AF (unr F R) F a c (fun f => (ms f).toInt) (fun f => (rd f).toInt)) (by omega) (by omega) (fun p q hp hq => by
    rw [Nat.mul_zero, Nat.zero_add, h8 _ (by omega)]
    exact hA1 p q (by omega) (by omega))
  obtain ⟨fo', w3, e10, h9⟩ := pu_so448 (N := N) (hr := hrF (unr F R) F a c) hN hK hnn hb0 h3 hA1 hA2 N 0 fo w2 (Nat.zero_le K) (by omega) (fun k hk => absurd hk (Nat.not_lt_zero k))
  refine ⟨lh', lp2, pl', m2, r2, fo', w3, ?_, h1, h9⟩
  unfold fX5_solves
  rw [e1, Option.bind_some, e2, Option.bind_some, e3, Option.bind_some, show fX5_solves_L146 N N 0 0 b lh' lp2 pl = some (nI (nF (unr F R) F K a c), pl') from e4, Option.bind_some]
  dsimp only
  rw [show fX5_solves_L202 N N (nI (nF (unr F R) F K a c)) 0 mat = some m1 from e5, Option.bind_some, show fX5_solves_L223 N N (nI (nF (unr F R) F K a c)) 0 right = some r1 from e6, Option.bind_some, show fX5_solves_L244 N N (nI (nF (unr F R) F K a c)) 0 b lh' pl' m1 r1 = some (m2, r2) from e7, Option.bind_some]
  dsimp only
  rw [show fX5_solves_L412 N N (nI (nF (unr F R) F K a c)) 0 m2 w = some w1 from e8, Option.bind_some, show fX5_determinant N 7 w1 (nI (nF (unr F R) F K a c)) 0 = some (oL (D (nF (unr F R) F K a c) (AF (unr F R) F a c (fun f => (ms f).toInt) (fun f => (rd f).toInt))), w2) from e9, Option.bind_some]
  dsimp only
  rw [show fX5_solves_L448 N N (nI (nF (unr F R) F K a c)) 0 b pl' m2 r2 fo w2 = some (fo', w3) from e10, Option.bind_some]
  rfl
