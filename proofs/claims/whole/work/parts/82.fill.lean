/-! ===== the system of a fit ===== -/
def hrw (L M : Nat → Nat) (k : Nat) : Bool := decide (L k = k) && !decide (M k = k)
def eF (hr : Nat → Bool) (L a c : Nat → Nat) (f k : Nat) : Int := (if hr (L (a f)) = true ∧ k = L (a f) then 1 else 0) - (if hr (L (c f)) = true ∧ k = L (c f) then 1 else 0)
def wF (hr : Nat → Bool) (L a c : Nat → Nat) (f i : Nat) : Int := (if hr (L (a f)) = true ∧ i = plc hr (L (a f)) then 1 else 0) - (if hr (L (c f)) = true ∧ i = plc hr (L (c f)) then 1 else 0)
/-- the system: column 6 is the right side -/
def aF (hr : Nat → Bool) (L a c : Nat → Nat) (F : Nat) (mv rv : Nat → Int) (i b : Nat) : Int := if b = 6 then sm F (fun f => rv f * wF hr L a c f i) else sm F (fun f => mv f * (wF hr L a c f i * wF hr L a c f b))
theorem plc_inj {hr : Nat → Bool} {k l : Nat} (hk : hr k = true) (hl : hr l = true) (h : plc hr k = plc hr l) : k = l := by
  by_cases h1 : k < l
  · have := plc_lt hk h1
    omega
  · by_cases h2 : l < k
    · have := plc_lt hl h2
      omega
    · omega
theorem plc_bd {hr : Nat → Bool} : ∀ k, plc hr k ≤ k
  | 0 => Nat.le_refl 0
  | k + 1 => by
    show plc hr k + (if hr k = true then 1 else 0) ≤ k + 1
    have := plc_bd (hr := hr) k
    split <;> omega
theorem wF_eF {hr : Nat → Bool} {L a c : Nat → Nat} {f k : Nat} (hk : hr k = true) : wF hr L a c f (plc hr k) = eF hr L a c f k := by
  have key : ∀ x, (hr x = true ∧ plc hr k = plc hr x) ↔ (hr x = true ∧ k = x) := fun x => ⟨fun h => ⟨h.1, plc_inj hk h.1 h.2⟩, fun h => ⟨h.1, by rw [h.2]⟩⟩
  unfold wF eF
  simp only [key]
theorem eF_no {hr : Nat → Bool} {L a c : Nat → Nat} {f k : Nat} (hk : ¬ hr k = true) : eF hr L a c f k = 0 := by
  unfold eF
  rw [if_neg (fun h => hk (by rw [h.2]; exact h.1)), if_neg (fun h => hk (by rw [h.2]; exact h.1))]
  rfl
theorem eF_same {hr : Nat → Bool} {L a c : Nat → Nat} {f k : Nat} (h : L (a f) = L (c f)) : eF hr L a c f k = 0 := by
  unfold eF
  rw [h]
  omega
theorem wF_same {hr : Nat → Bool} {L a c : Nat → Nat} {f k : Nat} (h : L (a f) = L (c f)) : wF hr L a c f k = 0 := by
  unfold wF
  rw [h]
  omega
theorem wF_big {hr : Nat → Bool} {L a c : Nat → Nat} {f i n : Nat} (h1 : L (a f) < n) (h2 : L (c f) < n) (hi : plc hr n ≤ i) : wF hr L a c f i = 0 := by
  unfold wF
  rw [if_neg (fun h => by have := plc_lt h.1 h1; omega), if_neg (fun h => by have := plc_lt h.1 h2; omega)]
  rfl
theorem pu_hasRow {lh lp : Nat → Int32} {L M : Nat → Nat} {k : Nat} (hL : Lr lh L) (hM : Lr lp M) (h1 : ∀ k, L k ≤ k) (h2 : ∀ k, M k ≤ k) (hk : k < 6) : fX0_hasRow lh lp (nI k) = some (if hrw L M k then 1 else 0) := by
  have q1 := h1 k
  have q2 := h2 k
  unfold fX0_hasRow hrw
  rw [pu_rd hk (by decide), Option.bind_some, hL k hk, pu_rd hk (by decide), Option.bind_some, hM k hk]
  by_cases e1 : L k = k
  · rw [if_pos (by rw [e1])]
    by_cases e2 : M k = k
    · rw [if_pos (by rw [e2])]
      simp [e2]
    · rw [if_neg (fun q => e2 ((nI_eq (by omega) (by omega)).mp q))]
      simp [e1, e2]
  · rw [if_neg (fun q => e1 ((nI_eq (by omega) (by omega)).mp q))]
    simp [e1]
def up2 (rows : Nat → Nat → Int64) (k j : Nat) (v : Int64) : Nat → Nat → Int64 := ya_up rows k (ya_up (rows k) j v)
theorem up2_at {rows : Nat → Nat → Int64} {k j x y : Nat} {v : Int64} : up2 rows k j v x y = if x = k ∧ y = j then v else rows x y := by
  unfold up2
  by_cases e1 : x = k
  · subst e1
    rw [ya_up_eq]
    by_cases e2 : y = j
    · subst e2
      rw [ya_up_eq, if_pos ⟨rfl, rfl⟩]
    · rw [ya_up_ne e2, if_neg (fun h => e2 h.2)]
  · rw [ya_up_ne e1, if_neg (fun h => e1 h.1)]
theorem pu_up2 {rows : Nat → Nat → Int64} {k j : Nat} {β : Type} {g : Int64 → Int64} {cont : (Nat → Nat → Int64) → Option β} (hk : k < 6) (hj : j < 7) : ((ya_ix 6 (nI k)).bind fun v21 => (ya_rd (rows v21) 7 (nI j)).bind fun v24 => (ya_wr (rows v21) 7 (nI j) (g v24)).bind fun v26 => ya_lt (ya_up rows v21 v26) fun v28 => cont v28) = cont (up2 rows k j (g (rows k j))) := by
  rw [pu_ix hk (by decide), Option.bind_some, pu_rd hj (by decide), Option.bind_some, pu_wr hj (by decide), Option.bind_some, pu_lt]
  rfl
def eS (hr : Nat → Bool) (s g k : Nat) : Int := (if hr s = true ∧ k = s then 1 else 0) - (if hr g = true ∧ k = g then 1 else 0)
set_option maxHeartbeats 4000000 in
theorem pu_addMeter {lh lp : Nat → Int32} {L M : Nat → Nat} {rows : Nat → Nat → Int64} {sur : Nat → Int64} {s g : Nat} {ms rd : Int32} (hL : Lr lh L) (hM : Lr lp M) (h1 : ∀ k, L k ≤ k) (h2 : ∀ k, M k ≤ k) (hs : s < 6) (hg : g < 6) (hsg : s ≠ g) : ∃ rows', fX0_addMeter lh lp rows sur (nI s) (nI g) ms rd = some (rows', ya_up (ya_up sur s (sur s - oL rd.toInt)) g (sur g + oL rd.toInt)) ∧ ∀ k j, j < 7 → rows' k j = rows k j + oL (ms.toInt * (eS (hrw L M) s g k * eS (hrw L M) s g j)) := by
  have r1 := pu_hasRow hL hM h1 h2 hs
  have r2 := pu_hasRow hL hM h1 h2 hg
  unfold fX0_addMeter
  rw [pu_rd hs (by decide), Option.bind_some, pu_wr hs (by decide), Option.bind_some, pu_rd hg (by decide), Option.bind_some, pu_wr hg (by decide), Option.bind_some, ya_up_ne (fun q => hsg q.symm), r1, Option.bind_some, oL_i32 rd, oL_i32 ms]
  have hgs : g ≠ s := fun q => hsg q.symm
  have z : ∀ v : Int64, v + oL 0 = v := fun v => Int64.add_zero v
  have hm : ∀ v : Int64, v - oL ms.toInt = v + oL (- ms.toInt) := fun v => by rw [← oL_neg, Int64.sub_eq_add_neg]
  by_cases b1 : hrw L M s = true
  · rw [if_pos b1, if_neg (show ¬ (1 : Int32) = 0 by decide), pu_up2 (g := fun v => v + oL ms.toInt) hs (by omega), r2, Option.bind_some]
    by_cases b2 : hrw L M g = true
    · rw [if_pos b2, if_neg (show ¬ (1 : Int32) = 0 by decide), pu_up2 (g := fun v => v + oL ms.toInt) hg (by omega), Option.bind_some, if_neg (show ¬ (1 : Int32) = 0 by decide), Option.bind_some, if_neg (show ¬ (1 : Int32) = 0 by decide), pu_up2 (g := fun v => v - oL ms.toInt) hs (by omega), pu_up2 (g := fun v => v - oL ms.toInt) hg (by omega)]
      refine ⟨_, rfl, fun k j hj => ?_⟩
      simp only [up2_at]
      unfold eS
      simp only [b1, b2, true_and]
      by_cases k1 : k = s
      · subst k1
        by_cases j1 : j = k
        · subst j1
          simp [hsg, hgs, z]
        · by_cases j2 : j = g
          · subst j2
            simp [hsg, hgs, hm]
          · simp [hsg, hgs, j1, j2, z]
      · by_cases k2 : k = g
        · subst k2
          by_cases j1 : j = s
          · subst j1
            simp [hsg, hgs, hm]
          · by_cases j2 : j = k
            · subst j2
              simp [hsg, hgs, z]
            · simp [hsg, hgs, j1, j2, z]
        · simp [k1, k2, z]
    · rw [if_neg b2, if_pos rfl, Option.bind_some, if_neg (show ¬ (1 : Int32) = 0 by decide), Option.bind_some, if_pos rfl]
      refine ⟨_, rfl, fun k j hj => ?_⟩
      simp only [up2_at]
      unfold eS
      simp only [b1, b2, true_and, false_and]
      by_cases k1 : k = s
      · subst k1
        by_cases j1 : j = k
        · subst j1
          simp
        · simp [j1, z]
      · simp [k1, z]
  · rw [if_neg b1, if_pos rfl, r2, Option.bind_some]
    by_cases b2 : hrw L M g = true
    · rw [if_pos b2, if_neg (show ¬ (1 : Int32) = 0 by decide), pu_up2 (g := fun v => v + oL ms.toInt) hg (by omega), Option.bind_some, if_pos rfl]
      refine ⟨_, rfl, fun k j hj => ?_⟩
      simp only [up2_at]
      unfold eS
      simp only [b1, b2, true_and, false_and]
      by_cases k1 : k = g
      · subst k1
        by_cases j1 : j = k
        · subst j1
          simp
        · simp [j1, z]
      · simp [k1, z]
    · rw [if_neg b2, if_pos rfl, Option.bind_some, if_pos rfl]
      refine ⟨_, rfl, fun k j hj => ?_⟩
      unfold eS
      simp [b1, b2, z]
theorem pu_fill12 {N k : Nat} (hk : k < 6) : ∀ (n j : Nat) (rows : Nat → Nat → Int64), j ≤ 7 → 7 - j < n → ∃ rows', fX0_fillSystem_L12 N n (nI k) (nI j) rows = some rows' ∧ (∀ q, j ≤ q → q < 7 → rows' k q = 0) ∧ (∀ x q, x ≠ k → rows' x q = rows x q) ∧ ∀ q, q < j → rows' k q = rows k q := by
  intro n
  induction n with
  | zero => intro j rows h1 h2; omega
  | succ n ih =>
    intro j rows h1 h2
    unfold fX0_fillSystem_L12
    by_cases hj : j = 7
    · subst hj
      rw [if_pos (show (6 : Int32) < nI 7 by decide)]
      exact ⟨rows, rfl, fun q q1 q2 => by omega, fun _ _ _ => rfl, fun _ _ => rfl⟩
    · have hj7 : j < 7 := by omega
      rw [if_neg (show ¬ (6 : Int32) < nI j from nI_nlt (a := 6) (by omega) (by decide)), pu_ix hk (by decide), Option.bind_some, pu_wr hj7 (by decide), Option.bind_some, pu_lt, pu_lt, nI_1]
      obtain ⟨rows', e, w1, w2, w3⟩ := ih (j + 1) (ya_up rows k (ya_up (rows k) j 0)) (by omega) (by omega)
      refine ⟨rows', e, fun q q1 q2 => ?_, fun x q hx => ?_, fun q hq => ?_⟩
      · by_cases eq : q = j
        · subst eq
          rw [w3 q (by omega), ya_up_eq, ya_up_eq]
        · exact w1 q (by omega) q2
      · rw [w2 x q hx, ya_up_ne hx]
      · rw [w3 q (by omega), ya_up_eq, ya_up_ne (by omega)]
theorem pu_fill2 {N K : Nat} {lh lp : Nat → Int32} {L M : Nat → Nat} (hN : 5000 ≤ N) (hK : K ≤ 6) (hL : Lr lh L) (hM : Lr lp M) (h1 : ∀ k, L k ≤ k) (h2 : ∀ k, M k ≤ k) : ∀ (n i : Nat) (rows : Nat → Nat → Int64) (sur : Nat → Int64), i ≤ K → K - i < n → (∀ k, k < i → (∀ j, j < 7 → rows k j = oL (if hrw L M k then 0 else if j = k then 1 else 0)) ∧ sur k = oL 0) → ∃ rows' sur', fX0_fillSystem_L2 N n (nI i) lh lp rows sur (nI K) = some (rows', sur') ∧ ∀ k, k < K → (∀ j, j < 7 → rows' k j = oL (if hrw L M k then 0 else if j = k then 1 else 0)) ∧ sur' k = oL 0 := by
  intro n
  induction n with
  | zero => intro i rows sur g1 g2; omega
  | succ n ih =>
    intro i rows sur g1 g2 hR
    unfold fX0_fillSystem_L2
    by_cases hi : i = K
    · subst hi
      rw [if_pos (nI_le (Nat.le_refl _) (by omega))]
      exact ⟨rows, sur, rfl, hR⟩
    · have hlt : i < K := by omega
      obtain ⟨rows1, e, w1, w2, -⟩ := pu_fill12 (N := N) (k := i) (by omega) N 0 rows (by decide) (by omega)
      rw [if_neg (nI_ge hlt (by omega)), show (0 : Int32) = nI 0 from rfl, e, Option.bind_some, pu_ix (by omega) (by decide), Option.bind_some, pu_hasRow hL hM h1 h2 (by omega), Option.bind_some]
      have hfin : ∀ v : Int64, v = oL (if hrw L M i then 0 else 1) → ∃ rows' sur', fX0_fillSystem_L2 N n (nI (i + 1)) lh lp (ya_up rows1 i (ya_up (rows1 i) i v)) (ya_up sur i 0) (nI K) = some (rows', sur') ∧ ∀ k, k < K → (∀ j, j < 7 → rows' k j = oL (if hrw L M k then 0 else if j = k then 1 else 0)) ∧ sur' k = oL 0 := by
        intro v hv
        refine ih (i + 1) _ _ (by omega) (by omega) (fun k hk => ⟨fun j hj => ?_, ?_⟩)
        · by_cases ek : k = i
          · subst ek
            rw [ya_up_eq]
            by_cases ej : j = k
            · subst ej
              rw [ya_up_eq, hv, if_pos rfl]
            · rw [ya_up_ne ej, w1 j (Nat.zero_le j) hj, if_neg ej]
              split <;> rfl
          · rw [ya_up_ne ek, w2 k j ek]
            exact (hR k (by omega)).1 j hj
        · by_cases ek : k = i
          · subst ek
            rw [ya_up_eq]
            rfl
          · rw [ya_up_ne ek]
            exact (hR k (by omega)).2
      by_cases b : hrw L M i = true
      · rw [if_pos b, if_neg (show ¬ (1 : Int32) = nI 0 by decide), pu_wr (by omega) (by decide), Option.bind_some, pu_lt, pu_wr (by omega) (by decide), Option.bind_some, pu_lt, nI_1]
        exact hfin 0 (by rw [if_pos b]; rfl)
      · rw [if_neg b, if_pos (show (0 : Int32) = nI 0 from rfl), pu_wr (by omega) (by decide), Option.bind_some, pu_lt, pu_wr (by omega) (by decide), Option.bind_some, pu_lt, nI_1]
        exact hfin 1 (by rw [if_neg b]; rfl)
/-- what comes to knot k less what goes from it -/
def sF (L a c : Nat → Nat) (f k : Nat) : Int := (if k = L (c f) then 1 else 0) - (if k = L (a f) then 1 else 0)
theorem pu_fill69 {N F K S : Nat} {lh lp fr tt rd ms : Nat → Int32} {L M a c : Nat → Nat} (hF : F ≤ 10) (hS : S < 1024) (hK : K ≤ 6) (hE : Ends F fr tt a c) (hac : ∀ f, f < F → a f < K ∧ c f < K) (hL : Lr lh L) (hM : Lr lp M) (h1 : ∀ k, L k ≤ k) (h2 : ∀ k, M k ≤ k) (hc : ∀ f, f < F → S.testBit f = true → L (a f) = L (c f)) : ∀ (n i : Nat) (rows : Nat → Nat → Int64) (sur : Nat → Int64), i ≤ F → F - i < n → (∀ k, k < K → (∀ j, j < 7 → rows k j = oL ((if hrw L M k then 0 else if j = k then 1 else 0) + sm i (fun f => (ms f).toInt * (eF (hrw L M) L a c f k * eF (hrw L M) L a c f j)))) ∧ sur k = oL (sm i (fun f => (rd f).toInt * sF L a c f k))) → ∃ rows' sur', fX0_fillSystem_L69 N n (nI i) (nI S) lh lp rows sur (nI F) fr tt rd ms = some (rows', sur') ∧ ∀ k, k < K → (∀ j, j < 7 → rows' k j = oL ((if hrw L M k then 0 else if j = k then 1 else 0) + sm F (fun f => (ms f).toInt * (eF (hrw L M) L a c f k * eF (hrw L M) L a c f j)))) ∧ sur' k = oL (sm F (fun f => (rd f).toInt * sF L a c f k)) := by
  intro n
  induction n with
  | zero => intro i rows sur g1 g2; omega
  | succ n ih =>
    intro i rows sur g1 g2 hR
    unfold fX0_fillSystem_L69
    by_cases hi : i = F
    · subst hi
      rw [if_pos (nI_le (Nat.le_refl _) (by omega))]
      exact ⟨rows, sur, rfl, hR⟩
    · have hlt : i < F := by omega
      obtain ⟨q1, q2, -, e1, e2⟩ := hE i hlt
      obtain ⟨k1, k2⟩ := hac i hlt
      have l1 := h1 (a i)
      have l2 := h1 (c i)
      rw [if_neg (nI_ge hlt (by omega)), pu_holds hS (by omega), Option.bind_some]
      have hskip : L (a i) = L (c i) → ∃ rows' sur', fX0_fillSystem_L69 N n (nI (i + 1)) (nI S) lh lp rows sur (nI F) fr tt rd ms = some (rows', sur') ∧ ∀ k, k < K → (∀ j, j < 7 → rows' k j = oL ((if hrw L M k then 0 else if j = k then 1 else 0) + sm F (fun f => (ms f).toInt * (eF (hrw L M) L a c f k * eF (hrw L M) L a c f j)))) ∧ sur' k = oL (sm F (fun f => (rd f).toInt * sF L a c f k)) := fun hq => ih (i + 1) rows sur (by omega) (by omega) (fun k hk => ⟨fun j hj => by
          rw [sm_succ, eF_same hq, Int.zero_mul, Int.mul_zero, Int.add_zero]
          exact (hR k hk).1 j hj, by
          have : sF L a c i k = 0 := by
            unfold sF
            rw [hq]
            omega
          rw [sm_succ, this, Int.mul_zero, Int.add_zero]
          exact (hR k hk).2⟩)
      by_cases hb : S.testBit i = true
      · rw [if_pos hb, if_neg (show ¬ (1 : Int32) = 0 by decide), pu_lt, nI_1]
        exact hskip (hc i hlt hb)
      · rw [if_neg hb, if_pos rfl, pu_parts hF hE hlt hL h1, Option.bind_some]
        by_cases hq : L (a i) = L (c i)
        · rw [if_pos hq, if_pos rfl, pu_lt, nI_1]
          exact hskip hq
        · obtain ⟨rows1, z1, z2⟩ := pu_addMeter (rows := rows) (sur := sur) (ms := ms i) (rd := rd i) hL hM h1 h2 (show L (a i) < 6 by omega) (show L (c i) < 6 by omega) hq
          rw [if_neg hq, if_neg (show ¬ (1 : Int32) = 0 by decide), pu_rd (by omega) (by decide), Option.bind_some, e1, pu_rd q1 (by decide), Option.bind_some, hL _ q1, pu_rd (by omega) (by decide), Option.bind_some, e2, pu_rd q2 (by decide), Option.bind_some, hL _ q2, pu_rd (by omega) (by decide), Option.bind_some, pu_rd (by omega) (by decide), Option.bind_some, z1, Option.bind_some]
          dsimp only
          rw [pu_lt, nI_1]
          refine ih (i + 1) rows1 _ (by omega) (by omega) (fun k hk => ⟨fun j hj => ?_, ?_⟩)
          · rw [z2 k j hj, (hR k hk).1 j hj, oL_add, sm_succ]
            refine congrArg oL ?_
            show _ = _ + (_ + (ms i).toInt * (eS (hrw L M) (L (a i)) (L (c i)) k * eS (hrw L M) (L (a i)) (L (c i)) j))
            omega
          · have hsa := (hR (L (a i)) (by omega)).2
            have hsc := (hR (L (c i)) (by omega)).2
            rw [sm_succ]
            by_cases ek : k = L (c i)
            · have es : sF L a c i k = 1 := by
                unfold sF
                rw [if_pos ek, if_neg (fun q => hq (q.symm.trans ek))]
                rfl
              rw [es, ek, ya_up_eq, hsc, oL_add, Int.mul_one]
            · rw [ya_up_ne ek]
              by_cases ek2 : k = L (a i)
              · have es : sF L a c i k = -1 := by
                  unfold sF
                  rw [if_neg ek, if_pos ek2]
                  rfl
                rw [es, ek2, ya_up_eq, hsa, oL_sub]
                refine congrArg oL ?_
                omega
              · have es : sF L a c i k = 0 := by
                  unfold sF
                  rw [if_neg ek, if_neg ek2]
                  rfl
                rw [es, ya_up_ne ek2, (hR k hk).2, Int.mul_zero, Int.add_zero]
theorem pu_fill152 {N K : Nat} {lh lp : Nat → Int32} {L M : Nat → Nat} {sur : Nat → Int64} (hK : K ≤ 6) (hL : Lr lh L) (hM : Lr lp M) (h1 : ∀ k, L k ≤ k) (h2 : ∀ k, M k ≤ k) : ∀ (n i : Nat) (rows : Nat → Nat → Int64), i ≤ K → K - i < n → ∃ rows', fX0_fillSystem_L152 N n (nI i) lh lp rows sur (nI K) = some rows' ∧ (∀ k j, k < K → j < 6 → rows' k j = rows k j) ∧ (∀ k, k < i → rows' k 6 = rows k 6) ∧ ∀ k, i ≤ k → k < K → rows' k 6 = if hrw L M k then - sur k else 0 := by
  intro n
  induction n with
  | zero => intro i rows g1 g2; omega
  | succ n ih =>
    intro i rows g1 g2
    unfold fX0_fillSystem_L152
    by_cases hi : i = K
    · subst hi
      rw [if_pos (nI_le (Nat.le_refl _) (by omega))]
      exact ⟨rows, rfl, fun _ _ _ _ => rfl, fun _ _ => rfl, fun k q1 q2 => by omega⟩
    · have hlt : i < K := by omega
      rw [if_neg (nI_ge hlt (by omega)), pu_ix (by omega) (by decide), Option.bind_some, pu_hasRow hL hM h1 h2 (by omega), Option.bind_some, show (6 : Int32) = nI 6 from rfl]
      have hfin : ∀ v : Int64, v = (if hrw L M i then - sur i else 0) → ∃ rows', fX0_fillSystem_L152 N n (nI (i + 1)) lh lp (ya_up rows i (ya_up (rows i) 6 v)) sur (nI K) = some rows' ∧ (∀ k j, k < K → j < 6 → rows' k j = rows k j) ∧ (∀ k, k < i → rows' k 6 = rows k 6) ∧ ∀ k, i ≤ k → k < K → rows' k 6 = if hrw L M k then - sur k else 0 := by
        intro v hv
        obtain ⟨rows', e, w1, w2, w3⟩ := ih (i + 1) (ya_up rows i (ya_up (rows i) 6 v)) (by omega) (by omega)
        refine ⟨rows', e, fun k j hk hj => ?_, fun k hk => ?_, fun k q1 q2 => ?_⟩
        · rw [w1 k j hk hj]
          by_cases ek : k = i
          · subst ek
            rw [ya_up_eq, ya_up_ne (by omega)]
          · rw [ya_up_ne ek]
        · rw [w2 k (by omega), ya_up_ne (by omega)]
        · by_cases ek : k = i
          · subst ek
            rw [w2 k (by omega), ya_up_eq, ya_up_eq, hv]
          · exact w3 k (by omega) q2
      by_cases b : hrw L M i = true
      · rw [if_pos b, if_neg (show ¬ (1 : Int32) = 0 by decide), pu_rd (by omega) (by decide), Option.bind_some, pu_wr (by decide) (by decide), Option.bind_some, pu_lt, pu_lt, nI_1]
        exact hfin _ (by rw [if_pos b])
      · rw [if_neg b, if_pos rfl, pu_wr (by decide) (by decide), Option.bind_some, pu_lt, pu_lt, nI_1]
        exact hfin _ (by rw [if_neg b])
theorem pu_fill {N F K S : Nat} {lh lp fr tt rd ms : Nat → Int32} {L M a c : Nat → Nat} {rows : Nat → Nat → Int64} {sur : Nat → Int64} (hN : 5000 ≤ N) (hF : F ≤ 10) (hS : S < 1024) (hK : K ≤ 6) (hE : Ends F fr tt a c) (hac : ∀ f, f < F → a f < K ∧ c f < K) (hL : Lr lh L) (hM : Lr lp M) (h1 : ∀ k, L k ≤ k) (h2 : ∀ k, M k ≤ k) (hc : ∀ f, f < F → S.testBit f = true → L (a f) = L (c f)) : ∃ rows' sur', fX0_fillSystem N (nI S) lh lp rows sur (nI K) (nI F) fr tt rd ms = some (rows', sur') ∧ (∀ k j, k < K → j < 7 → rows' k j = oL (if hrw L M k then aF (hrw L M) L a c F (fun f => (ms f).toInt) (fun f => (rd f).toInt) (plc (hrw L M) k) (cj (hrw L M) j) else if j = k then 1 else 0)) ∧ ∀ k, k < K → sur' k = oL (sm F (fun f => (rd f).toInt * sF L a c f k)) := by
  obtain ⟨r1, s1, e1, w1⟩ := pu_fill2 (N := N) hN hK hL hM h1 h2 N 0 rows sur (Nat.zero_le K) (by omega) (fun k hk => absurd hk (Nat.not_lt_zero k))
  obtain ⟨r2, s2, e2, w2⟩ := pu_fill69 (N := N) (rd := rd) (ms := ms) hF hS hK hE hac hL hM h1 h2 hc N 0 r1 s1 (Nat.zero_le F) (by omega) (fun k hk => ⟨fun j hj => by
    rw [(w1 k hk).1 j hj]
    refine congrArg oL ?_
    show _ = _ + (0 : Int)
    rw [Int.add_zero], (w1 k hk).2⟩)
  obtain ⟨r3, e3, u1, -, u3⟩ := pu_fill152 (N := N) (sur := s2) hK hL hM h1 h2 N 0 r2 (Nat.zero_le K) (by omega)
  refine ⟨r3, s2, ?_, fun k j hk hj => ?_, fun k hk => (w2 k hk).2⟩
  · unfold fX0_fillSystem
    rw [show (0 : Int32) = nI 0 from rfl, e1, Option.bind_some]
    dsimp only
    rw [e2, Option.bind_some]
    dsimp only
    rw [e3, Option.bind_some]
  · by_cases ej : j = 6
    · subst ej
      rw [u3 k (Nat.zero_le k) hk]
      by_cases b : hrw L M k = true
      · rw [if_pos b, if_pos b, (w2 k hk).2, oL_neg]
        refine congrArg oL ?_
        unfold aF cj
        rw [if_pos rfl, if_pos rfl]
        have : -sm F (fun f => (rd f).toInt * sF L a c f k) = (-1) * sm F (fun f => (rd f).toInt * sF L a c f k) := by omega
        rw [this, ← sm_mul]
        refine sm_congr F (fun f hf => ?_)
        rw [wF_eF b]
        unfold eF sF
        have key : ∀ x, (hrw L M x = true ∧ k = x) ↔ k = x := fun x => ⟨fun h => h.2, fun h => ⟨by rw [← h]; exact b, h⟩⟩
        simp only [key]
        grind
      · rw [if_neg b, if_neg b, if_neg (by omega)]
        rfl
    · rw [u1 k j hk (by omega), (w2 k hk).1 j hj]
      refine congrArg oL ?_
      by_cases b : hrw L M k = true
      · rw [if_pos b, if_pos b, Int.zero_add]
        unfold aF
        by_cases bj : hrw L M j = true
        · have ec : cj (hrw L M) j = plc (hrw L M) j := by
            unfold cj
            rw [if_neg ej, if_pos bj]
          have := plc_bd (hr := hrw L M) j
          rw [ec, if_neg (by omega)]
          exact sm_congr F (fun f hf => by rw [wF_eF b, wF_eF bj])
        · have ec : cj (hrw L M) j = 7 := by
            unfold cj
            rw [if_neg ej, if_neg bj]
          rw [ec, if_neg (by decide)]
          refine sm_congr F (fun f hf => ?_)
          obtain ⟨k1, k2⟩ := hac f hf
          have l1 := h1 (a f)
          have l2 := h1 (c f)
          have := plc_bd (hr := hrw L M) K
          rw [eF_no bj, wF_big (n := K) (i := 7) (by omega) (by omega) (by omega), Int.mul_zero, Int.mul_zero, Int.mul_zero, Int.mul_zero]
      · rw [if_neg b, if_neg b, sm_zero F (fun f hf => by rw [eF_no b, Int.zero_mul, Int.mul_zero]), Int.add_zero]
