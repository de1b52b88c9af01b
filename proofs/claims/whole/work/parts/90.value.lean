/-! ===== a fit balances ===== -/
def vF (L a c : Nat → Nat) (mv rv fc : Nat → Int) (d : Int) (f : Nat) : Int := rv f * d + mv f * dlF L a c fc f
section
variable {S F K : Nat} {a c : Nat → Nat} {mv rv : Nat → Int}
theorem sm_wF (hac : ∀ f, f < F → a f < K ∧ c f < K) {f : Nat} (hf : f < F) : sm (nF S F K a c) (fun k => wF (hrF S F a c) (gat S.testBit a c F) a c f k * Em (AF S F a c mv rv) (nF S F K a c) k 6) = - dlF (gat S.testBit a c F) a c (fcF S F K a c mv rv) f := by
  obtain ⟨h1, h2⟩ := hac f hf
  have l1 := gat_le S.testBit a c F (a f)
  have l2 := gat_le S.testBit a c F (c f)
  have e : sm (nF S F K a c) (fun k => wF (hrF S F a c) (gat S.testBit a c F) a c f k * Em (AF S F a c mv rv) (nF S F K a c) k 6) = sm (nF S F K a c) (fun k => 1 * ((if hrF S F a c (gat S.testBit a c F (a f)) = true ∧ k = plc (hrF S F a c) (gat S.testBit a c F (a f)) then 1 else 0) * Em (AF S F a c mv rv) (nF S F K a c) k 6) + (-1) * ((if hrF S F a c (gat S.testBit a c F (c f)) = true ∧ k = plc (hrF S F a c) (gat S.testBit a c F (c f)) then 1 else 0) * Em (AF S F a c mv rv) (nF S F K a c) k 6)) := sm_congr _ (fun k _ => by
    unfold wF
    grind)
  rw [e, sm_lin, sm_ind, sm_ind]
  have key : ∀ y, y < K → (if hrF S F a c y = true ∧ plc (hrF S F a c) y < nF S F K a c then Em (AF S F a c mv rv) (nF S F K a c) (plc (hrF S F a c) y) 6 else 0) = fcF S F K a c mv rv y := fun y hy => by
    unfold fcF
    by_cases b : hrF S F a c y = true
    · rw [if_pos ⟨b, plc_lt b hy⟩, if_pos b]
    · rw [if_neg (fun z => b z.1), if_neg b]
  rw [key _ (by omega), key _ (by omega)]
  unfold dlF
  omega
theorem bal_row (hK : K ≤ 6) (hmv : ∀ f, f < F → 1 ≤ mv f) (hac : ∀ f, f < F → a f < K ∧ c f < K) {h : Nat} (hh : h < K) (hr : hrF S F a c h = true) : sm F (fun f => vF (gat S.testBit a c F) a c mv rv (fcF S F K a c mv rv) (blF S F K a c mv rv) f * sF (gat S.testBit a c F) a c f h) = 0 := by
  have hpos := aF_pos (P := S.testBit) (Q := Nat.testBit (2 ^ F - 1)) (a := a) (c := c) (F := F) (K := K) (mv := mv) (rv := rv) hK (fun f hf => allSet_bit hf) hmv
  have hn := plc_bd (hr := hrF S F a c) K
  have hC : Cr (AF S F a c mv rv) (nF S F K a c) := all_Cr (A := AF S F a c mv rv) (n := nF S F K a c) hpos _ (Nat.le_refl _)
  have h1 := hC (plc (hrF S F a c) h) (plc_lt hr hh) 6
  have h2 : sm (nF S F K a c) (fun k => AF S F a c mv rv (plc (hrF S F a c) h) k * Em (AF S F a c mv rv) (nF S F K a c) k 6) = sm F (fun f => (mv f * wF (hrF S F a c) (gat S.testBit a c F) a c f (plc (hrF S F a c) h)) * - dlF (gat S.testBit a c F) a c (fcF S F K a c mv rv) f) := by
    rw [sm_congr _ (g := fun k => sm F (fun f => (mv f * wF (hrF S F a c) (gat S.testBit a c F) a c f (plc (hrF S F a c) h)) * (wF (hrF S F a c) (gat S.testBit a c F) a c f k * Em (AF S F a c mv rv) (nF S F K a c) k 6))) (fun k hk => by
      have hk6 : k ≠ 6 := by
        have : nF S F K a c ≤ 6 := by unfold nF; omega
        omega
      have ea : AF S F a c mv rv (plc (hrF S F a c) h) k = sm F (fun f => mv f * (wF (hrF S F a c) (gat S.testBit a c F) a c f (plc (hrF S F a c) h) * wF (hrF S F a c) (gat S.testBit a c F) a c f k)) := by
        unfold AF aF
        rw [if_neg hk6]
      rw [ea, Int.mul_comm, ← sm_mul]
      exact sm_congr F (fun f _ => by grind)), sm_comm]
    exact sm_congr F (fun f hf => by rw [sm_mul, sm_wF hac hf])
  have h3 : AF S F a c mv rv (plc (hrF S F a c) h) 6 = sm F (fun f => rv f * wF (hrF S F a c) (gat S.testBit a c F) a c f (plc (hrF S F a c) h)) := by
    unfold AF aF
    rw [if_pos rfl]
  have hw : ∀ f, wF (hrF S F a c) (gat S.testBit a c F) a c f (plc (hrF S F a c) h) = - sF (gat S.testBit a c F) a c f h := fun f => by
    rw [wF_eF hr]
    unfold eF sF
    have key : ∀ x, (hrF S F a c x = true ∧ h = x) ↔ h = x := fun x => ⟨fun z => z.2, fun z => ⟨by rw [← z]; exact hr, z⟩⟩
    simp only [key]
    omega
  rw [h2, h3, ← sm_mul] at h1
  have h4 : sm F (fun f => 1 * ((mv f * wF (hrF S F a c) (gat S.testBit a c F) a c f (plc (hrF S F a c) h)) * - dlF (gat S.testBit a c F) a c (fcF S F K a c mv rv) f) + (-1) * (D (nF S F K a c) (AF S F a c mv rv) * (rv f * wF (hrF S F a c) (gat S.testBit a c F) a c f (plc (hrF S F a c) h)))) = 0 := by
    rw [sm_lin, h1]
    omega
  rw [← h4]
  refine sm_congr F (fun f _ => ?_)
  rw [hw f]
  unfold vF blF
  grind
theorem bal_all (hK : K ≤ 6) (hmv : ∀ f, f < F → 1 ≤ mv f) (hac : ∀ f, f < F → a f < K ∧ c f < K) {h : Nat} (hh : h < K) : sm F (fun f => vF (gat S.testBit a c F) a c mv rv (fcF S F K a c mv rv) (blF S F K a c mv rv) f * sF (gat S.testBit a c F) a c f h) = 0 := by
  have hnl : ∀ k, gat S.testBit a c F k ≠ k → sm F (fun f => vF (gat S.testBit a c F) a c mv rv (fcF S F K a c mv rv) (blF S F K a c mv rv) f * sF (gat S.testBit a c F) a c f k) = 0 := fun k hk => sm_zero F (fun f _ => by
    have e : sF (gat S.testBit a c F) a c f k = 0 := by
      unfold sF
      rw [if_neg (fun q => hk (by rw [q]; exact gat_idem _ _ _ _ _)), if_neg (fun q => hk (by rw [q]; exact gat_idem _ _ _ _ _))]
      rfl
    rw [e, Int.mul_zero])
  by_cases hl : gat S.testBit a c F h = h
  · by_cases hm : gat (Nat.testBit (2 ^ F - 1)) a c F h = h
    · have hT : sm K (fun k => (if gat (Nat.testBit (2 ^ F - 1)) a c F k = h then 1 else 0) * sm F (fun f => vF (gat S.testBit a c F) a c mv rv (fcF S F K a c mv rv) (blF S F K a c mv rv) f * sF (gat S.testBit a c F) a c f k)) = 0 := by
        rw [sm_congr K (g := fun k => sm F (fun f => vF (gat S.testBit a c F) a c mv rv (fcF S F K a c mv rv) (blF S F K a c mv rv) f * ((fun k => if gat (Nat.testBit (2 ^ F - 1)) a c F k = h then 1 else 0) k * sF (gat S.testBit a c F) a c f k))) (fun k _ => by
          rw [← sm_mul]
          exact sm_congr F (fun f _ => by grind)), sm_comm]
        refine sm_zero F (fun f hf => ?_)
        obtain ⟨k1, k2⟩ := hac f hf
        have l1 := gat_le S.testBit a c F (a f)
        have l2 := gat_le S.testBit a c F (c f)
        rw [sm_mul, sm_sF (fc := fun k => if gat (Nat.testBit (2 ^ F - 1)) a c F k = h then 1 else 0) (by omega) (by omega)]
        have hML : ∀ y, gat (Nat.testBit (2 ^ F - 1)) a c F (gat S.testBit a c F y) = gat (Nat.testBit (2 ^ F - 1)) a c F y := fun y => gat_sub (Nat.le_refl F) (fun g hg _ => allSet_bit hg) (gat_idem S.testBit a c F y)
        have hz : dlF (gat S.testBit a c F) a c (fun k => if gat (Nat.testBit (2 ^ F - 1)) a c F k = h then 1 else 0) f = 0 := by
          unfold dlF
          dsimp only
          rw [hML, hML, gat_conn (Nat.testBit (2 ^ F - 1)) a c F f hf (allSet_bit hf)]
          omega
        rw [hz, Int.mul_zero]
      rw [sm_one (k := h) K hh (fun k hk hne => by
        by_cases z : gat (Nat.testBit (2 ^ F - 1)) a c F k = h
        · by_cases zl : gat S.testBit a c F k = k
          · have hrk : hrF S F a c k = true := by
              unfold hrF hrw
              rw [zl, z]
              simp
              omega
            rw [bal_row hK hmv hac hk hrk, Int.mul_zero]
          · rw [hnl k zl, Int.mul_zero]
        · rw [if_neg z, Int.zero_mul]), if_pos hm, Int.one_mul] at hT
      exact hT
    · exact bal_row hK hmv hac hh (by
        unfold hrF hrw
        rw [hl]
        simp [hm])
  · exact hnl h hl
end
/-! ===== the value of a flow that is told without a meter ===== -/
theorem gat_split {S F f : Nat} {a c : Nat → Nat} (hF : F ≤ 10) (hf : f < F) (hb : S.testBit f = true) (hne : gat (clr S f).testBit a c F (a f) ≠ gat (clr S f).testBit a c F (c f)) (k : Nat) : ((if gat (clr S f).testBit a c F k = gat (clr S f).testBit a c F (a f) then 1 else 0) + (if gat (clr S f).testBit a c F k = gat (clr S f).testBit a c F (c f) then 1 else 0) : Int) = if gat S.testBit a c F (a f) = gat S.testBit a c F k then 1 else 0 := by
  have hsub : ∀ x y, gat (clr S f).testBit a c F x = gat (clr S f).testBit a c F y → gat S.testBit a c F x = gat S.testBit a c F y := fun x y h => gat_sub (Nat.le_refl F) (fun g hg hp => by
    rw [clr_bit (by omega), Bool.and_eq_true] at hp
    exact hp.1) h
  have hac := gat_conn S.testBit a c F f hf hb
  by_cases h : gat S.testBit a c F (a f) = gat S.testBit a c F k
  · rw [if_pos h]
    have hj := gat_factor (P := S.testBit) (s := jn (gat (clr S f).testBit a c F) (a f) (c f)) F (fun g hg hp => by
      by_cases e : g = f
      · subst e
        rw [jn_left, jn_right]
      · exact jn_keep (gat_conn (clr S f).testBit a c F g hg (by
          rw [clr_bit (by omega), hp]
          simp [e]))) (a f) k h
    have h2 : gat (clr S f).testBit a c F k = gat (clr S f).testBit a c F (a f) ∨ gat (clr S f).testBit a c F k = gat (clr S f).testBit a c F (c f) := by
      by_cases z : gat (clr S f).testBit a c F (a f) = gat (clr S f).testBit a c F k
      · exact Or.inl z.symm
      · rcases jn_two hj z with q | q
        · exact Or.inr q.2
        · exact Or.inl q.2
    rcases h2 with h2 | h2
    · rw [if_pos h2, if_neg (fun q => hne (h2.symm.trans q))]
      rfl
    · rw [if_pos h2, if_neg (fun q => hne (q.symm.trans h2))]
      rfl
  · rw [if_neg h, if_neg (fun q => h (hsub _ _ q).symm), if_neg (fun q => h (hac.trans (hsub _ _ q).symm))]
    rfl
def xF (L' a c : Nat → Nat) (t e : Nat) : Int := (if L' (c e) = t then 1 else 0) - (if L' (a e) = t then 1 else 0)
/-- what meters bring to a side -/
def siF (S : Nat) (L' a c : Nat → Nat) (F : Nat) (v : Nat → Int) (t : Nat) : Int := sm F (fun e => if S.testBit e then 0 else v e * xF L' a c t e)
theorem si_eq {S F K f : Nat} {a c : Nat → Nat} {mv rv : Nat → Int} (hF : F ≤ 10) (hK : K ≤ 6) (hmv : ∀ f, f < F → 1 ≤ mv f) (hac : ∀ f, f < F → a f < K ∧ c f < K) (hf : f < F) (hb : S.testBit f = true) (hne : gat (clr S f).testBit a c F (a f) ≠ gat (clr S f).testBit a c F (c f)) : siF S (gat (clr S f).testBit a c F) a c F (vF (gat S.testBit a c F) a c mv rv (fcF S F K a c mv rv) (blF S F K a c mv rv)) (gat (clr S f).testBit a c F (a f)) = - siF S (gat (clr S f).testBit a c F) a c F (vF (gat S.testBit a c F) a c mv rv (fcF S F K a c mv rv) (blF S F K a c mv rv)) (gat (clr S f).testBit a c F (c f)) := by
  have hl := gat_le S.testBit a c F (a f)
  have h0 := bal_all (S := S) (rv := rv) hK hmv hac (h := gat S.testBit a c F (a f)) (by have := (hac f hf).1; omega)
  have h1 : sm F (fun e => (if S.testBit e then 0 else vF (gat S.testBit a c F) a c mv rv (fcF S F K a c mv rv) (blF S F K a c mv rv) e * xF (gat (clr S f).testBit a c F) a c (gat (clr S f).testBit a c F (a f)) e) + (if S.testBit e then 0 else vF (gat S.testBit a c F) a c mv rv (fcF S F K a c mv rv) (blF S F K a c mv rv) e * xF (gat (clr S f).testBit a c F) a c (gat (clr S f).testBit a c F (c f)) e)) = 0 := by
    refine Eq.trans (sm_congr F (fun e he => ?_)) h0
    by_cases z : S.testBit e = true
    · have es : sF (gat S.testBit a c F) a c e (gat S.testBit a c F (a f)) = 0 := by
        unfold sF
        rw [gat_conn S.testBit a c F e he z]
        omega
      rw [if_pos z, if_pos z, es, Int.mul_zero]
      rfl
    · rw [if_neg z, if_neg z, ← Int.mul_add]
      congr 1
      have s1 := gat_split hF hf hb hne (c e)
      have s2 := gat_split hF hf hb hne (a e)
      unfold xF sF
      omega
  rw [sm_add] at h1
  unfold siF
  omega
theorem pu_fittedC {F K f : Nat} {d : Int} {lh fr tt rd ms : Nat → Int32} {rows : Nat → Nat → Int64} {L a c : Nat → Nat} {fc : Nat → Int} (hF : F ≤ 10) (hK : K ≤ 6) (hE : Ends F fr tt a c) (hac : ∀ f, f < F → a f < K ∧ c f < K) (hL : Lr lh L) (hle : ∀ k, L k ≤ k) (hR : ∀ k, k < K → rows k 6 = oL (fc k)) (hf : f < F) : fX0_fittedAbove (oL d) lh rows fr tt rd ms (nI f) = some (oL (vF L a c (fun f => (ms f).toInt) (fun f => (rd f).toInt) fc d f)) := by
  unfold fX0_fittedAbove vF
  rw [pu_rd (by omega) (by decide), Option.bind_some, pu_changeC hF hK hE hac hL hle hR hf, Option.bind_some, oL_i32, oL_mul, oL_add]
theorem pu_value59 {N S F K t : Nat} {d : Int} {lh ls fr tt rd ms : Nat → Int32} {rows : Nat → Nat → Int64} {L L' a c : Nat → Nat} {fc : Nat → Int} (hF : F ≤ 10) (hS : S < 1024) (hK : K ≤ 6) (hE : Ends F fr tt a c) (hac : ∀ f, f < F → a f < K ∧ c f < K) (hL : Lr lh L) (hle : ∀ k, L k ≤ k) (hR : ∀ k, k < K → rows k 6 = oL (fc k)) (hL' : Lr ls L') (hle' : ∀ k, L' k ≤ k) (ht : t < 6) : ∀ (n i : Nat), i ≤ F → F - i < n → fX0_valueAbove_L59 N n (nI t) (oL (siF S L' a c i (vF L a c (fun f => (ms f).toInt) (fun f => (rd f).toInt) fc d) t)) (nI i) (nI S) (oL d) lh ls rows (nI F) fr tt rd ms = some (oL (siF S L' a c F (vF L a c (fun f => (ms f).toInt) (fun f => (rd f).toInt) fc d) t)) := by
  intro n
  induction n with
  | zero => intro i h1 h2; omega
  | succ n ih =>
    intro i h1 h2
    unfold fX0_valueAbove_L59
    by_cases hi : i = F
    · subst hi
      rw [if_pos (nI_le (Nat.le_refl _) (by omega))]
    · have hlt : i < F := by omega
      obtain ⟨q1, q2, -, e1, e2⟩ := hE i hlt
      have l1 := hle' (a i)
      have l2 := hle' (c i)
      have es : siF S L' a c (i + 1) (vF L a c (fun f => (ms f).toInt) (fun f => (rd f).toInt) fc d) t = siF S L' a c i (vF L a c (fun f => (ms f).toInt) (fun f => (rd f).toInt) fc d) t + (if S.testBit i then 0 else vF L a c (fun f => (ms f).toInt) (fun f => (rd f).toInt) fc d i * xF L' a c t i) := rfl
      have ih' := ih (i + 1) (by omega) (by omega)
      rw [if_neg (nI_ge hlt (by omega)), pu_holds hS (by omega), Option.bind_some]
      by_cases hb : S.testBit i = true
      · rw [es, if_pos hb, Int.add_zero] at ih'
        rw [if_pos hb, if_neg (show ¬ (1 : Int32) = 0 by decide), pu_lt, nI_1]
        exact ih'
      · rw [es, if_neg hb] at ih'
        rw [if_neg hb, if_pos rfl, pu_rd (by omega) (by decide), Option.bind_some, e2, pu_rd q2 (by decide), Option.bind_some, hL' _ q2, pu_fittedC hF hK hE hac hL hle hR hlt, Option.bind_some]
        generalize vF L a c (fun f => (ms f).toInt) (fun f => (rd f).toInt) fc d i = v at ih'
        unfold xF at ih'
        by_cases z2 : L' (c i) = t
        · rw [if_pos z2] at ih'
          rw [if_pos (by rw [z2]), pu_lt, pu_rd (by omega) (by decide), Option.bind_some, e1, pu_rd q1 (by decide), Option.bind_some, hL' _ q1]
          by_cases z1 : L' (a i) = t
          · rw [if_pos z1] at ih'
            rw [if_pos (by rw [z1]), Option.bind_some, pu_lt, pu_lt, nI_1, oL_add, oL_sub, ← ih']
            exact congrArg (fun z => fX0_valueAbove_L59 N n (nI t) (oL z) (nI (i + 1)) (nI S) (oL d) lh ls rows (nI F) fr tt rd ms) (by omega)
          · rw [if_neg z1] at ih'
            rw [if_neg (fun q => z1 ((nI_eq (by omega) (by omega)).mp q)), pu_lt, pu_lt, nI_1, oL_add, oL_0, oL_sub, ← ih']
            exact congrArg (fun z => fX0_valueAbove_L59 N n (nI t) (oL z) (nI (i + 1)) (nI S) (oL d) lh ls rows (nI F) fr tt rd ms) (by omega)
        · rw [if_neg z2] at ih'
          rw [if_neg (fun q => z2 ((nI_eq (by omega) (by omega)).mp q)), pu_lt, pu_rd (by omega) (by decide), Option.bind_some, e1, pu_rd q1 (by decide), Option.bind_some, hL' _ q1]
          by_cases z1 : L' (a i) = t
          · rw [if_pos z1] at ih'
            rw [if_pos (by rw [z1]), Option.bind_some, pu_lt, pu_lt, nI_1, oL_0, oL_add, oL_sub, ← ih']
            exact congrArg (fun z => fX0_valueAbove_L59 N n (nI t) (oL z) (nI (i + 1)) (nI S) (oL d) lh ls rows (nI F) fr tt rd ms) (by omega)
          · rw [if_neg z1] at ih'
            rw [if_neg (fun q => z1 ((nI_eq (by omega) (by omega)).mp q)), pu_lt, pu_lt, nI_1, oL_0, oL_add, oL_sub, ← ih']
            exact congrArg (fun z => fX0_valueAbove_L59 N n (nI t) (oL z) (nI (i + 1)) (nI S) (oL d) lh ls rows (nI F) fr tt rd ms) (by omega)
theorem pu_value43 {N F R K t : Nat} {d : Int} {lh ls fr tt rd ms pr b : Nat → Int32} {fo : Nat → Int64} {L L' a c : Nat → Nat} {fc : Nat → Int} (hF : F ≤ 10) (hK : K ≤ 6) (hM : Mb F R fr tt b) (hX : Mx F rd ms pr b) (hE : Ends F fr tt a c) (hac : ∀ f, f < F → a f < K ∧ c f < K) (hL : Lr lh L) (hle : ∀ k, L k ≤ k) (hR : ∀ k, k < K → fo k = oL (fc k)) (hs : Sr ls (fun k => decide (L' k = t))) : ∀ (n i : Nat), i ≤ F → F - i < n → fX5_valueOf_L43 N n (oL (- siF (unr F R) L' a c i (vF L a c (fun f => (ms f).toInt) (fun f => (rd f).toInt) fc d) t)) (nI i) (oL d) b lh fo ls = some (oL (- siF (unr F R) L' a c F (vF L a c (fun f => (ms f).toInt) (fun f => (rd f).toInt) fc d) t)) := by
  intro n
  induction n with
  | zero => intro i h1 h2; omega
  | succ n ih =>
    intro i h1 h2
    unfold fX5_valueOf_L43
    rw [pu_flows, hM.1, Option.bind_some]
    by_cases hi : i = F
    · subst hi
      rw [if_pos (nI_le (Nat.le_refl _) (by omega))]
    · have hlt : i < F := by omega
      obtain ⟨q1, q2, -, e1, e2⟩ := hE i hlt
      obtain ⟨m0, m1, -⟩ := hM.2 i hlt
      obtain ⟨m3, m4, -⟩ := hX i hlt
      have es : siF (unr F R) L' a c (i + 1) (vF L a c (fun f => (ms f).toInt) (fun f => (rd f).toInt) fc d) t = siF (unr F R) L' a c i (vF L a c (fun f => (ms f).toInt) (fun f => (rd f).toInt) fc d) t + (if (unr F R).testBit i then 0 else vF L a c (fun f => (ms f).toInt) (fun f => (rd f).toInt) fc d i * xF L' a c t i) := rfl
      have ih' := ih (i + 1) (by omega) (by omega)
      rw [es, unr_P hF hlt] at ih'
      rw [if_neg (nI_ge hlt (by omega)), pu_isRead hF hM hlt, Option.bind_some]
      by_cases hb : R.testBit i = true
      · rw [if_neg (show ¬ (!R.testBit i) = true by simp [hb])] at ih'
        rw [if_pos hb, if_neg (show ¬ (1 : Int32) = 0 by decide), pu_get (f := i) (x := 0) 0 rfl (by omega), Option.bind_some, m0, e1, pu_rd q1 (by decide), Option.bind_some, pu_get (f := i) (x := 1) 1 rfl (by omega), Option.bind_some, m1, e2, pu_rd q2 (by decide), Option.bind_some, hs _ q1, hs _ q2, pu_get (f := i) (x := 3) 3 rfl (by omega), Option.bind_some, m3, pu_changeM hF hK hM hX hE hac hL hle hR hlt, Option.bind_some]
        simp only [pu_lt, Option.bind_some]
        rw [oL_i32, oL_mul, oL_add, pu_rd q1 (by decide), Option.bind_some, hs _ q1, nI_1]
        have ev : vF L a c (fun f => (ms f).toInt) (fun f => (rd f).toInt) fc d i = (rd i).toInt * d + (ms i).toInt * dlF L a c fc i := rfl
        rw [ev] at ih'
        generalize (rd i).toInt * d + (ms i).toInt * dlF L a c fc i = v at ih'
        unfold xF at ih'
        by_cases z1 : L' (a i) = t
        · by_cases z2 : L' (c i) = t
          · rw [if_pos z1, if_pos z2] at ih'
            simp only [z1, z2, decide_true, if_true]
            rw [← ih']
            exact congrArg (fun z => fX5_valueOf_L43 N n (oL z) (nI (i + 1)) (oL d) b lh fo ls) (by omega)
          · rw [if_pos z1, if_neg z2] at ih'
            simp only [z1, z2, decide_true, decide_false, if_true]
            rw [if_neg (show ¬ (1 : Int32) = if false = true then 1 else 0 by decide), if_neg (show ¬ (1 : Int32) = 0 by decide), oL_add, ← ih']
            exact congrArg (fun z => fX5_valueOf_L43 N n (oL z) (nI (i + 1)) (oL d) b lh fo ls) (by omega)
        · by_cases z2 : L' (c i) = t
          · rw [if_neg z1, if_pos z2] at ih'
            simp only [z1, z2, decide_true, decide_false, if_true]
            rw [if_neg (show ¬ (if false = true then 1 else 0) = (1 : Int32) by decide), if_pos (show (if false = true then 1 else 0) = (0 : Int32) by decide), oL_neg, oL_add, ← ih']
            exact congrArg (fun z => fX5_valueOf_L43 N n (oL z) (nI (i + 1)) (oL d) b lh fo ls) (by omega)
          · rw [if_neg z1, if_neg z2] at ih'
            simp only [z1, z2, decide_false]
            rw [if_pos True.intro, ← ih']
            exact congrArg (fun z => fX5_valueOf_L43 N n (oL z) (nI (i + 1)) (oL d) b lh fo ls) (by omega)
      · rw [if_pos (show (!R.testBit i) = true by simp [hb]), Int.add_zero] at ih'
        rw [if_neg hb, if_pos rfl, pu_lt, nI_1]
        exact ih'
/-- the value, times what is below -/
def vlF (S F K : Nat) (a c : Nat → Nat) (mv rv : Nat → Int) (f : Nat) : Int := if S.testBit f then siF S (gat (clr S f).testBit a c F) a c F (vF (gat S.testBit a c F) a c mv rv (fcF S F K a c mv rv) (blF S F K a c mv rv)) (gat (clr S f).testBit a c F (a f)) else vF (gat S.testBit a c F) a c mv rv (fcF S F K a c mv rv) (blF S F K a c mv rv) f
theorem vlF_bound {S F K f : Nat} {a c : Nat → Nat} {mv rv : Nat → Int} (hF : F ≤ 10) (hK : K ≤ 6) (hac : ∀ f, f < F → a f < K ∧ c f < K) (hmv : ∀ f, f < F → 1 ≤ mv f ∧ mv f ≤ 4) (hrv : ∀ f, f < F → -2000 ≤ rv f ∧ rv f ≤ 2000) (hf : f < F) : -1300000000000000 ≤ vlF S F K a c mv rv f ∧ vlF S F K a c mv rv f ≤ 1300000000000000 := by
  have hv : ∀ e, e < F → -130000000000000 ≤ vF (gat S.testBit a c F) a c mv rv (fcF S F K a c mv rv) (blF S F K a c mv rv) e ∧ vF (gat S.testBit a c F) a c mv rv (fcF S F K a c mv rv) (blF S F K a c mv rv) e ≤ 130000000000000 := fun e he => by
    have h1 := dlF_bound (fc := fcF S F K a c mv rv) (gat_le S.testBit a c F) hac (fun k hk => fcF_bound hK hF hmv hrv hk) he
    obtain ⟨h2, h3⟩ := blF_pos (S := S) (a := a) (c := c) hK hF hmv hrv
    have h4 := mul_bound (p := 4) (by decide) (by have := (hmv e he).1; omega) (hmv e he).2 h1.1 h1.2
    have h5 := mul_bound (p := 2000) (q := 39135393) (by decide) (hrv e he).1 (hrv e he).2 (show -39135393 ≤ blF S F K a c mv rv by omega) h3
    unfold vF
    omega
  unfold vlF
  by_cases hb : S.testBit f = true
  · rw [if_pos hb]
    have hx : ∀ e, e < F → -130000000000000 ≤ (if S.testBit e then 0 else vF (gat S.testBit a c F) a c mv rv (fcF S F K a c mv rv) (blF S F K a c mv rv) e * xF (gat (clr S f).testBit a c F) a c (gat (clr S f).testBit a c F (a f)) e) ∧ (if S.testBit e then 0 else vF (gat S.testBit a c F) a c mv rv (fcF S F K a c mv rv) (blF S F K a c mv rv) e * xF (gat (clr S f).testBit a c F) a c (gat (clr S f).testBit a c F (a f)) e) ≤ 130000000000000 := fun e he => by
      by_cases z : S.testBit e = true
      · rw [if_pos z]
        decide
      · rw [if_neg z]
        have h1 : -1 ≤ xF (gat (clr S f).testBit a c F) a c (gat (clr S f).testBit a c F (a f)) e ∧ xF (gat (clr S f).testBit a c F) a c (gat (clr S f).testBit a c F (a f)) e ≤ 1 := by
          unfold xF
          split <;> split <;> decide
        have := mul_bound (p := 130000000000000) (q := 1) (by decide) (hv e he).1 (hv e he).2 h1.1 h1.2
        omega
    have h1 := sm_le (g := fun _ => 130000000000000) F (fun e he => (hx e he).2)
    have h2 := sm_le (f := fun _ => -130000000000000) F (fun e he => (hx e he).1)
    rw [sm_const] at h1 h2
    unfold siF
    omega
  · rw [if_neg hb]
    have := hv f hf
    omega
theorem pu_valueC {N S F K f : Nat} {lh ls fr tt rd ms : Nat → Int32} {rows : Nat → Nat → Int64} {a c : Nat → Nat} (hN : 5000 ≤ N) (hF : F ≤ 10) (hS : S < 1024) (hK : K ≤ 6) (hE : Ends F fr tt a c) (hac : ∀ f, f < F → a f < K ∧ c f < K) (hL : Lr lh (gat S.testBit a c F)) (hR : ∀ k, k < K → rows k 6 = oL (fcF S F K a c (fun f => (ms f).toInt) (fun f => (rd f).toInt) k)) (hf : f < F) : ∃ ls', fX0_valueAbove N (nI S) (oL (blF S F K a c (fun f => (ms f).toInt) (fun f => (rd f).toInt))) lh ls rows (nI F) fr tt rd ms (nI f) = some (oL (vlF S F K a c (fun f => (ms f).toInt) (fun f => (rd f).toInt) f), ls') := by
  obtain ⟨q1, q2, -, e1, e2⟩ := hE f hf
  unfold fX0_valueAbove vlF
  rw [pu_holds hS (by omega), Option.bind_some]
  by_cases hb : S.testBit f = true
  · obtain ⟨ls', e3, h3⟩ := pu_gather (l := ls) (S := clr S f) hN hF (Nat.lt_of_le_of_lt (clr_le _ _) hS) hE
    refine ⟨ls', ?_⟩
    have hl := gat_le (clr S f).testBit a c F (a f)
    rw [if_pos hb, if_pos hb, if_neg (show ¬ (1 : Int32) = 0 by decide), pu_bit (by omega), Option.bind_some, pu_not, pu_and, show S &&& (2 ^ f ^^^ 4294967295) = clr S f from rfl, e3, Option.bind_some]
    dsimp only
    rw [pu_rd (by omega) (by decide), Option.bind_some, e1, pu_rd q1 (by decide), Option.bind_some, h3 _ q1]
    have := pu_value59 (N := N) (S := S) (t := gat (clr S f).testBit a c F (a f)) (d := blF S F K a c (fun f => (ms f).toInt) (fun f => (rd f).toInt)) (rd := rd) (ms := ms) hF hS hK hE hac hL (gat_le _ _ _ _) hR h3 (gat_le _ _ _ _) (by omega) N 0 (Nat.zero_le F) (by omega)
    rw [show (0 : Int64) = oL (siF S (gat (clr S f).testBit a c F) a c 0 (vF (gat S.testBit a c F) a c (fun f => (ms f).toInt) (fun f => (rd f).toInt) (fcF S F K a c (fun f => (ms f).toInt) (fun f => (rd f).toInt)) (blF S F K a c (fun f => (ms f).toInt) (fun f => (rd f).toInt))) (gat (clr S f).testBit a c F (a f))) from rfl, show (0 : Int32) = nI 0 from rfl, this, Option.bind_some]
  · rw [if_neg hb, if_neg hb, if_pos rfl, pu_fittedC hF hK hE hac hL (gat_le _ _ _ _) hR hf, Option.bind_some]
    exact ⟨ls, rfl⟩
theorem pu_valueM {N F R K f : Nat} {lh sd fr tt rd ms pr b : Nat → Int32} {fo : Nat → Int64} {a c : Nat → Nat} (hN : 5000 ≤ N) (hF : F ≤ 10) (hK : K ≤ 6) (hM : Mb F R fr tt b) (hX : Mx F rd ms pr b) (hE : Ends F fr tt a c) (hac : ∀ f, f < F → a f < K ∧ c f < K) (hmv : ∀ f, f < F → 1 ≤ (ms f).toInt) (hL : Lr lh (gat (unr F R).testBit a c F)) (hR : ∀ k, k < K → fo k = oL (fcF (unr F R) F K a c (fun f => (ms f).toInt) (fun f => (rd f).toInt) k)) (hf : f < F) (hsn : R.testBit f = false → gat (clr (unr F R) f).testBit a c F (a f) ≠ gat (clr (unr F R) f).testBit a c F (c f)) : ∃ sd', fX5_valueOf N (oL (blF (unr F R) F K a c (fun f => (ms f).toInt) (fun f => (rd f).toInt))) b lh fo sd (nI f) = some (oL (vlF (unr F R) F K a c (fun f => (ms f).toInt) (fun f => (rd f).toInt) f), sd') := by
  obtain ⟨q1, q2, -, e1, e2⟩ := hE f hf
  obtain ⟨m0, m1, -⟩ := hM.2 f hf
  obtain ⟨m3, m4, -⟩ := hX f hf
  unfold fX5_valueOf vlF
  rw [pu_isRead hF hM hf, Option.bind_some, unr_P hF hf]
  by_cases hb : R.testBit f = true
  · rw [if_pos hb, if_neg (show ¬ (1 : Int32) = 0 by decide), if_neg (show ¬ (!R.testBit f) = true by simp [hb]), pu_get (f := f) (x := 3) 3 rfl (by omega), Option.bind_some, m3, pu_changeM hF hK hM hX hE hac hL (gat_le _ _ _ _) hR hf, Option.bind_some, oL_i32, oL_mul, oL_add]
    exact ⟨sd, rfl⟩
  · obtain ⟨sd', e3, h3⟩ := pu_sides (l := sd) (P := (clr (unr F R) f).testBit) hN hF hM hE hf q2 (fun g hg => clr_P hF hg)
    refine ⟨sd', ?_⟩
    rw [if_neg hb, if_pos rfl, if_pos (show (!R.testBit f) = true by simp [hb]), pu_get (f := f) (x := 1) 1 rfl (by omega), Option.bind_some, m1, e2, e3, Option.bind_some]
    have := pu_value43 (N := N) (t := gat (clr (unr F R) f).testBit a c F (c f)) (L' := gat (clr (unr F R) f).testBit a c F) (d := blF (unr F R) F K a c (fun f => (ms f).toInt) (fun f => (rd f).toInt)) hF hK hM hX hE hac hL (gat_le _ _ _ _) hR h3 N 0 (Nat.zero_le F) (by omega)
    rw [si_eq hF hK hmv hac hf (by rw [unr_P hF hf]; simp [hb]) (hsn (by simpa using hb)), show (0 : Int64) = oL (- siF (unr F R) (gat (clr (unr F R) f).testBit a c F) a c 0 (vF (gat (unr F R).testBit a c F) a c (fun f => (ms f).toInt) (fun f => (rd f).toInt) (fcF (unr F R) F K a c (fun f => (ms f).toInt) (fun f => (rd f).toInt)) (blF (unr F R) F K a c (fun f => (ms f).toInt) (fun f => (rd f).toInt))) (gat (clr (unr F R) f).testBit a c F (c f))) from rfl, show (0 : Int32) = nI 0 from rfl, this, Option.bind_some]
