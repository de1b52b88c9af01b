/-! ===== knots that hang together: the fold that both sides do ===== -/
def jn (L : Nat → Nat) (a b : Nat) : Nat → Nat := fun k => if L k = max (L a) (L b) then min (L a) (L b) else L k
def gat (P : Nat → Bool) (fr tt : Nat → Nat) : Nat → Nat → Nat
  | 0 => fun k => k
  | F + 1 => if P F then jn (gat P fr tt F) (fr F) (tt F) else gat P fr tt F
/-- no round among the first flows of the set -/
def rless (P : Nat → Bool) (fr tt : Nat → Nat) : Nat → Bool
  | 0 => true
  | F + 1 => rless P fr tt F && !(P F && decide (gat P fr tt F (fr F) = gat P fr tt F (tt F)))
theorem gat_le (P : Nat → Bool) (fr tt : Nat → Nat) : ∀ F k, gat P fr tt F k ≤ k
  | 0, k => Nat.le_refl k
  | F + 1, k => by
    have h := gat_le P fr tt F
    unfold gat
    split
    · unfold jn
      have := h k
      split <;> omega
    · exact h k
theorem jn_same {L : Nat → Nat} {a b : Nat} (h : L a = L b) : jn L a b = L := by
  funext k
  unfold jn
  rw [h, Nat.max_self, Nat.min_self]
  split
  · omega
  · rfl
def Lr (l : Nat → Int32) (L : Nat → Nat) : Prop := ∀ k, k < 6 → l k = nI (L k)
theorem pu_join16 {N : Nat} {lo hi : Int32} : ∀ (n i : Nat) (l : Nat → Int32), i ≤ 6 → 6 - i < n → fX1_join_L16 N n lo hi (nI i) l = some (fun k => if i ≤ k ∧ k < 6 ∧ l k = hi then lo else l k) := by
  intro n
  induction n with
  | zero => intro i l h1 h2; omega
  | succ n ih =>
    intro i l h1 h2
    unfold fX1_join_L16
    by_cases h : i = 6
    · subst h
      rw [if_pos (show (6 : Int32) ≤ nI 6 from nI_le (a := 6) (Nat.le_refl _) (by decide))]
      refine congrArg some (funext fun k => ?_)
      rw [if_neg (by omega)]
    · rw [if_neg (show ¬ (6 : Int32) ≤ nI i from nI_ge (b := 6) (by omega) (by decide)), pu_rd (by omega) (by decide), Option.bind_some]
      by_cases hv : l i = hi
      · rw [if_pos hv, pu_wr (by omega) (by decide), Option.bind_some, pu_lt, nI_1, ih (i + 1) _ (by omega) (by omega)]
        refine congrArg some (funext fun k => ?_)
        by_cases hk : k = i
        · subst hk
          rw [if_neg (by omega), if_pos ⟨Nat.le_refl _, by omega, hv⟩, ya_up_eq]
        · rw [ya_up_ne hk]
          by_cases hq : i + 1 ≤ k ∧ k < 6 ∧ l k = hi
          · rw [if_pos hq, if_pos ⟨by omega, hq.2.1, hq.2.2⟩]
          · rw [if_neg hq, if_neg (fun q => hq ⟨by omega, q.2.1, q.2.2⟩)]
      · rw [if_neg hv, pu_lt, nI_1, ih (i + 1) _ (by omega) (by omega)]
        refine congrArg some (funext fun k => ?_)
        by_cases hq : i + 1 ≤ k ∧ k < 6 ∧ l k = hi
        · rw [if_pos hq, if_pos ⟨by omega, hq.2.1, hq.2.2⟩]
        · rw [if_neg hq, if_neg (fun q => hq ⟨by
            have := q.1
            by_cases e : k = i
            · subst e; exact absurd q.2.2 hv
            · omega, q.2.1, q.2.2⟩)]
theorem pu_join {N : Nat} (hN : 5000 ≤ N) {l : Nat → Int32} {L : Nat → Nat} (hL : Lr l L) (hle : ∀ k, L k ≤ k) {a b : Nat} (ha : a < 6) (hb : b < 6) : ∃ l', fX1_join N l (nI (L a)) (nI (L b)) = some l' ∧ Lr l' (jn L a b) := by
  have h1 := hle a
  have h2 := hle b
  unfold fX1_join
  rw [pu_lt, pu_lt, show (0 : Int32) = nI 0 from rfl, pu_join16 N 0 l (by decide) (by omega), Option.bind_some]
  refine ⟨_, rfl, fun k hk => ?_⟩
  have h3 := hle k
  have e1 : (if nI (L b) < nI (L a) then nI (L b) else nI (L a)) = nI (min (L a) (L b)) := by
    by_cases h : L b < L a
    · rw [if_pos (nI_lt h (by omega)), Nat.min_eq_right (by omega)]
    · rw [if_neg (nI_nlt (by omega) (by omega)), Nat.min_eq_left (by omega)]
  have e2 : (if nI (L a) < nI (L b) then nI (L b) else nI (L a)) = nI (max (L a) (L b)) := by
    by_cases h : L a < L b
    · rw [if_pos (nI_lt h (by omega)), Nat.max_eq_right (by omega)]
    · rw [if_neg (nI_nlt (by omega) (by omega)), Nat.max_eq_left (by omega)]
  rw [e1, e2, hL k hk]
  unfold jn
  by_cases h : L k = max (L a) (L b)
  · rw [if_pos h, if_pos ⟨Nat.zero_le _, hk, by rw [h]⟩]
  · rw [if_neg h, if_neg (fun q => h ((nI_eq (by omega) (by omega)).mp q.2.2))]
theorem pu_gather2 {N : Nat} {x : Int32} : ∀ (n i : Nat) (l : Nat → Int32), i ≤ 6 → 6 - i < n → fX1_gather_L2 N n x (nI i) l = some (fun k => if i ≤ k ∧ k < 6 then nI k else l k) := by
  intro n
  induction n with
  | zero => intro i l h1 h2; omega
  | succ n ih =>
    intro i l h1 h2
    unfold fX1_gather_L2
    by_cases h : i = 6
    · subst h
      rw [if_pos (show (6 : Int32) ≤ nI 6 from nI_le (a := 6) (Nat.le_refl _) (by decide))]
      refine congrArg some (funext fun k => ?_)
      rw [if_neg (by omega)]
    · rw [if_neg (show ¬ (6 : Int32) ≤ nI i from nI_ge (b := 6) (by omega) (by decide)), pu_wr (by omega) (by decide), Option.bind_some, pu_lt, nI_1, ih (i + 1) _ (by omega) (by omega)]
      refine congrArg some (funext fun k => ?_)
      by_cases hk : k = i
      · subst hk
        rw [if_neg (by omega), if_pos (by omega), ya_up_eq]
      · rw [ya_up_ne hk]
        by_cases hq : i + 1 ≤ k ∧ k < 6
        · rw [if_pos hq, if_pos (by omega)]
        · rw [if_neg hq, if_neg (by omega)]
/-- the ends of the flows, as numbers below six -/
def Ends (F : Nat) (fr tt : Nat → Int32) (a c : Nat → Nat) : Prop := ∀ f, f < F → a f < 6 ∧ c f < 6 ∧ a f ≠ c f ∧ fr f = nI (a f) ∧ tt f = nI (c f)
theorem pu_parts {F f : Nat} {fr tt l : Nat → Int32} {a c L : Nat → Nat} (hF : F ≤ 10) (hE : Ends F fr tt a c) (hf : f < F) (hL : Lr l L) (hle : ∀ k, L k ≤ k) : fX1_parts l fr tt (nI f) = some (if L (a f) = L (c f) then 0 else 1) := by
  obtain ⟨h1, h2, -, e1, e2⟩ := hE f hf
  have h3 := hle (a f)
  have h4 := hle (c f)
  unfold fX1_parts
  rw [pu_rd (by omega) (by decide), Option.bind_some, e1, pu_rd h1 (by decide), Option.bind_some, pu_rd (by omega) (by decide), Option.bind_some, e2, pu_rd h2 (by decide), Option.bind_some, hL _ h1, hL _ h2]
  by_cases h : L (a f) = L (c f)
  · rw [if_pos h, if_pos (by rw [h])]
  · rw [if_neg h, if_neg (fun q => h ((nI_eq (by omega) (by omega)).mp q))]
theorem pu_gather26 {N F S : Nat} (hN : 5000 ≤ N) (hF : F ≤ 10) (hS : S < 1024) {fr tt : Nat → Int32} {a c : Nat → Nat} (hE : Ends F fr tt a c) : ∀ (n i : Nat) (l : Nat → Int32), i ≤ F → F - i < n → Lr l (gat S.testBit a c i) → ∃ l', fX1_gather_L26 N n (nI S) (if rless S.testBit a c i then 1 else 0) (nI i) l (nI F) fr tt = some (if rless S.testBit a c F then 1 else 0, l') ∧ Lr l' (gat S.testBit a c F) := by
  intro n
  induction n with
  | zero => intro i l h1 h2; omega
  | succ n ih =>
    intro i l h1 h2 hL
    have hle := gat_le S.testBit a c i
    unfold fX1_gather_L26
    by_cases hi : i = F
    · subst hi
      rw [if_pos (nI_le (Nat.le_refl _) (by omega))]
      exact ⟨l, rfl, hL⟩
    · have hlt : i < F := by omega
      obtain ⟨g1, g2, -, e1, e2⟩ := hE i hlt
      rw [if_neg (nI_ge hlt (by omega)), pu_holds hS (by omega), Option.bind_some]
      by_cases hbit : S.testBit i = true
      · rw [if_pos hbit, if_neg (show ¬ (1 : Int32) = 0 by decide), pu_parts hF hE hlt hL hle, Option.bind_some]
        by_cases hs : gat S.testBit a c i (a i) = gat S.testBit a c i (c i)
        · have eg : gat S.testBit a c (i + 1) = gat S.testBit a c i := by
            show (if S.testBit i = true then jn _ _ _ else _) = _
            rw [if_pos hbit, jn_same hs]
          have er : rless S.testBit a c (i + 1) = false := by
            show (rless S.testBit a c i && !(S.testBit i && decide _)) = false
            rw [hbit]
            simp [hs]
          rw [if_pos hs, if_pos rfl, pu_lt, nI_1]
          have := ih (i + 1) l (by omega) (by omega) (by rw [eg]; exact hL)
          rw [er] at this
          exact this
        · have eg : gat S.testBit a c (i + 1) = jn (gat S.testBit a c i) (a i) (c i) := by
            show (if S.testBit i = true then jn _ _ _ else _) = _
            rw [if_pos hbit]
          have er : rless S.testBit a c (i + 1) = rless S.testBit a c i := by
            show (rless S.testBit a c i && !(S.testBit i && decide _)) = _
            simp [hs]
          obtain ⟨l2, j1, j2⟩ := pu_join hN hL hle g1 g2
          rw [if_neg hs, if_neg (show ¬ (1 : Int32) = 0 by decide), pu_rd (by omega) (by decide), Option.bind_some, e1, pu_rd g1 (by decide), Option.bind_some, pu_rd (by omega) (by decide), Option.bind_some, e2, pu_rd g2 (by decide), Option.bind_some, hL _ g1, hL _ g2, j1, Option.bind_some, pu_lt, nI_1]
          have := ih (i + 1) l2 (by omega) (by omega) (by rw [eg]; exact j2)
          rw [er] at this
          exact this
      · have eg : gat S.testBit a c (i + 1) = gat S.testBit a c i := by
          show (if S.testBit i = true then jn _ _ _ else _) = _
          rw [if_neg hbit]
        have er : rless S.testBit a c (i + 1) = rless S.testBit a c i := by
          show (rless S.testBit a c i && !(S.testBit i && decide _)) = _
          simp [hbit]
        rw [if_neg hbit, if_pos rfl, pu_lt, nI_1]
        have := ih (i + 1) l (by omega) (by omega) (by rw [eg]; exact hL)
        rw [er] at this
        exact this
theorem pu_gather {N F S : Nat} (hN : 5000 ≤ N) (hF : F ≤ 10) (hS : S < 1024) {fr tt l : Nat → Int32} {a c : Nat → Nat} (hE : Ends F fr tt a c) : ∃ l', fX1_gather N l (nI F) fr tt (nI S) = some (if rless S.testBit a c F then 1 else 0, l') ∧ Lr l' (gat S.testBit a c F) := by
  unfold fX1_gather
  rw [show (0 : Int32) = nI 0 from rfl, pu_gather2 N 0 l (by decide) (by omega), Option.bind_some]
  obtain ⟨l', e, h⟩ := pu_gather26 hN hF hS hE N 0 (fun k => if 0 ≤ k ∧ k < 6 then nI k else l k) (Nat.zero_le F) (by omega) (fun k hk => (if_pos (show 0 ≤ k ∧ k < 6 from ⟨Nat.zero_le k, hk⟩) : (if 0 ≤ k ∧ k < 6 then nI k else l k) = nI k))
  have e' : fX1_gather_L26 N N (nI S) 1 (nI 0) (fun k => if 0 ≤ k ∧ k < 6 then nI k else l k) (nI F) fr tt = some (if rless S.testBit a c F then 1 else 0, l') := e
  rw [e', Option.bind_some]
  refine ⟨l', ?_, h⟩
  show (ya_bo (if rless S.testBit a c F = true then 1 else 0)).bind _ = _
  rw [pu_bo, Option.bind_some]
  rfl
