/-! ===== spare flows ===== -/
def isSp (R : Nat) (L a c : Nat → Nat) (f : Nat) : Bool := R.testBit f && !decide (L (a f) = L (c f))
theorem pu_isSpareIn {F R f : Nat} {fr tt l : Nat → Int32} {a c L : Nat → Nat} (hF : F ≤ 10) (hR : R < 1024) (hE : Ends F fr tt a c) (hf : f < F) (hL : Lr l L) (hle : ∀ k, L k ≤ k) : fX4_isSpareIn (nI R) fr tt l (nI f) = some (if isSp R L a c f then 1 else 0) := by
  unfold fX4_isSpareIn isSp
  rw [pu_holds hR (by omega), Option.bind_some, pu_parts hF hE hf hL hle, Option.bind_some]
  by_cases h1 : R.testBit f = true
  · by_cases h2 : L (a f) = L (c f)
    · simp [h1, h2]
    · simp [h1, h2]
  · simp [h1]
theorem pu_spare23 {N F R : Nat} {fr tt l : Nat → Int32} {a c L : Nat → Nat} (hF : F ≤ 10) (hR : R < 1024) (hE : Ends F fr tt a c) (hL : Lr l L) (hle : ∀ k, L k ≤ k) : ∀ (n i S : Nat), i ≤ F → F - i < n → S < 2 ^ i → (∀ f, f < i → S.testBit f = isSp R L a c f) → ∃ S', fX4_spareSet_L23 N n (nI S) (nI i) (nI F) (nI R) fr tt l = some (nI S') ∧ S' < 2 ^ F ∧ ∀ f, f < F → S'.testBit f = isSp R L a c f := by
  intro n
  induction n with
  | zero => intro i S h1 h2; omega
  | succ n ih =>
    intro i S h1 h2 h3 h4
    unfold fX4_spareSet_L23
    by_cases hi : i = F
    · subst hi
      rw [if_pos (nI_le (Nat.le_refl _) (by omega))]
      exact ⟨S, rfl, h3, h4⟩
    · have hlt : i < F := by omega
      have hS : S < 2 ^ (i + 1) := Nat.lt_of_lt_of_le h3 (Nat.pow_le_pow_right (by decide) (by omega))
      rw [if_neg (nI_ge hlt (by omega)), pu_isSpareIn hF hR hE hlt hL hle, Option.bind_some]
      by_cases hs : isSp R L a c i = true
      · rw [if_pos hs, if_neg (show ¬ (1 : Int32) = 0 by decide), pu_bit (by omega), Option.bind_some, pu_lt, pu_or, pu_lt, nI_1]
        refine ih (i + 1) (S ||| 2 ^ i) (by omega) (by omega) (set_lt hS (by omega)) (fun f hf => ?_)
        rw [set_bit]
        by_cases e : f = i
        · subst e; simp [hs]
        · rw [h4 f (by omega)]; simp [e]
      · rw [if_neg hs, if_pos rfl, pu_lt, nI_1]
        refine ih (i + 1) S (by omega) (by omega) hS (fun f hf => ?_)
        by_cases e : f = i
        · subst e
          rw [Nat.testBit_lt_two_pow h3]
          simpa using hs
        · exact h4 f (by omega)
