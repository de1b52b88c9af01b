/-! ===== the reference's heaps are the same fold ===== -/
theorem jn_left {L : Nat → Nat} {a b : Nat} : jn L a b a = min (L a) (L b) := by
  unfold jn
  split <;> omega
theorem jn_right {L : Nat → Nat} {a b : Nat} : jn L a b b = min (L a) (L b) := by
  unfold jn
  split <;> omega
theorem jn_keep {L : Nat → Nat} {a b x y : Nat} (h : L x = L y) : jn L a b x = jn L a b y := by
  unfold jn
  rw [h]
/-- a flow of the set joins its ends -/
theorem gat_conn (P : Nat → Bool) (a c : Nat → Nat) : ∀ F f, f < F → P f = true → gat P a c F (a f) = gat P a c F (c f)
  | 0, f, h, _ => absurd h (Nat.not_lt_zero f)
  | F + 1, f, h, hp => by
    show (if P F = true then jn _ _ _ else _) (a f) = (if P F = true then jn _ _ _ else _) (c f)
    by_cases e : f = F
    · subst e
      rw [if_pos hp, jn_left, jn_right]
    · have ih := gat_conn P a c F f (by omega) hp
      by_cases hq : P F = true
      · rw [if_pos hq]
        exact jn_keep ih
      · rw [if_neg hq]
        exact ih
theorem pu_heaps78 {N p q : Nat} (hp : p < 6) (hq : q < 6) {y1 y2 : Int32} : ∀ (n i : Nat) (l : Nat → Int32), i ≤ 6 → 6 - i < n → fX5_heaps_L78 N n y1 y2 (nI p) (nI q) (nI i) l = some (fun k => if i ≤ k ∧ k < 6 ∧ l k = nI (max p q) then nI (min p q) else l k) := by
  intro n
  induction n with
  | zero => intro i l h1 h2; omega
  | succ n ih =>
    intro i l h1 h2
    unfold fX5_heaps_L78
    by_cases h : i = 6
    · subst h
      rw [if_pos (show (6 : Int32) ≤ nI 6 from nI_le (a := 6) (Nat.le_refl _) (by decide))]
      refine congrArg some (funext fun k => ?_)
      rw [if_neg (by omega)]
    · rw [if_neg (show ¬ (6 : Int32) ≤ nI i from nI_ge (b := 6) (by omega) (by decide)), pu_rd (by omega) (by decide), Option.bind_some]
      have hyes : l i = nI (max p q) → fX5_heaps_L78 N n y1 y2 (nI p) (nI q) (nI (i + 1)) (ya_up l i (nI (min p q))) = some (fun k => if i ≤ k ∧ k < 6 ∧ l k = nI (max p q) then nI (min p q) else l k) := fun hv => by
        rw [ih (i + 1) _ (by omega) (by omega)]
        refine congrArg some (funext fun k => ?_)
        by_cases hk : k = i
        · subst hk
          rw [if_neg (by omega), if_pos ⟨Nat.le_refl _, by omega, hv⟩, ya_up_eq]
        · rw [ya_up_ne hk]
          by_cases hc : i + 1 ≤ k ∧ k < 6 ∧ l k = nI (max p q)
          · rw [if_pos hc, if_pos ⟨by omega, hc.2.1, hc.2.2⟩]
          · rw [if_neg hc, if_neg (fun z => hc ⟨by omega, z.2.1, z.2.2⟩)]
      have hno : ¬ l i = nI (max p q) → fX5_heaps_L78 N n y1 y2 (nI p) (nI q) (nI (i + 1)) l = some (fun k => if i ≤ k ∧ k < 6 ∧ l k = nI (max p q) then nI (min p q) else l k) := fun hv => by
        rw [ih (i + 1) _ (by omega) (by omega)]
        refine congrArg some (funext fun k => ?_)
        by_cases hc : i + 1 ≤ k ∧ k < 6 ∧ l k = nI (max p q)
        · rw [if_pos hc, if_pos ⟨by omega, hc.2.1, hc.2.2⟩]
        · rw [if_neg hc, if_neg (fun z => hc ⟨by
            have := z.1
            by_cases e : k = i
            · subst e; exact absurd z.2.2 hv
            · omega, z.2.1, z.2.2⟩)]
      by_cases hpq : p ≤ q
      · rw [if_pos (nI_le hpq (by omega))]
        rw [Nat.max_eq_right hpq, Nat.min_eq_left hpq] at hyes hno ⊢
        by_cases hv : l i = nI q
        · rw [if_pos hv]
          by_cases e : q ≤ p
          · have : p = q := by omega
            subst this
            rw [if_pos (nI_le e (by omega)), pu_wr (by omega) (by decide), Option.bind_some, pu_lt, nI_1]
            exact hyes hv
          · rw [if_neg (nI_ge (by omega) (by omega)), pu_wr (by omega) (by decide), Option.bind_some, pu_lt, nI_1]
            exact hyes hv
        · rw [if_neg hv, pu_lt, nI_1]
          exact hno hv
      · rw [if_neg (nI_ge (by omega) (by omega))]
        rw [Nat.max_eq_left (by omega), Nat.min_eq_right (by omega)] at hyes hno ⊢
        by_cases hv : l i = nI p
        · rw [if_pos hv, if_pos (nI_le (by omega) (by omega)), pu_wr (by omega) (by decide), Option.bind_some, pu_lt, nI_1]
          exact hyes hv
        · rw [if_neg hv, pu_lt, nI_1]
          exact hno hv
