/-! ===== the side of a flow: the closure in six rounds is the fold ===== -/
theorem gat_congr {P Q : Nat → Bool} {a c : Nat → Nat} : ∀ F, (∀ f, f < F → P f = Q f) → gat P a c F = gat Q a c F
  | 0, _ => rfl
  | F + 1, h => by
    show (if P F = true then jn (gat P a c F) _ _ else gat P a c F) = (if Q F = true then jn (gat Q a c F) _ _ else gat Q a c F)
    rw [gat_congr F (fun f hf => h f (by omega)), h F (by omega)]
/-- what is alike at both ends of each flow of the set is alike in a group -/
theorem gat_factor {β : Type} {P : Nat → Bool} {a c : Nat → Nat} {s : Nat → β} : ∀ F, (∀ f, f < F → P f = true → s (a f) = s (c f)) → ∀ x y, gat P a c F x = gat P a c F y → s x = s y
  | 0, _, x, y, h => by
    have : x = y := h
    rw [this]
  | F + 1, hc, x, y, h => by
    have ih := gat_factor (s := s) F (fun f hf hp => hc f (by omega) hp)
    have h' : (if P F = true then jn (gat P a c F) (a F) (c F) else gat P a c F) x = (if P F = true then jn (gat P a c F) (a F) (c F) else gat P a c F) y := h
    by_cases hp : P F = true
    · rw [if_pos hp] at h'
      have hs := hc F (by omega) hp
      have hin : ∀ z, (gat P a c F z = gat P a c F (a F) ∨ gat P a c F z = gat P a c F (c F)) → s z = s (a F) := by
        intro z hz
        rcases hz with hz | hz
        · exact ih z _ hz
        · exact (ih z _ hz).trans hs.symm
      unfold jn at h'
      by_cases e1 : gat P a c F x = gat P a c F y
      · exact ih x y e1
      · have hx : gat P a c F x = gat P a c F (a F) ∨ gat P a c F x = gat P a c F (c F) := by
          split at h' <;> split at h' <;> omega
        have hy : gat P a c F y = gat P a c F (a F) ∨ gat P a c F y = gat P a c F (c F) := by
          split at h' <;> split at h' <;> omega
        rw [hin x hx, hin y hy]
    · rw [if_neg hp] at h'
      exact ih x y h'
def sj (s : Nat → Bool) (a c : Nat) : Nat → Bool := fun k => if k = a ∨ k = c then (s a || s c) else s k
def sr (P : Nat → Bool) (a c : Nat → Nat) (s : Nat → Bool) : Nat → Nat → Bool
  | 0 => s
  | i + 1 => if P i then sj (sr P a c s i) (a i) (c i) else sr P a c s i
def srs (P : Nat → Bool) (a c : Nat → Nat) (F : Nat) (s : Nat → Bool) : Nat → Nat → Bool
  | 0 => s
  | r + 1 => sr P a c (srs P a c F s r) F
theorem sr_up {P : Nat → Bool} {a c : Nat → Nat} {s : Nat → Bool} {i k : Nat} (h : sr P a c s i k = true) : sr P a c s (i + 1) k = true := by
  show (if P i = true then sj (sr P a c s i) (a i) (c i) else sr P a c s i) k = true
  split
  · unfold sj
    split
    · rename_i e
      rcases e with e | e
      · rw [← e, h]; rfl
      · rw [← e, h]; simp
    · exact h
  · exact h
theorem sr_mono {P : Nat → Bool} {a c : Nat → Nat} {s : Nat → Bool} {k i : Nat} : ∀ d, sr P a c s i k = true → sr P a c s (i + d) k = true
  | 0, h => h
  | d + 1, h => sr_up (sr_mono d h)
theorem sr_sound {P : Nat → Bool} {a c L : Nat → Nat} {s : Nat → Bool} {v F : Nat} (hc : ∀ f, f < F → P f = true → L (a f) = L (c f)) (hs : ∀ x, s x = true → L x = v) : ∀ i, i ≤ F → ∀ x, sr P a c s i x = true → L x = v
  | 0, _, x, h => hs x h
  | i + 1, hi, x, h => by
    have ih := sr_sound hc hs i (by omega)
    have h' : (if P i = true then sj (sr P a c s i) (a i) (c i) else sr P a c s i) x = true := h
    by_cases hp : P i = true
    · rw [if_pos hp] at h'
      have e := hc i (by omega) hp
      unfold sj at h'
      split at h'
      · rename_i q
        rw [Bool.or_eq_true] at h'
        have hv : L (a i) = v := by
          rcases h' with h' | h'
          · exact ih _ h'
          · rw [e]; exact ih _ h'
        rcases q with q | q
        · rw [q]; exact hv
        · rw [q, ← e]; exact hv
      · exact ih x h'
    · rw [if_neg hp] at h'
      exact ih x h'
theorem sr_closed {P : Nat → Bool} {a c : Nat → Nat} {s : Nat → Bool} {F : Nat} (h6 : ∀ f, f < F → a f < 6 ∧ c f < 6) (h : ∀ k, k < 6 → sr P a c s F k = s k) : ∀ f, f < F → P f = true → s (a f) = s (c f) := by
  intro f hf hp
  have hmid : ∀ i, i ≤ F → ∀ k, k < 6 → sr P a c s i k = s k := by
    intro i hi k hk
    by_cases hs : s k = true
    · have := sr_mono (P := P) (a := a) (c := c) (s := s) (k := k) (i := 0) i hs
      rw [Nat.zero_add] at this
      rw [this, hs]
    · by_cases ht : sr P a c s i k = true
      · have := sr_mono (F - i) ht
        rw [show i + (F - i) = F by omega, h k hk] at this
        exact absurd this hs
      · rw [Bool.not_eq_true] at hs ht
        rw [hs, ht]
  obtain ⟨ha, hcc⟩ := h6 f hf
  have e1 := hmid (f + 1) (by omega) (a f) ha
  have e2 := hmid (f + 1) (by omega) (c f) hcc
  have e0 : sr P a c s (f + 1) = sj (sr P a c s f) (a f) (c f) := if_pos hp
  rw [e0] at e1 e2
  unfold sj at e1 e2
  rw [if_pos (Or.inl rfl)] at e1
  rw [if_pos (Or.inr rfl)] at e2
  exact e1.symm.trans e2
theorem sr_same {P : Nat → Bool} {a c : Nat → Nat} {s : Nat → Bool} {F : Nat} (h : ∀ f, f < F → P f = true → s (a f) = s (c f)) : ∀ i, i ≤ F → sr P a c s i = s
  | 0, _ => rfl
  | i + 1, hi => by
    show (if P i = true then sj (sr P a c s i) (a i) (c i) else sr P a c s i) = s
    rw [sr_same h i (by omega)]
    split
    · rename_i hp
      have e := h i (by omega) hp
      funext k
      unfold sj
      split
      · rename_i q
        rcases q with q | q
        · rw [q, ← e]; simp
        · rw [q, e]; simp
      · rfl
    · rfl
def cn6 (s : Nat → Bool) : Nat := (s 0).toNat + (s 1).toNat + (s 2).toNat + (s 3).toNat + (s 4).toNat + (s 5).toNat
theorem cn6_le (s : Nat → Bool) : cn6 s ≤ 6 := by
  unfold cn6
  have := Bool.toNat_le (s 0)
  have := Bool.toNat_le (s 1)
  have := Bool.toNat_le (s 2)
  have := Bool.toNat_le (s 3)
  have := Bool.toNat_le (s 4)
  have := Bool.toNat_le (s 5)
  omega
theorem cn6_eq {s t : Nat → Bool} (h : ∀ k, s k = true → t k = true) (hc : cn6 t ≤ cn6 s) : ∀ k, k < 6 → t k = s k := by
  have hb : ∀ k, (s k).toNat ≤ (t k).toNat := by
    intro k
    by_cases e : s k = true
    · rw [e, h k e]; exact Nat.le_refl _
    · rw [Bool.not_eq_true] at e
      rw [e]; exact Nat.zero_le _
  have h0 := hb 0
  have h1 := hb 1
  have h2 := hb 2
  have h3 := hb 3
  have h4 := hb 4
  have h5 := hb 5
  unfold cn6 at hc
  have hk : ∀ k, k < 6 → (t k).toNat = (s k).toNat := by
    intro k hk
    match k, hk with
    | 0, _ => omega
    | 1, _ => omega
    | 2, _ => omega
    | 3, _ => omega
    | 4, _ => omega
    | 5, _ => omega
  intro k h6
  have := hk k h6
  cases e1 : t k <;> cases e2 : s k <;> rw [e1, e2] at this <;> first | rfl | (simp at this)
theorem srs_closed {P : Nat → Bool} {a c : Nat → Nat} {s : Nat → Bool} {F : Nat} (h6 : ∀ f, f < F → a f < 6 ∧ c f < 6) (h1 : 1 ≤ cn6 s) : ∀ f, f < F → P f = true → srs P a c F s 6 (a f) = srs P a c F s 6 (c f) := by
  have key : ∀ r, (∀ f, f < F → P f = true → srs P a c F s r (a f) = srs P a c F s r (c f)) ∨ r + 1 ≤ cn6 (srs P a c F s r) := by
    intro r
    induction r with
    | zero => exact Or.inr h1
    | succ r ih =>
      by_cases hcl : ∀ f, f < F → P f = true → srs P a c F s r (a f) = srs P a c F s r (c f)
      · left
        show ∀ f, f < F → P f = true → sr P a c (srs P a c F s r) F (a f) = sr P a c (srs P a c F s r) F (c f)
        rw [sr_same hcl F (Nat.le_refl _)]
        exact hcl
      · right
        have ih' : r + 1 ≤ cn6 (srs P a c F s r) := ih.resolve_left hcl
        refine Classical.byContradiction fun hn => hcl ?_
        have hle : cn6 (sr P a c (srs P a c F s r) F) ≤ cn6 (srs P a c F s r) := by
          have : cn6 (srs P a c F s (r + 1)) = cn6 (sr P a c (srs P a c F s r) F) := rfl
          omega
        exact sr_closed h6 (cn6_eq (fun k hk => by
          have := sr_mono (P := P) (a := a) (c := c) (s := srs P a c F s r) (k := k) (i := 0) F hk
          rw [Nat.zero_add] at this
          exact this) hle)
  rcases key 6 with h | h
  · exact h
  · have := cn6_le (srs P a c F s 6)
    omega
theorem srs_sound {P : Nat → Bool} {a c L : Nat → Nat} {s : Nat → Bool} {v F : Nat} (hc : ∀ f, f < F → P f = true → L (a f) = L (c f)) (hs : ∀ x, s x = true → L x = v) : ∀ r x, srs P a c F s r x = true → L x = v
  | 0, x, h => hs x h
  | r + 1, x, h => sr_sound hc (srs_sound hc hs r) F (Nat.le_refl _) x h
theorem srs_up {P : Nat → Bool} {a c : Nat → Nat} {s : Nat → Bool} {F x : Nat} (h : s x = true) : ∀ r, srs P a c F s r x = true
  | 0 => h
  | r + 1 => by
    have := sr_mono (P := P) (a := a) (c := c) (s := srs P a c F s r) (k := x) (i := 0) F (srs_up h r)
    rw [Nat.zero_add] at this
    exact this
theorem srs_gat {P : Nat → Bool} {a c : Nat → Nat} {F k0 : Nat} (h6 : ∀ f, f < F → a f < 6 ∧ c f < 6) (hk0 : k0 < 6) (k : Nat) : srs P a c F (fun k => decide (k = k0)) 6 k = decide (gat P a c F k = gat P a c F k0) := by
  have h1 : 1 ≤ cn6 (fun k => decide (k = k0)) := by
    match k0, hk0 with
    | 0, _ => decide
    | 1, _ => decide
    | 2, _ => decide
    | 3, _ => decide
    | 4, _ => decide
    | 5, _ => decide
  by_cases h : gat P a c F k = gat P a c F k0
  · have := gat_factor F (srs_closed (P := P) h6 h1) k k0 h
    rw [this, srs_up (by simp)]
    simp [h]
  · have hn : ¬ srs P a c F (fun k => decide (k = k0)) 6 k = true := fun q => h (srs_sound (L := gat P a c F) (v := gat P a c F k0) (fun f hf hp => gat_conn P a c F f hf hp) (fun x hx => by
      have : x = k0 := by simpa using hx
      rw [this]) 6 k q)
    rw [Bool.not_eq_true] at hn
    rw [hn]
    simp [h]
/-! ===== the reference's sides ===== -/
def Sr (l : Nat → Int32) (s : Nat → Bool) : Prop := ∀ k, k < 6 → l k = if s k then 1 else 0
theorem pu_s2 {N k0 : Nat} (h0 : k0 < 6) {y2 : Int32} : ∀ (n i : Nat) (l : Nat → Int32), i ≤ 6 → 6 - i < n → (∀ k, k < i → l k = if decide (k = k0) then 1 else 0) → ∃ l', fX5_sides_L2 N n (nI k0) y2 (nI i) l = some l' ∧ Sr l' (fun k => decide (k = k0)) := by
  intro n
  induction n with
  | zero => intro i l h1 h2; omega
  | succ n ih =>
    intro i l h1 h2 h3
    unfold fX5_sides_L2
    by_cases h : i = 6
    · subst h
      rw [if_pos (show (6 : Int32) ≤ nI 6 from nI_le (a := 6) (Nat.le_refl _) (by decide))]
      exact ⟨l, rfl, h3⟩
    · rw [if_neg (show ¬ (6 : Int32) ≤ nI i from nI_ge (b := 6) (by omega) (by decide))]
      by_cases e : i = k0
      · rw [if_pos (by rw [e]), pu_wr (by omega) (by decide), Option.bind_some, pu_lt, nI_1]
        refine ih (i + 1) _ (by omega) (by omega) (fun k hk => ?_)
        by_cases q : k = i
        · subst q
          rw [ya_up_eq, e]; simp; rfl
        · rw [ya_up_ne q]
          exact h3 k (by omega)
      · rw [if_neg (fun q => e ((nI_eq (by omega) (by omega)).mp q)), pu_wr (by omega) (by decide), Option.bind_some, pu_lt, nI_1]
        refine ih (i + 1) _ (by omega) (by omega) (fun k hk => ?_)
        by_cases q : k = i
        · subst q
          rw [ya_up_eq]; simp [e]; rfl
        · rw [ya_up_ne q]
          exact h3 k (by omega)
theorem pu_s41 {N F R f : Nat} {y3 : Int32} {fr tt b : Nat → Int32} {a c : Nat → Nat} {P : Nat → Bool} {s : Nat → Bool} (hF : F ≤ 10) (hM : Mb F R fr tt b) (hE : Ends F fr tt a c) (hf : f < F) (hP : ∀ g, g < F → P g = (!R.testBit g && !decide (g = f))) : ∀ (n i : Nat) (l : Nat → Int32), i ≤ F → F - i < n → Sr l (sr P a c s i) → ∃ l', fX5_sides_L41 N n (nI f) y3 (nI i) b l = some l' ∧ Sr l' (sr P a c s F) := by
  intro n
  induction n with
  | zero => intro i l h1 h2; omega
  | succ n ih =>
    intro i l h1 h2 hL
    unfold fX5_sides_L41
    rw [pu_flows, hM.1, Option.bind_some]
    by_cases hi : i = F
    · subst hi
      rw [if_pos (nI_le (Nat.le_refl _) (by omega))]
      exact ⟨l, rfl, hL⟩
    · have hlt : i < F := by omega
      obtain ⟨g1, g2, -, e1, e2⟩ := hE i hlt
      obtain ⟨m0, m1, -⟩ := hM.2 i hlt
      rw [if_neg (nI_ge hlt (by omega)), pu_isRead hF hM hlt, Option.bind_some]
      have hstep : sr P a c s (i + 1) = if P i = true then sj (sr P a c s i) (a i) (c i) else sr P a c s i := rfl
      by_cases hb : R.testBit i = true
      · rw [if_pos hb, if_neg (show ¬ (1 : Int32) = 0 by decide), pu_lt, nI_1]
        refine ih (i + 1) l (by omega) (by omega) ?_
        rw [hstep, if_neg (by rw [hP i hlt, hb]; simp)]
        exact hL
      · rw [if_neg hb, if_pos rfl]
        by_cases hif : i = f
        · rw [if_pos (by rw [hif]), pu_lt, nI_1]
          refine ih (i + 1) l (by omega) (by omega) ?_
          rw [hstep, if_neg (by rw [hP i hlt]; simp [hif])]
          exact hL
        · have hp : P i = true := by rw [hP i hlt]; simp [hif, hb]
          rw [if_neg (fun q => hif ((nI_eq (by omega) (by omega)).mp q)), pu_get (f := i) (x := 0) 0 rfl (by omega), Option.bind_some, m0, e1, pu_rd g1 (by decide), Option.bind_some, hL _ g1]
          have hend : ∀ v : Bool, v = (sr P a c s i (a i) || sr P a c s i (c i)) → Sr (ya_up (ya_up l (a i) (if v then 1 else 0)) (c i) (if v then 1 else 0)) (sr P a c s (i + 1)) := by
            intro v hv k hk
            rw [hstep, if_pos hp]
            unfold sj
            by_cases q2 : k = c i
            · rw [q2, ya_up_eq, if_pos (Or.inr rfl), hv]
            · rw [ya_up_ne q2]
              by_cases q1 : k = a i
              · rw [q1, ya_up_eq, if_pos (Or.inl rfl), hv]
              · rw [ya_up_ne q1, if_neg (show ¬ (k = a i ∨ k = c i) by omega), hL k hk]
          by_cases s1 : sr P a c s i (a i) = true
          · rw [if_pos s1, if_neg (show ¬ (1 : Int32) = 0 by decide), Option.bind_some, pu_wr g1 (by decide), Option.bind_some, pu_get (f := i) (x := 1) 1 rfl (by omega), Option.bind_some, m1, e2, pu_wr g2 (by decide), Option.bind_some, pu_lt, nI_1]
            exact ih (i + 1) _ (by omega) (by omega) (hend true (by rw [s1]; rfl))
          · rw [if_neg s1, if_pos rfl, pu_get (f := i) (x := 1) 1 rfl (by omega), Option.bind_some, m1, e2, pu_rd g2 (by decide), Option.bind_some, hL _ g2]
            by_cases s2 : sr P a c s i (c i) = true
            · rw [if_pos s2, if_neg (show ¬ (1 : Int32) = 0 by decide), Option.bind_some, pu_wr g1 (by decide), Option.bind_some, Option.bind_some, pu_wr g2 (by decide), Option.bind_some, pu_lt, nI_1]
              exact ih (i + 1) _ (by omega) (by omega) (hend true (by rw [s2]; simp))
            · rw [if_neg s2, if_pos rfl, Option.bind_some, pu_wr g1 (by decide), Option.bind_some, Option.bind_some, pu_wr g2 (by decide), Option.bind_some, pu_lt, nI_1]
              exact ih (i + 1) _ (by omega) (by omega) (hend false (by rw [Bool.not_eq_true] at s1 s2; rw [s1, s2]; rfl))
theorem pu_s32 {N F R f : Nat} {fr tt b : Nat → Int32} {a c : Nat → Nat} {P : Nat → Bool} {s : Nat → Bool} (hN : 5000 ≤ N) (hF : F ≤ 10) (hM : Mb F R fr tt b) (hE : Ends F fr tt a c) (hf : f < F) (hP : ∀ g, g < F → P g = (!R.testBit g && !decide (g = f))) : ∀ (n i : Nat) (l : Nat → Int32), i ≤ 6 → 6 - i < n → Sr l (srs P a c F s i) → ∃ l', fX5_sides_L32 N n (nI f) (nI i) b l = some l' ∧ Sr l' (srs P a c F s 6) := by
  intro n
  induction n with
  | zero => intro i l h1 h2; omega
  | succ n ih =>
    intro i l h1 h2 hL
    unfold fX5_sides_L32
    by_cases h : i = 6
    · subst h
      rw [if_pos (show (6 : Int32) ≤ nI 6 from nI_le (a := 6) (Nat.le_refl _) (by decide))]
      exact ⟨l, rfl, hL⟩
    · obtain ⟨l', e, h'⟩ := pu_s41 (N := N) (y3 := nI i) (s := srs P a c F s i) hF hM hE hf hP N 0 l (Nat.zero_le F) (by omega) hL
      rw [if_neg (show ¬ (6 : Int32) ≤ nI i from nI_ge (b := 6) (by omega) (by decide)), show (0 : Int32) = nI 0 from rfl, e, Option.bind_some, pu_lt, nI_1]
      exact ih (i + 1) l' (by omega) (by omega) h'
theorem pu_sides {N F R f k0 : Nat} {fr tt b l : Nat → Int32} {a c : Nat → Nat} {P : Nat → Bool} (hN : 5000 ≤ N) (hF : F ≤ 10) (hM : Mb F R fr tt b) (hE : Ends F fr tt a c) (hf : f < F) (h0 : k0 < 6) (hP : ∀ g, g < F → P g = (!R.testBit g && !decide (g = f))) : ∃ l', fX5_sides N b l (nI k0) (nI f) = some l' ∧ Sr l' (fun k => decide (gat P a c F k = gat P a c F k0)) := by
  obtain ⟨l1, e1, h1⟩ := pu_s2 (N := N) h0 (y2 := nI f) N 0 l (by decide) (by omega) (fun k hk => absurd hk (Nat.not_lt_zero k))
  obtain ⟨l2, e2, h2⟩ := pu_s32 (s := fun k => decide (k = k0)) hN hF hM hE hf hP N 0 l1 (by decide) (by omega) h1
  refine ⟨l2, ?_, fun k hk => ?_⟩
  · unfold fX5_sides
    rw [show (0 : Int32) = nI 0 from rfl, e1, Option.bind_some, e2, Option.bind_some]
  · rw [h2 k hk, srs_gat (fun g hg => ⟨(hE g hg).1, (hE g hg).2.1⟩) h0]
theorem clr_P {F R f g : Nat} (hF : F ≤ 10) (hg : g < F) : (clr (unr F R) f).testBit g = (!R.testBit g && !decide (g = f)) := by
  rw [clr_bit (by omega), unr_P hF hg]
theorem clr_1024 {F R f : Nat} (hF : F ≤ 10) : clr (unr F R) f < 1024 := Nat.lt_of_le_of_lt (clr_le _ _) (unr_1024 hF)
def isSn (F R : Nat) (a c : Nat → Nat) (f : Nat) : Bool := R.testBit f || !decide (gat (clr (unr F R) f).testBit a c F (a f) = gat (clr (unr F R) f).testBit a c F (c f))
theorem pu_isSeenM {N F R f : Nat} {fr tt b l : Nat → Int32} {a c : Nat → Nat} (hN : 5000 ≤ N) (hF : F ≤ 10) (hM : Mb F R fr tt b) (hE : Ends F fr tt a c) (hf : f < F) : ∃ l', fX5_isSeen N b l (nI f) = some (if isSn F R a c f then 1 else 0, l') := by
  obtain ⟨g1, g2, -, e1, e2⟩ := hE f hf
  obtain ⟨m0, m1, -⟩ := hM.2 f hf
  unfold fX5_isSeen isSn
  rw [pu_isRead hF hM hf, Option.bind_some]
  by_cases hb : R.testBit f = true
  · rw [if_pos hb, if_neg (show ¬ (1 : Int32) = 0 by decide), hb]
    exact ⟨l, rfl⟩
  · obtain ⟨l', q1, q2⟩ := pu_sides (l := l) (P := (clr (unr F R) f).testBit) hN hF hM hE hf g2 (fun g hg => clr_P hF hg)
    refine ⟨l', ?_⟩
    rw [if_neg hb, if_pos rfl, pu_get (f := f) (x := 1) 1 rfl (by omega), Option.bind_some, m1, e2, q1, Option.bind_some, pu_get (f := f) (x := 0) 0 rfl (by omega), Option.bind_some, m0, e1, pu_rd g1 (by decide), Option.bind_some, q2 _ g1]
    by_cases hs : gat (clr (unr F R) f).testBit a c F (a f) = gat (clr (unr F R) f).testBit a c F (c f)
    · simp [hs, hb]
    · simp [hs, hb]
theorem pu_isSeenC {N F R f : Nat} {fr tt l : Nat → Int32} {a c : Nat → Nat} (hN : 5000 ≤ N) (hF : F ≤ 10) (hR : R < 1024) (hE : Ends F fr tt a c) (hf : f < F) : ∃ l', fX4_isSeen N (nI F) (nI R) fr tt l (nI f) = some (if isSn F R a c f then 1 else 0, l') := by
  unfold fX4_isSeen isSn
  rw [pu_holds hR (by omega), Option.bind_some]
  by_cases hb : R.testBit f = true
  · rw [if_pos hb, if_neg (show ¬ (1 : Int32) = 0 by decide), hb]
    exact ⟨l, rfl⟩
  · obtain ⟨l', q1, q2⟩ := pu_gather (l := l) hN hF (clr_1024 (R := R) (f := f) hF) hE
    refine ⟨l', ?_⟩
    rw [if_neg hb, if_pos rfl, pu_unread hF, Option.bind_some, pu_bit (by omega), Option.bind_some, pu_not, pu_and, show unr F R &&& (2 ^ f ^^^ 4294967295) = clr (unr F R) f from rfl, q1, Option.bind_some]
    show (fX1_parts l' fr tt (nI f)).bind _ = _
    rw [pu_parts hF hE hf q2 (gat_le _ a c F), Option.bind_some]
    by_cases hs : gat (clr (unr F R) f).testBit a c F (a f) = gat (clr (unr F R) f).testBit a c F (c f)
    · simp [hs, hb]; rfl
    · simp [hs, hb]; rfl
