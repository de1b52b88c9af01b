/-! ===== least: sets without a round ===== -/
theorem rless_iff {P : Nat → Bool} {a c : Nat → Nat} : ∀ F, rless P a c F = true ↔ ∀ f, f < F → P f = true → gat P a c f (a f) ≠ gat P a c f (c f)
  | 0 => ⟨fun _ f hf => absurd hf (Nat.not_lt_zero f), fun _ => rfl⟩
  | F + 1 => by
    have ih := rless_iff (P := P) (a := a) (c := c) F
    show (rless P a c F && !(P F && decide (gat P a c F (a F) = gat P a c F (c F)))) = true ↔ _
    rw [Bool.and_eq_true, ih]
    constructor
    · rintro ⟨h1, h2⟩ f hf hp
      by_cases e : f = F
      · subst e
        rw [hp] at h2
        simpa using h2
      · exact h1 f (by omega) hp
    · intro h
      refine ⟨fun f hf hp => h f (by omega) hp, ?_⟩
      by_cases hp : P F = true
      · have := h F (by omega) hp
        rw [hp]
        simpa using this
      · rw [Bool.not_eq_true] at hp
        rw [hp]
        rfl
/-- fewer flows part more -/
theorem gat_sub {P Q : Nat → Bool} {a c : Nat → Nat} {i F : Nat} (hi : i ≤ F) (h : ∀ f, f < i → P f = true → Q f = true) {x y : Nat} (hxy : gat P a c i x = gat P a c i y) : gat Q a c F x = gat Q a c F y :=
  gat_factor (s := gat Q a c F) i (fun f hf hp => gat_conn Q a c F f (by omega) (h f hf hp)) x y hxy
theorem jn_two {L : Nat → Nat} {p q x y : Nat} (h : jn L p q x = jn L p q y) (hne : L x ≠ L y) : (L x = L p ∧ L y = L q) ∨ (L x = L q ∧ L y = L p) := by
  unfold jn at h
  split at h <;> split at h <;> omega
theorem gat_succ {P : Nat → Bool} {a c : Nat → Nat} {F : Nat} (hp : P F = true) : gat P a c (F + 1) = jn (gat P a c F) (a F) (c F) := if_pos hp
theorem gat_skip {P : Nat → Bool} {a c : Nat → Nat} {F : Nat} (hp : ¬ P F = true) : gat P a c (F + 1) = gat P a c F := if_neg hp
/-- without a round each flow parts what the others leave -/
theorem rless_parts {P : Nat → Bool} {a c : Nat → Nat} {f : Nat} : ∀ F, (∀ f, f < F → P f = true → gat P a c f (a f) ≠ gat P a c f (c f)) → f < F → P f = true → gat (fun g => P g && !decide (g = f)) a c F (a f) ≠ gat (fun g => P g && !decide (g = f)) a c F (c f)
  | 0, _, hf, _ => absurd hf (Nat.not_lt_zero f)
  | F + 1, h, hf, hp => by
    by_cases e : f = F
    · subst e
      rw [gat_skip (by simp), gat_congr (Q := P) f (fun g hg => by
        have : ¬ g = f := by omega
        simp [this])]
      exact h f (by omega) hp
    · have ih := rless_parts (P := P) F (fun f hf hp => h f (by omega) hp) (by omega : f < F) hp
      by_cases hq : P F = true
      · rw [gat_succ (by
          have : ¬ F = f := by omega
          simp [hq, this])]
        intro hc
        have hF := h F (by omega) hq
        have hsub : ∀ x y, gat (fun g => P g && !decide (g = f)) a c F x = gat (fun g => P g && !decide (g = f)) a c F y → gat P a c F x = gat P a c F y := fun x y hxy => gat_sub (Nat.le_refl F) (fun g hg hpg => by
          rw [Bool.and_eq_true] at hpg
          exact hpg.1) hxy
        have hff := gat_conn P a c F f (by omega) hp
        rcases jn_two hc ih with ⟨z1, z2⟩ | ⟨z1, z2⟩
        · have y1 := hsub _ _ z1
          have y2 := hsub _ _ z2
          omega
        · have y1 := hsub _ _ z1
          have y2 := hsub _ _ z2
          omega
      · rw [gat_skip (by simp [hq])]
        exact ih
theorem rless_seen {P : Nat → Bool} {a c : Nat → Nat} {F : Nat} : rless P a c F = true ↔ ∀ f, f < F → P f = true → gat (fun g => P g && !decide (g = f)) a c F (a f) ≠ gat (fun g => P g && !decide (g = f)) a c F (c f) := by
  rw [rless_iff]
  constructor
  · intro h f hf hp
    exact rless_parts F h hf hp
  · intro h f hf hp hc
    refine h f hf hp (gat_sub (by omega) (fun g hg hpg => ?_) hc)
    have : ¬ g = f := by omega
    simp [hpg, this]
/-- one flow more -/
theorem rless_more {P : Nat → Bool} {a c : Nat → Nat} {f : Nat} (hn : P f = false) : ∀ F, (∀ f, f < F → P f = true → gat P a c f (a f) ≠ gat P a c f (c f)) → (f < F → gat P a c F (a f) ≠ gat P a c F (c f)) → ∀ g, g < F → (P g || decide (g = f)) = true → gat (fun g => P g || decide (g = f)) a c g (a g) ≠ gat (fun g => P g || decide (g = f)) a c g (c g)
  | 0, _, _, g, hg, _ => absurd hg (Nat.not_lt_zero g)
  | F + 1, h, hpf, g, hg, hgp => by
    by_cases hfF : f < F
    · have hM : gat P a c F (a f) ≠ gat P a c F (c f) := fun q => hpf (by omega) (by
        by_cases hq : P F = true
        · rw [gat_succ hq]
          exact jn_keep q
        · rw [gat_skip hq]
          exact q)
      have ih := rless_more hn F (fun f hf hp => h f (by omega) hp) (fun _ => hM)
      by_cases e : g = F
      · subst e
        have hq : P g = true := by
          have : ¬ g = f := by omega
          simpa [this] using hgp
        have hg1 := h g (by omega) hq
        intro hc
        have hs : jn (gat P a c g) (a f) (c f) (a g) = jn (gat P a c g) (a f) (c f) (c g) := gat_factor (s := jn (gat P a c g) (a f) (c f)) g (fun x hx hpx => by
          rw [Bool.or_eq_true] at hpx
          rcases hpx with hpx | hpx
          · exact jn_keep (gat_conn P a c g x hx hpx)
          · have : x = f := by simpa using hpx
            rw [this, jn_left, jn_right]) _ _ hc
        have hno := hpf (by omega)
        rw [gat_succ hq] at hno
        apply hno
        rcases jn_two hs hg1 with ⟨z1, z2⟩ | ⟨z1, z2⟩
        · unfold jn
          rw [← z1, ← z2]
          split <;> split <;> omega
        · unfold jn
          rw [← z1, ← z2]
          split <;> split <;> omega
      · exact ih g (by omega) hgp
    · by_cases e : g = F
      · subst e
        by_cases hgf : g = f
        · subst hgf
          rw [gat_congr (Q := P) g (fun x hx => by
            have : ¬ x = g := by omega
            simp [this])]
          have := hpf (by omega)
          rw [gat_skip (by simp [hn])] at this
          exact this
        · rw [gat_congr (Q := P) g (fun x hx => by
            have : ¬ x = f := by omega
            simp [this])]
          exact h g (by omega) (by simpa [hgf] using hgp)
      · rw [gat_congr (Q := P) g (fun x hx => by
          have : ¬ x = f := by omega
          simp [this])]
        exact h g (by omega) (by
          have : ¬ g = f := by omega
          simpa [this] using hgp)
theorem rless_add {P : Nat → Bool} {a c : Nat → Nat} {f F : Nat} (hn : P f = false) (hf : f < F) (h : rless P a c F = true) : rless (fun g => P g || decide (g = f)) a c F = true ↔ gat P a c F (a f) ≠ gat P a c F (c f) := by
  constructor
  · intro hr
    have := rless_seen.mp hr f hf (by simp)
    rw [gat_congr (Q := P) F (fun g hg => by
      by_cases e : g = f
      · subst e
        simp [hn]
      · simp [e])] at this
    exact this
  · intro hp
    rw [rless_iff]
    exact rless_more hn F ((rless_iff F).mp h) (fun _ => hp)
theorem rless_congr {P Q : Nat → Bool} {a c : Nat → Nat} {F : Nat} (h : ∀ f, f < F → P f = Q f) : rless P a c F = rless Q a c F := by
  have key : rless P a c F = true ↔ rless Q a c F = true := by
    rw [rless_iff, rless_iff]
    constructor
    · intro z f hf hp
      rw [← gat_congr f (fun g hg => h g (by omega))]
      exact z f hf (by rw [h f hf]; exact hp)
    · intro z f hf hp
      rw [gat_congr f (fun g hg => h g (by omega))]
      exact z f hf (by rw [← h f hf]; exact hp)
  cases e1 : rless P a c F <;> cases e2 : rless Q a c F <;> simp_all
/-- all is seen just if the unread flows hold no round -/
theorem sn_rless {F R : Nat} {a c : Nat → Nat} (hF : F ≤ 10) : (∀ f, f < F → isSn F R a c f = true) ↔ rless (unr F R).testBit a c F = true := by
  rw [rless_seen]
  have e : ∀ f, f < F → gat (clr (unr F R) f).testBit a c F = gat (fun g => (unr F R).testBit g && !decide (g = f)) a c F := fun f hf => gat_congr F (fun g hg => by rw [clr_bit (by omega)])
  constructor
  · intro h f hf hp
    have := h f hf
    unfold isSn at this
    rw [e f hf, Bool.or_eq_true] at this
    rcases this with q | q
    · rw [unr_P hF hf, q] at hp
      exact absurd hp (by decide)
    · simpa using q
  · intro h f hf
    unfold isSn
    by_cases q : R.testBit f = true
    · rw [q]
      rfl
    · have := h f hf (by rw [unr_P hF hf]; simp [q])
      rw [e f hf]
      simp [q, this]
/-- it shows all, or surely -/
def shw (F R : Nat) (a c : Nat → Nat) (su : Bool) : Prop := rless (unr F R).testBit a c F = true ∧ (su = true → ∀ f, f < F → R.testBit f = true → gat (unr F R).testBit a c F (a f) ≠ gat (unr F R).testBit a c F (c f))
theorem clr_rless {F R f : Nat} {a c : Nat → Nat} (hF : F ≤ 10) (hf : f < F) (hb : R.testBit f = true) (h : rless (unr F R).testBit a c F = true) : rless (unr F (clr R f)).testBit a c F = true ↔ gat (unr F R).testBit a c F (a f) ≠ gat (unr F R).testBit a c F (c f) := by
  rw [← rless_add (P := (unr F R).testBit) (by rw [unr_P hF hf, hb]; rfl) hf h, rless_congr (Q := fun g => (unr F R).testBit g || decide (g = f)) (fun g hg => by
    rw [unr_P hF hg, unr_P hF hg, clr_bit (by omega)]
    by_cases e : g = f
    · subst e
      simp
    · simp [e])]
theorem pu_shows25 {N F R : Nat} {fr tt l : Nat → Int32} {a c L : Nat → Nat} (hF : F ≤ 10) (hE : Ends F fr tt a c) (hL : Lr l L) (hle : ∀ k, L k ≤ k) : ∀ (n i : Nat), i ≤ F → F - i < n → (fX4_shows_L25 N n (nI (unr F R)) (nI i) (nI F) fr tt l = some (.inr ()) ∧ ∀ f, i ≤ f → f < F → R.testBit f = true → L (a f) ≠ L (c f)) ∨ (fX4_shows_L25 N n (nI (unr F R)) (nI i) (nI F) fr tt l = some (.inl ()) ∧ ¬ ∀ f, i ≤ f → f < F → R.testBit f = true → L (a f) ≠ L (c f)) := by
  intro n
  induction n with
  | zero => intro i h1 h2; omega
  | succ n ih =>
    intro i h1 h2
    unfold fX4_shows_L25
    by_cases hi : i = F
    · subst hi
      rw [if_pos (nI_le (Nat.le_refl _) (by omega))]
      exact Or.inl ⟨rfl, fun f q1 q2 => by omega⟩
    · have hlt : i < F := by omega
      rw [if_neg (nI_ge hlt (by omega)), pu_holds (unr_1024 hF) (by omega), Option.bind_some, unr_P hF hlt]
      have hgo : (R.testBit i = true → L (a i) ≠ L (c i)) → ((∀ f, i ≤ f → f < F → R.testBit f = true → L (a f) ≠ L (c f)) ↔ ∀ f, i + 1 ≤ f → f < F → R.testBit f = true → L (a f) ≠ L (c f)) := fun hq => ⟨fun h f q1 q2 q3 => h f (by omega) q2 q3, fun h f q1 q2 q3 => by
        by_cases e : f = i
        · subst e
          exact hq q3
        · exact h f (by omega) q2 q3⟩
      by_cases hb : R.testBit i = true
      · rw [if_neg (show ¬ (!R.testBit i) = true by simp [hb]), if_pos rfl, pu_parts hF hE hlt hL hle, Option.bind_some]
        by_cases hs : L (a i) = L (c i)
        · rw [if_pos hs, if_pos rfl]
          exact Or.inr ⟨rfl, fun h => h i (Nat.le_refl i) hlt hb hs⟩
        · rw [if_neg hs, if_neg (show ¬ (1 : Int32) = 0 by decide), pu_lt, nI_1, hgo (fun _ => hs)]
          exact ih (i + 1) (by omega) (by omega)
      · rw [if_pos (show (!R.testBit i) = true by simp [hb]), if_neg (show ¬ (1 : Int32) = 0 by decide), pu_lt, nI_1, hgo (fun q => absurd q hb)]
        exact ih (i + 1) (by omega) (by omega)
theorem pu_showsC {N F R : Nat} {x1 : Int32} {fr tt l : Nat → Int32} {a c : Nat → Nat} (hN : 5000 ≤ N) (hF : F ≤ 10) (hE : Ends F fr tt a c) (hx : x1 = 0 ∨ x1 = 1) : ∃ (v : Int32) (l' : Nat → Int32), fX4_shows N (nI F) fr tt l (nI (unr F R)) x1 = some (v, l') ∧ ((v = 1 ∧ shw F R a c (decide (x1 = 1))) ∨ (v = 0 ∧ ¬ shw F R a c (decide (x1 = 1)))) := by
  obtain ⟨l', e, h⟩ := pu_gather (l := l) hN hF (unr_1024 (R := R) hF) hE
  unfold fX4_shows
  rw [e, Option.bind_some]
  dsimp only
  by_cases hr : rless (unr F R).testBit a c F = true
  · rw [if_pos hr, if_neg (show ¬ (1 : Int32) = 0 by decide)]
    rcases hx with hx | hx
    · rw [if_pos hx]
      refine ⟨1, l', rfl, Or.inl ⟨rfl, hr, fun q => ?_⟩⟩
      rw [hx] at q
      exact absurd q (by decide)
    · rw [if_neg (by rw [hx]; decide)]
      rcases pu_shows25 (N := N) (R := R) hF hE h (gat_le _ a c F) N 0 (Nat.zero_le F) (by omega) with ⟨z, q⟩ | ⟨z, q⟩
      · rw [show fX4_shows_L25 N N (nI (unr F R)) 0 (nI F) fr tt l' = some (.inr ()) from z]
        exact ⟨1, l', rfl, Or.inl ⟨rfl, hr, fun _ f hf hb => q f (Nat.zero_le f) hf hb⟩⟩
      · rw [show fX4_shows_L25 N N (nI (unr F R)) 0 (nI F) fr tt l' = some (.inl ()) from z]
        exact ⟨0, l', rfl, Or.inr ⟨rfl, fun w => q (fun f _ hf hb => w.2 (by rw [hx]; decide) f hf hb)⟩⟩
  · rw [if_neg hr, if_pos rfl]
    exact ⟨0, l', rfl, Or.inr ⟨rfl, fun w => hr w.1⟩⟩
/-! ===== least: the reference's trials ===== -/
def mixq (i : Nat) (p q : Nat → Bool) : Nat → Bool := fun f => if f < i then p f else q f
theorem mixq_lt {i f : Nat} {p q : Nat → Bool} (h : f < i) : mixq i p q f = p f := if_pos h
theorem mixq_ge {i f : Nat} {p q : Nat → Bool} (h : ¬ f < i) : mixq i p q f = q f := if_neg h
/-- the array with other read marks -/
def Bp (F : Nat) (b0 b : Nat → Int32) (q : Nat → Bool) : Prop := (∀ j, (∀ f, f < F → j ≠ 2 + 24 * f + 2) → b j = b0 j) ∧ ∀ f, f < F → b (2 + 24 * f + 2) = if q f then 1 else 0
theorem Bp.mb {F R R' : Nat} {fr tt b0 b : Nat → Int32} {q : Nat → Bool} (hM : Mb F R fr tt b0) (h : Bp F b0 b q) (hq : ∀ f, f < F → q f = R'.testBit f) : Mb F R' fr tt b := by
  refine ⟨by rw [h.1 1 (fun f hf => by omega)]; exact hM.1, fun f hf => ⟨?_, ?_, ?_⟩⟩
  · rw [h.1 _ (fun g hg => by omega)]
    exact (hM.2 f hf).1
  · rw [h.1 _ (fun g hg => by omega)]
    exact (hM.2 f hf).2.1
  · rw [h.2 f hf, hq f hf]
theorem Bp.set {F f : Nat} {b0 b : Nat → Int32} {q q' : Nat → Bool} {v : Int32} (hF : F ≤ 10) (h : Bp F b0 b q) (hf : f < F) (hv : v = if q' f then 1 else 0) (hq : ∀ g, g < F → g ≠ f → q' g = q g) : ∃ b', fX5_set b (nI f) 2 v = some b' ∧ Bp F b0 b' q' := by
  refine ⟨_, pu_set (f := f) (x := 2) 2 rfl (by omega), fun j hj => ?_, fun g hg => ?_⟩
  · rw [ya_up_ne (hj f hf)]
    exact h.1 j hj
  · by_cases e : g = f
    · subst e
      rw [ya_up_eq, hv]
    · rw [ya_up_ne (by omega), h.2 g hg, hq g hg e]
theorem Bp.back {F R : Nat} {fr tt b0 b : Nat → Int32} {q : Nat → Bool} (hM : Mb F R fr tt b0) (h : Bp F b0 b q) (hq : ∀ f, f < F → q f = R.testBit f) : b = b0 := by
  funext j
  by_cases e : ∃ f, f < F ∧ j = 2 + 24 * f + 2
  · obtain ⟨f, hf, rfl⟩ := e
    rw [h.2 f hf, (hM.2 f hf).2.2, hq f hf]
  · exact h.1 j (fun f hf hj => e ⟨f, hf, hj⟩)
theorem pu_showsAll4 {N F R : Nat} {fr tt b : Nat → Int32} {a c : Nat → Nat} (hN : 5000 ≤ N) (hF : F ≤ 10) (hM : Mb F R fr tt b) (hE : Ends F fr tt a c) : ∀ (n i : Nat) (y : Int32) (s : Nat → Int32), i ≤ F → F - i < n → (y = 0 ∨ y = 1) → ∃ (v : Int32) (s' : Nat → Int32), fX5_showsAll_L4 N n y (nI i) b s = some (v, s') ∧ ((v = 1 ∧ y = 1 ∧ ∀ f, i ≤ f → f < F → isSn F R a c f = true) ∨ (v = 0 ∧ ¬ (y = 1 ∧ ∀ f, i ≤ f → f < F → isSn F R a c f = true))) := by
  intro n
  induction n with
  | zero => intro i y s h1 h2; omega
  | succ n ih =>
    intro i y s h1 h2 hy
    unfold fX5_showsAll_L4
    rw [pu_flows, hM.1, Option.bind_some]
    by_cases hi : i = F
    · subst hi
      rw [if_pos (nI_le (Nat.le_refl _) (by omega))]
      refine ⟨y, s, rfl, ?_⟩
      rcases hy with hy | hy
      · exact Or.inr ⟨hy, fun q => by rw [hy] at q; exact absurd q.1 (by decide)⟩
      · exact Or.inl ⟨hy, hy, fun f q1 q2 => by omega⟩
    · have hlt : i < F := by omega
      rw [if_neg (nI_ge hlt (by omega))]
      rcases hy with hy | hy
      · rw [if_pos hy, pu_lt, nI_1]
        obtain ⟨v, s', e, h⟩ := ih (i + 1) 0 s (by omega) (by omega) (Or.inl rfl)
        refine ⟨v, s', e, Or.inr ?_⟩
        rcases h with h | h
        · exact absurd h.2.1 (by decide)
        · exact ⟨h.1, fun q => by rw [hy] at q; exact absurd q.1 (by decide)⟩
      · obtain ⟨s1, e1⟩ := pu_isSeenM (l := s) hN hF hM hE hlt
        rw [if_neg (by rw [hy]; decide), e1, Option.bind_some]
        dsimp only
        by_cases hs : isSn F R a c i = true
        · rw [if_pos hs, if_neg (show ¬ (1 : Int32) = 0 by decide), pu_lt, nI_1]
          obtain ⟨v, s', e, h⟩ := ih (i + 1) 1 s1 (by omega) (by omega) (Or.inr rfl)
          refine ⟨v, s', e, ?_⟩
          rcases h with h | h
          · refine Or.inl ⟨h.1, hy, fun f q1 q2 => ?_⟩
            by_cases ef : f = i
            · subst ef
              exact hs
            · exact h.2.2 f (by omega) q2
          · exact Or.inr ⟨h.1, fun q => h.2 ⟨rfl, fun f q1 q2 => q.2 f (by omega) q2⟩⟩
        · rw [if_neg hs, if_pos rfl, pu_lt, nI_1]
          obtain ⟨v, s', e, h⟩ := ih (i + 1) 0 s1 (by omega) (by omega) (Or.inl rfl)
          refine ⟨v, s', e, Or.inr ?_⟩
          rcases h with h | h
          · exact absurd h.2.1 (by decide)
          · exact ⟨h.1, fun q => hs (q.2 i (Nat.le_refl i) hlt)⟩
theorem pu_showsAll {N F R : Nat} {fr tt b s : Nat → Int32} {a c : Nat → Nat} (hN : 5000 ≤ N) (hF : F ≤ 10) (hM : Mb F R fr tt b) (hE : Ends F fr tt a c) : ∃ (v : Int32) (s' : Nat → Int32), fX5_showsAll N b s = some (v, s') ∧ ((v = 1 ∧ rless (unr F R).testBit a c F = true) ∨ (v = 0 ∧ ¬ rless (unr F R).testBit a c F = true)) := by
  obtain ⟨v, s', e, h⟩ := pu_showsAll4 hN hF hM hE N 0 1 s (Nat.zero_le F) (by omega) (Or.inr rfl)
  have hv : ya_bo v = some v := by
    unfold ya_bo
    rcases h with h | h
    · rw [h.1]
      rfl
    · rw [h.1]
      rfl
  refine ⟨v, s', ?_, ?_⟩
  · unfold fX5_showsAll
    rw [show fX5_showsAll_L4 N N 1 0 b s = some (v, s') from e, Option.bind_some]
    dsimp only
    rw [hv]
    rfl
  · rw [← sn_rless hF]
    rcases h with h | h
    · exact Or.inl ⟨h.1, fun f hf => h.2.2 f (Nat.zero_le f) hf⟩
    · exact Or.inr ⟨h.1, fun q => h.2 ⟨rfl, fun f _ hf => q f hf⟩⟩
theorem pu_bitv {R f : Nat} (hR : R < 1024) (h : f < 10) : (nI R >>> (nI f &&& 31)) &&& 1 = (if R.testBit f then 1 else 0) := by
  rw [pu_and31 h, pk_shrN (by omega) (nI f) f (pu_sm h), pk_andN (Nat.lt_of_le_of_lt (Nat.div_le_self _ _) (by omega)) 1 (by decide +kernel), Nat.testBit_eq_decide_div_mod_eq]
  have h2 : R / 2 ^ f % 2 ^ 1 = 0 ∨ R / 2 ^ f % 2 ^ 1 = 1 := by omega
  rcases h2 with h2 | h2
  · rw [h2, if_neg (by simp only [decide_eq_true_eq]; omega)]
    rfl
  · rw [h2, if_pos (by simp only [decide_eq_true_eq])]
    rfl
theorem pu_shows2 {N F R T : Nat} {x1 : Int32} {fr tt b0 : Nat → Int32} (hF : F ≤ 10) (hT : T < 1024) (hM : Mb F R fr tt b0) : ∀ (n i : Nat) (b w : Nat → Int32), i ≤ F → F - i < n → Bp F b0 b (mixq i (R ||| T).testBit R.testBit) → (∀ f, f < i → w f = if R.testBit f then 1 else 0) → ∃ b' w', fX5_shows_L2 N n (nI T) x1 (nI i) b w = some (b', w') ∧ Bp F b0 b' (R ||| T).testBit ∧ ∀ f, f < F → w' f = if R.testBit f then 1 else 0 := by
  intro n
  induction n with
  | zero => intro i b w h1 h2; omega
  | succ n ih =>
    intro i b w h1 h2 hB hw
    unfold fX5_shows_L2
    have hb1 : b 1 = nI F := by rw [hB.1 1 (fun f hf => by omega)]; exact hM.1
    rw [pu_flows, hb1, Option.bind_some]
    by_cases hi : i = F
    · subst hi
      rw [if_pos (nI_le (Nat.le_refl _) (by omega))]
      refine ⟨b, w, rfl, ⟨hB.1, fun f hf => ?_⟩, hw⟩
      rw [hB.2 f hf, mixq_lt hf]
    · have hlt : i < F := by omega
      have hrd : fX5_isRead b (nI i) = some (if R.testBit i then 1 else 0) := by
        unfold fX5_isRead
        rw [pu_get (f := i) (x := 2) 2 rfl (by omega), Option.bind_some, hB.2 i hlt, mixq_ge (Nat.lt_irrefl i)]
        by_cases h : R.testBit i = true
        · rw [if_pos h, if_pos rfl]
        · rw [if_neg h, if_neg (by decide)]
      rw [if_neg (nI_ge hlt (by omega)), hrd, Option.bind_some, pu_wr (by omega) (by decide), Option.bind_some, pu_bitv hT (by omega)]
      have hw' : ∀ f, f < i + 1 → ya_up w i (vp_nar .boolean (if R.testBit i then 1 else 0)) f = if R.testBit f then 1 else 0 := fun f hf => by
        by_cases e : f = i
        · subst e
          rw [ya_up_eq]
          split <;> rfl
        · rw [ya_up_ne e]
          exact hw f (by omega)
      by_cases ht : T.testBit i = true
      · obtain ⟨b', e, hb'⟩ := hB.set (q' := mixq (i + 1) (R ||| T).testBit R.testBit) (v := 1) hF hlt (by
          rw [mixq_lt (Nat.lt_succ_self i), Nat.testBit_or, ht]
          simp) (fun g hg hgi => by
          by_cases q : g < i
          · rw [mixq_lt q, mixq_lt (by omega)]
          · rw [mixq_ge q, mixq_ge (by omega)])
        rw [if_pos ht, if_pos rfl, e, Option.bind_some, pu_lt, nI_1]
        exact ih (i + 1) b' _ (by omega) (by omega) hb' hw'
      · rw [if_neg ht, if_neg (show ¬ (0 : Int32) = 1 by decide), pu_lt, nI_1]
        refine ih (i + 1) b _ (by omega) (by omega) ⟨hB.1, fun f hf => ?_⟩ hw'
        rw [hB.2 f hf]
        by_cases q : f < i
        · rw [mixq_lt q, mixq_lt (by omega)]
        · rw [mixq_ge q]
          by_cases q2 : f = i
          · subst q2
            rw [mixq_lt (by omega), Nat.testBit_or]
            rw [Bool.not_eq_true] at ht
            rw [ht, Bool.or_false]
          · rw [mixq_ge (by omega)]
theorem pu_shows51 {N F R R0 : Nat} {x1 : Int32} {fr tt b0 : Nat → Int32} {a c : Nat → Nat} (hN : 5000 ≤ N) (hF : F ≤ 10) (hR : R < 1024) (hM : Mb F R0 fr tt b0) (hE : Ends F fr tt a c) (hr : rless (unr F R).testBit a c F = true) (hx : x1 = 1) : ∀ (n i : Nat) (b s : Nat → Int32) (y : Int32), i ≤ F → F - i < n → (y = 0 ∨ y = 1) → Bp F b0 b R.testBit → ∃ (v : Int32) (b' s' : Nat → Int32), fX5_shows_L51 N n x1 y (nI i) b s = some (v, b', s') ∧ Bp F b0 b' R.testBit ∧ ((v = 1 ∧ y = 1 ∧ ∀ f, i ≤ f → f < F → R.testBit f = true → gat (unr F R).testBit a c F (a f) ≠ gat (unr F R).testBit a c F (c f)) ∨ (v = 0 ∧ ¬ (y = 1 ∧ ∀ f, i ≤ f → f < F → R.testBit f = true → gat (unr F R).testBit a c F (a f) ≠ gat (unr F R).testBit a c F (c f)))) := by
  intro n
  induction n with
  | zero => intro i b s y h1 h2; omega
  | succ n ih =>
    intro i b s y h1 h2 hy hB
    have hMb := hB.mb hM (fun f hf => rfl)
    unfold fX5_shows_L51
    rw [pu_flows, hMb.1, Option.bind_some]
    by_cases hi : i = F
    · subst hi
      rw [if_pos (nI_le (Nat.le_refl _) (by omega))]
      refine ⟨y, b, s, rfl, hB, ?_⟩
      rcases hy with hy | hy
      · exact Or.inr ⟨hy, fun q => by rw [hy] at q; exact absurd q.1 (by decide)⟩
      · exact Or.inl ⟨hy, hy, fun f q1 q2 => by omega⟩
    · have hlt : i < F := by omega
      rw [if_neg (nI_ge hlt (by omega))]
      rcases hy with hy | hy
      · rw [if_pos hy]
        exact ⟨y, b, s, rfl, hB, Or.inr ⟨hy, fun q => by rw [hy] at q; exact absurd q.1 (by decide)⟩⟩
      · rw [if_neg (by rw [hy]; decide), if_neg (by rw [hx]; decide), pu_isRead hF hMb hlt, Option.bind_some]
        by_cases hb : R.testBit i = true
        · obtain ⟨b1, e1, hb1⟩ := hB.set (q' := (clr R i).testBit) (v := 0) hF hlt (by rw [clr_bit (by omega)]; simp) (fun g hg hgi => by rw [clr_bit (by omega)]; simp [hgi])
          obtain ⟨v1, s1, e2, h2'⟩ := pu_showsAll (s := s) hN hF (hb1.mb hM (fun f hf => rfl)) hE
          obtain ⟨b2, e3, hb2⟩ := hb1.set (q' := R.testBit) (v := 1) hF hlt (by rw [hb]; rfl) (fun g hg hgi => by rw [clr_bit (by omega)]; simp [hgi])
          rw [if_pos hb, if_neg (show ¬ (1 : Int32) = 0 by decide), e1, Option.bind_some, e2, Option.bind_some]
          dsimp only
          rw [e3, Option.bind_some, pu_lt, nI_1]
          rw [clr_rless hF hlt hb hr] at h2'
          rcases h2' with ⟨w1, w2⟩ | ⟨w1, w2⟩
          · subst w1
            obtain ⟨v, b', s', z1, z2, z3⟩ := ih (i + 1) b2 s1 1 (by omega) (by omega) (Or.inr rfl) hb2
            refine ⟨v, b', s', z1, z2, ?_⟩
            rcases z3 with z3 | z3
            · refine Or.inl ⟨z3.1, hy, fun f q1 q2 q3 => ?_⟩
              by_cases ef : f = i
              · subst ef
                exact w2
              · exact z3.2.2 f (by omega) q2 q3
            · exact Or.inr ⟨z3.1, fun q => z3.2 ⟨rfl, fun f q1 q2 q3 => q.2 f (by omega) q2 q3⟩⟩
          · subst w1
            obtain ⟨v, b', s', z1, z2, z3⟩ := ih (i + 1) b2 s1 0 (by omega) (by omega) (Or.inl rfl) hb2
            refine ⟨v, b', s', z1, z2, Or.inr ?_⟩
            rcases z3 with z3 | z3
            · exact absurd z3.2.1 (by decide)
            · exact ⟨z3.1, fun q => w2 (q.2 i (Nat.le_refl i) hlt hb)⟩
        · rw [if_neg hb, if_pos rfl, pu_lt, nI_1]
          obtain ⟨v, b', s', z1, z2, z3⟩ := ih (i + 1) b s y (by omega) (by omega) (Or.inr hy) hB
          refine ⟨v, b', s', z1, z2, ?_⟩
          rcases z3 with z3 | z3
          · refine Or.inl ⟨z3.1, hy, fun f q1 q2 q3 => ?_⟩
            by_cases ef : f = i
            · subst ef
              exact absurd q3 hb
            · exact z3.2.2 f (by omega) q2 q3
          · exact Or.inr ⟨z3.1, fun q => z3.2 ⟨hy, fun f q1 q2 q3 => q.2 f (by omega) q2 q3⟩⟩
theorem pu_shows51s {N F R R0 : Nat} {x1 y : Int32} {fr tt b0 b s : Nat → Int32} (hN : 5000 ≤ N) (hF : F ≤ 10) (hM : Mb F R0 fr tt b0) (hB : Bp F b0 b R.testBit) (h : x1 = 0 ∨ y = 0) : fX5_shows_L51 N N x1 y (nI 0) b s = some (y, b, s) := by
  obtain ⟨n, rfl⟩ : ∃ n, N = n + 1 := ⟨N - 1, by omega⟩
  have hMb := hB.mb hM (fun f hf => rfl)
  unfold fX5_shows_L51
  rw [pu_flows, hMb.1, Option.bind_some]
  by_cases hi : nI F ≤ nI 0
  · rw [if_pos hi]
  · rw [if_neg hi]
    by_cases hy : y = 0
    · rw [if_pos hy]
    · rw [if_neg hy, if_pos (h.resolve_right hy)]
theorem pu_shows110 {N F R R0 : Nat} {y3 : Int32} {fr tt b0 w : Nat → Int32} (hF : F ≤ 10) (hM : Mb F R fr tt b0) (hw : ∀ f, f < F → w f = if R.testBit f then 1 else 0) : ∀ (n i : Nat) (b : Nat → Int32), i ≤ F → F - i < n → Bp F b0 b (mixq i R.testBit R0.testBit) → fX5_shows_L110 N n y3 (nI i) b w = some b0 := by
  intro n
  induction n with
  | zero => intro i b h1 h2; omega
  | succ n ih =>
    intro i b h1 h2 hB
    have hb1 : b 1 = nI F := by rw [hB.1 1 (fun f hf => by omega)]; exact hM.1
    unfold fX5_shows_L110
    rw [pu_flows, hb1, Option.bind_some]
    by_cases hi : i = F
    · subst hi
      rw [if_pos (nI_le (Nat.le_refl _) (by omega)), hB.back hM (fun f hf => mixq_lt hf)]
    · have hlt : i < F := by omega
      rw [if_neg (nI_ge hlt (by omega)), pu_rd (by omega) (by decide), Option.bind_some, hw i hlt]
      have hset : ∀ v : Int32, v = (if R.testBit i then 1 else 0) → ∃ b', fX5_set b (nI i) 2 v = some b' ∧ Bp F b0 b' (mixq (i + 1) R.testBit R0.testBit) := fun v hv => hB.set hF hlt (by
        rw [mixq_lt (Nat.lt_succ_self i)]
        exact hv) (fun g hg hgi => by
        by_cases q : g < i
        · rw [mixq_lt q, mixq_lt (by omega)]
        · rw [mixq_ge q, mixq_ge (by omega)])
      by_cases hb : R.testBit i = true
      · obtain ⟨b', e, hb'⟩ := hset 1 (by rw [hb]; rfl)
        rw [if_pos hb, if_neg (show ¬ (1 : Int32) = 0 by decide), e, Option.bind_some, pu_lt, nI_1]
        exact ih (i + 1) b' (by omega) (by omega) hb'
      · obtain ⟨b', e, hb'⟩ := hset 0 (by rw [if_neg hb])
        rw [if_neg hb, if_pos rfl, e, Option.bind_some, pu_lt, nI_1]
        exact ih (i + 1) b' (by omega) (by omega) hb'
theorem pu_showsM {N F R T : Nat} {x1 : Int32} {fr tt b s w : Nat → Int32} {a c : Nat → Nat} (hN : 5000 ≤ N) (hF : F ≤ 10) (hR : R < 2 ^ F) (hT : T < 2 ^ F) (hM : Mb F R fr tt b) (hE : Ends F fr tt a c) (hx : x1 = 0 ∨ x1 = 1) : ∃ (v : Int32) (s' w' : Nat → Int32), fX5_shows N b s w (nI T) x1 = some (v, b, s', w') ∧ ((v = 1 ∧ shw F (R ||| T) a c (decide (x1 = 1))) ∨ (v = 0 ∧ ¬ shw F (R ||| T) a c (decide (x1 = 1)))) := by
  have hRT : R ||| T < 2 ^ F := Nat.or_lt_two_pow hR hT
  obtain ⟨b1, w1, e1, hB1, hw1⟩ := pu_shows2 (N := N) (x1 := x1) hF (pu_1024 hT hF) hM N 0 b w (Nat.zero_le F) (by omega) ⟨fun j hj => rfl, fun f hf => by
    rw [mixq_ge (Nat.not_lt_zero f)]
    exact (hM.2 f hf).2.2⟩ (fun f hf => absurd hf (Nat.not_lt_zero f))
  obtain ⟨v1, s1, e2, h2⟩ := pu_showsAll (s := s) hN hF (hB1.mb hM (fun f hf => rfl)) hE
  have hfin : ∀ (v : Int32) (b2 s2 : Nat → Int32), fX5_shows_L51 N N x1 v1 (nI 0) b1 s1 = some (v, b2, s2) → Bp F b b2 (R ||| T).testBit → (v = 0 ∨ v = 1) → fX5_shows N b s w (nI T) x1 = some (v, b, s2, w1) := fun v b2 s2 z1 z2 z3 => by
    have e3 := pu_shows110 (N := N) (y3 := v) (R0 := R ||| T) hF hM hw1 N 0 b2 (Nat.zero_le F) (by omega) ⟨z2.1, fun f hf => by
      rw [mixq_ge (Nat.not_lt_zero f)]
      exact z2.2 f hf⟩
    have hv : ya_bo v = some v := by
      unfold ya_bo
      rcases z3 with h | h
      · rw [h]
        rfl
      · rw [h]
        rfl
    unfold fX5_shows
    rw [show fX5_shows_L2 N N (nI T) x1 0 b w = some (b1, w1) from e1, Option.bind_some]
    dsimp only
    rw [e2, Option.bind_some]
    dsimp only
    rw [show fX5_shows_L51 N N x1 v1 0 b1 s1 = some (v, b2, s2) from z1, Option.bind_some]
    dsimp only
    rw [show fX5_shows_L110 N N v 0 b2 w1 = some b from e3, Option.bind_some, hv]
    rfl
  rcases h2 with ⟨w2, hr⟩ | ⟨w2, hr⟩
  · rcases hx with hx | hx
    · refine ⟨v1, s1, w1, hfin v1 b1 s1 (pu_shows51s hN hF hM hB1 (Or.inl hx)) hB1 (Or.inr w2), Or.inl ⟨w2, hr, fun q => ?_⟩⟩
      rw [hx] at q
      exact absurd q (by decide)
    · obtain ⟨v, b2, s2, z1, z2, z3⟩ := pu_shows51 hN hF (pu_1024 hRT hF) hM hE hr hx N 0 b1 s1 v1 (Nat.zero_le F) (by omega) (Or.inr w2) hB1
      rcases z3 with z3 | z3
      · exact ⟨v, s2, w1, hfin v b2 s2 z1 z2 (Or.inr z3.1), Or.inl ⟨z3.1, hr, fun _ f hf hb => z3.2.2 f (Nat.zero_le f) hf hb⟩⟩
      · exact ⟨v, s2, w1, hfin v b2 s2 z1 z2 (Or.inl z3.1), Or.inr ⟨z3.1, fun q => z3.2 ⟨w2, fun f _ hf hb => q.2 (by rw [hx]; decide) f hf hb⟩⟩⟩
  · exact ⟨v1, s1, w1, hfin v1 b1 s1 (pu_shows51s hN hF hM hB1 (Or.inr w2)) hB1 (Or.inl w2), Or.inr ⟨w2, fun q => hr q.1⟩⟩
