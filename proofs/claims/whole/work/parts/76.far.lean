/-! ===== round: how far the knots are from the end ===== -/
def adj (P : Nat → Bool) (a c : Nat → Nat) (s : Nat → Bool) : Nat → Nat → Bool
  | 0, _ => false
  | i + 1, k => adj P a c s i k || (P i && ((decide (a i = k) && s (c i)) || (decide (c i = k) && s (a i))))
theorem adj_iff {P : Nat → Bool} {a c : Nat → Nat} {s : Nat → Bool} {k : Nat} : ∀ F, adj P a c s F k = true ↔ ∃ f, f < F ∧ P f = true ∧ ((a f = k ∧ s (c f) = true) ∨ (c f = k ∧ s (a f) = true))
  | 0 => by
    constructor
    · intro h
      exact absurd h (by unfold adj; decide)
    · rintro ⟨f, h, -⟩
      omega
  | F + 1 => by
    have ih := adj_iff (P := P) (a := a) (c := c) (s := s) (k := k) F
    show (adj P a c s F k || (P F && ((decide (a F = k) && s (c F)) || (decide (c F = k) && s (a F))))) = true ↔ _
    rw [Bool.or_eq_true, ih]
    simp only [Bool.and_eq_true, Bool.or_eq_true, decide_eq_true_eq]
    constructor
    · rintro (⟨f, h1, h2⟩ | ⟨h1, h2⟩)
      · exact ⟨f, by omega, h2⟩
      · exact ⟨F, by omega, h1, h2⟩
    · rintro ⟨f, h1, h2, h3⟩
      by_cases e : f = F
      · subst e
        exact Or.inr ⟨h2, h3⟩
      · exact Or.inl ⟨f, by omega, h2, h3⟩
theorem cn6_one {g : Nat} (hg : g < 6) : 1 ≤ cn6 (fun k => decide (k = g)) := by
  match g, hg with
  | 0, _ => decide
  | 1, _ => decide
  | 2, _ => decide
  | 3, _ => decide
  | 4, _ => decide
  | 5, _ => decide
/-- the knots that are at most d flows away -/
def bl (P : Nat → Bool) (a c : Nat → Nat) (F g : Nat) : Nat → Nat → Bool
  | 0 => fun k => decide (k = g)
  | d + 1 => fun k => bl P a c F g d k || adj P a c (bl P a c F g d) F k
section
variable {P : Nat → Bool} {a c : Nat → Nat} {F g : Nat}
theorem bl_inv {d k : Nat} (h : bl P a c F g (d + 1) k = true) : bl P a c F g d k = true ∨ ∃ f, f < F ∧ P f = true ∧ ((a f = k ∧ bl P a c F g d (c f) = true) ∨ (c f = k ∧ bl P a c F g d (a f) = true)) := by
  have h' : (bl P a c F g d k || adj P a c (bl P a c F g d) F k) = true := h
  rw [Bool.or_eq_true, adj_iff] at h'
  exact h'
theorem bl_up {d k : Nat} (h : bl P a c F g d k = true) : bl P a c F g (d + 1) k = true := by
  show (bl P a c F g d k || adj P a c (bl P a c F g d) F k) = true
  rw [h]
  rfl
theorem bl_le {d k : Nat} (h : bl P a c F g d k = true) : ∀ e, d ≤ e → bl P a c F g e k = true
  | 0, he => by
    have : d = 0 := by omega
    subst this
    exact h
  | e + 1, he => by
    by_cases q : d = e + 1
    · subst q
      exact h
    · exact bl_up (bl_le h e (by omega))
theorem bl_step {d k f : Nat} (hf : f < F) (hp : P f = true) (h : (a f = k ∧ bl P a c F g d (c f) = true) ∨ (c f = k ∧ bl P a c F g d (a f) = true)) : bl P a c F g (d + 1) k = true := by
  show (bl P a c F g d k || adj P a c (bl P a c F g d) F k) = true
  rw [Bool.or_eq_true]
  exact Or.inr ((adj_iff F).mpr ⟨f, hf, hp, h⟩)
theorem bl_same {d : Nat} (h : ∀ f, f < F → P f = true → bl P a c F g d (a f) = bl P a c F g d (c f)) : bl P a c F g (d + 1) = bl P a c F g d := by
  funext k
  by_cases q : bl P a c F g d k = true
  · rw [q, bl_up q]
  · by_cases z : bl P a c F g (d + 1) k = true
    · rcases bl_inv z with z | ⟨f, hf, hp, z | z⟩
      · exact absurd z q
      · rw [← h f hf hp, z.1] at z
        exact absurd z.2 q
      · rw [h f hf hp, z.1] at z
        exact absurd z.2 q
    · rw [Bool.not_eq_true] at q z
      rw [q, z]
theorem bl_closed (h6 : ∀ f, f < F → a f < 6 ∧ c f < 6) (hg : g < 6) : ∀ f, f < F → P f = true → bl P a c F g 5 (a f) = bl P a c F g 5 (c f) := by
  have key : ∀ d, (∀ f, f < F → P f = true → bl P a c F g d (a f) = bl P a c F g d (c f)) ∨ d + 1 ≤ cn6 (bl P a c F g d) := by
    intro d
    induction d with
    | zero =>
      right
      exact cn6_one hg
    | succ d ih =>
      by_cases hcl : ∀ f, f < F → P f = true → bl P a c F g d (a f) = bl P a c F g d (c f)
      · left
        rw [bl_same hcl]
        exact hcl
      · right
        have ih' := ih.resolve_left hcl
        refine Classical.byContradiction fun hn => hcl ?_
        have heq := cn6_eq (s := bl P a c F g d) (t := bl P a c F g (d + 1)) (fun k hk => bl_up hk) (by omega)
        intro f hf hp
        obtain ⟨q1, q2⟩ := h6 f hf
        by_cases z1 : bl P a c F g d (a f) = true
        · rw [z1, ← heq _ q2, bl_step hf hp (Or.inr ⟨rfl, z1⟩)]
        · by_cases z2 : bl P a c F g d (c f) = true
          · have := bl_step (k := a f) hf hp (Or.inl ⟨rfl, z2⟩)
            rw [heq _ q1] at this
            exact absurd this z1
          · rw [Bool.not_eq_true] at z1 z2
            rw [z1, z2]
  rcases key 5 with h | h
  · exact h
  · have heq := cn6_eq (s := bl P a c F g 5) (t := fun _ => true) (fun k hk => rfl) (by
      have : cn6 (fun _ => true) = 6 := rfl
      omega)
    intro f hf hp
    obtain ⟨q1, q2⟩ := h6 f hf
    rw [← heq _ q1, ← heq _ q2]
/-- d is the distance -/
def dm (P : Nat → Bool) (a c : Nat → Nat) (F g : Nat) (k d : Nat) : Prop := bl P a c F g d k = true ∧ ∀ e, e < d → bl P a c F g e k = false
theorem dm_uni {k d e : Nat} (h1 : dm P a c F g k d) (h2 : dm P a c F g k e) : d = e := by
  have q1 : ¬ d < e := fun q => by
    have := h2.2 d q
    rw [h1.1] at this
    exact absurd this (by decide)
  have q2 : ¬ e < d := fun q => by
    have := h1.2 e q
    rw [h2.1] at this
    exact absurd this (by decide)
  omega
theorem dm_ex {k : Nat} : ∀ d, bl P a c F g d k = true → ∃ e, e ≤ d ∧ dm P a c F g k e
  | 0, h => ⟨0, Nat.le_refl 0, h, fun e he => absurd he (Nat.not_lt_zero e)⟩
  | d + 1, h => by
    by_cases q : bl P a c F g d k = true
    · obtain ⟨e, h1, h2⟩ := dm_ex d q
      exact ⟨e, by omega, h2⟩
    · refine ⟨d + 1, Nat.le_refl _, h, fun e he => ?_⟩
      by_cases z : bl P a c F g e k = true
      · exact absurd (bl_le z d (by omega)) q
      · rw [Bool.not_eq_true] at z
        exact z
theorem dm_next {k d : Nat} (h : dm P a c F g k (d + 1)) : ∃ f, f < F ∧ P f = true ∧ ((a f = k ∧ dm P a c F g (c f) d) ∨ (c f = k ∧ dm P a c F g (a f) d)) := by
  have hno := h.2 d (by omega)
  rcases bl_inv h.1 with q | ⟨f, hf, hp, q | q⟩
  · rw [hno] at q
    exact absurd q (by decide)
  · refine ⟨f, hf, hp, Or.inl ⟨q.1, q.2, fun e he => ?_⟩⟩
    by_cases z : bl P a c F g e (c f) = true
    · have := bl_step (k := k) hf hp (Or.inl ⟨q.1, z⟩)
      rw [h.2 (e + 1) (by omega)] at this
      exact absurd this (by decide)
    · rw [Bool.not_eq_true] at z
      exact z
  · refine ⟨f, hf, hp, Or.inr ⟨q.1, q.2, fun e he => ?_⟩⟩
    by_cases z : bl P a c F g e (a f) = true
    · have := bl_step (k := k) hf hp (Or.inr ⟨q.1, z⟩)
      rw [h.2 (e + 1) (by omega)] at this
      exact absurd this (by decide)
    · rw [Bool.not_eq_true] at z
      exact z
/-! ===== the class: breadth first ===== -/
def ro (W : Nat → Nat) (p q r : Nat) : Nat → Nat := fun k => if k = q ∧ W p = r ∧ W q = 99 then r + 1 else W k
def rnd (P : Nat → Bool) (a c : Nat → Nat) (r : Nat) (W : Nat → Nat) : Nat → Nat → Nat
  | 0 => W
  | i + 1 => if P i then ro (ro (rnd P a c r W i) (a i) (c i) r) (c i) (a i) r else rnd P a c r W i
/-- what away tells when r rounds are done -/
def IA (P : Nat → Bool) (a c : Nat → Nat) (F g r : Nat) (W : Nat → Nat) : Prop := ∀ k, k < 6 → (bl P a c F g r k = true → W k ≤ r ∧ dm P a c F g k (W k)) ∧ (bl P a c F g r k = false → W k = 99)
def JA (P : Nat → Bool) (a c : Nat → Nat) (F g r : Nat) (Ws W : Nat → Nat) : Prop := ∀ k, k < 6 → (bl P a c F g r k = true → W k = Ws k) ∧ (bl P a c F g r k = false → W k = 99 ∨ (W k = r + 1 ∧ bl P a c F g (r + 1) k = true))
theorem ro_keep {W : Nat → Nat} {p q r x : Nat} (hr : r < 90) (h : W x ≠ 99) : ro W p q r x ≠ 99 := by
  unfold ro
  split <;> omega
theorem ro_J {Ws W : Nat → Nat} {p q r : Nat} (hr : r < 90) (hp : p < 6) (hq : q < 6) (hI : IA P a c F g r Ws) (hJ : JA P a c F g r Ws W) (hpq : bl P a c F g r p = true → bl P a c F g (r + 1) q = true) : JA P a c F g r Ws (ro W p q r) ∧ (Ws p = r → ro W p q r q ≠ 99) := by
  have hpW : ∀ v, v = r → (W p = v ∨ Ws p = v) → bl P a c F g r p = true ∧ W p = v := by
    intro v hv h
    subst hv
    by_cases z : bl P a c F g v p = true
    · refine ⟨z, ?_⟩
      rcases h with h | h
      · exact h
      · rw [(hJ p hp).1 z]
        exact h
    · rw [Bool.not_eq_true] at z
      have z1 := (hJ p hp).2 z
      have z2 := (hI p hp).2 z
      omega
  constructor
  · intro k hk
    unfold ro
    by_cases e : k = q ∧ W p = r ∧ W q = 99
    · rw [if_pos e]
      obtain ⟨e1, e2, e3⟩ := e
      subst e1
      obtain ⟨y1, -⟩ := hpW r rfl (Or.inl e2)
      have hn : bl P a c F g r k = false := by
        by_cases z : bl P a c F g r k = true
        · have z1 := (hJ k hk).1 z
          have z2 := ((hI k hk).1 z).1
          omega
        · rw [Bool.not_eq_true] at z
          exact z
      rw [hn]
      exact ⟨fun q => absurd q (by decide), fun _ => Or.inr ⟨rfl, hpq y1⟩⟩
    · rw [if_neg e]
      exact hJ k hk
  · intro h
    obtain ⟨-, y2⟩ := hpW r rfl (Or.inr h)
    unfold ro
    split <;> omega
theorem rnd_J {Ws : Nat → Nat} {r : Nat} (hr : r < 90) (h6 : ∀ f, f < F → a f < 6 ∧ c f < 6) (hI : IA P a c F g r Ws) : ∀ i, i ≤ F → JA P a c F g r Ws (rnd P a c r Ws i) ∧ ∀ f, f < i → P f = true → (Ws (a f) = r → rnd P a c r Ws i (c f) ≠ 99) ∧ (Ws (c f) = r → rnd P a c r Ws i (a f) ≠ 99)
  | 0, _ => ⟨fun k hk => ⟨fun _ => rfl, fun h => Or.inl ((hI k hk).2 h)⟩, fun f hf => absurd hf (Nat.not_lt_zero f)⟩
  | i + 1, hi => by
    obtain ⟨ih1, ih2⟩ := rnd_J hr h6 hI i (by omega)
    obtain ⟨q1, q2⟩ := h6 i (by omega)
    have e : rnd P a c r Ws (i + 1) = if P i = true then ro (ro (rnd P a c r Ws i) (a i) (c i) r) (c i) (a i) r else rnd P a c r Ws i := rfl
    by_cases hp : P i = true
    · rw [if_pos hp] at e
      obtain ⟨j1, j2⟩ := ro_J hr q1 q2 hI ih1 (fun h => bl_step (by omega) hp (Or.inr ⟨rfl, h⟩))
      obtain ⟨j3, j4⟩ := ro_J hr q2 q1 hI j1 (fun h => bl_step (by omega) hp (Or.inl ⟨rfl, h⟩))
      rw [e]
      refine ⟨j3, fun f hf hpf => ?_⟩
      by_cases ef : f = i
      · subst ef
        exact ⟨fun h => ro_keep hr (j2 h), j4⟩
      · obtain ⟨y1, y2⟩ := ih2 f (by omega) hpf
        exact ⟨fun h => ro_keep hr (ro_keep hr (y1 h)), fun h => ro_keep hr (ro_keep hr (y2 h))⟩
    · rw [if_neg hp] at e
      rw [e]
      refine ⟨ih1, fun f hf hpf => ?_⟩
      by_cases ef : f = i
      · subst ef
        exact absurd hpf hp
      · exact ih2 f (by omega) hpf
theorem rnd_I {Ws : Nat → Nat} {r : Nat} (hr : r < 90) (h6 : ∀ f, f < F → a f < 6 ∧ c f < 6) (hI : IA P a c F g r Ws) : IA P a c F g (r + 1) (rnd P a c r Ws F) := by
  obtain ⟨h1, h2⟩ := rnd_J hr h6 hI F (Nat.le_refl F)
  intro k hk
  by_cases z : bl P a c F g r k = true
  · obtain ⟨y1, y2⟩ := (hI k hk).1 z
    rw [(h1 k hk).1 z]
    refine ⟨fun _ => ⟨by omega, y2⟩, fun q => ?_⟩
    rw [bl_up z] at q
    exact absurd q (by decide)
  · rw [Bool.not_eq_true] at z
    have y := (h1 k hk).2 z
    have hno : ∀ e, e < r + 1 → bl P a c F g e k = false := fun e he => by
      by_cases x : bl P a c F g e k = true
      · rw [bl_le x r (by omega)] at z
        exact absurd z (by decide)
      · rw [Bool.not_eq_true] at x
        exact x
    constructor
    · intro q
      have hne : rnd P a c r Ws F k ≠ 99 := by
        have hb : ∀ x, x < 6 → bl P a c F g r x = true → (bl P a c F g (r - 1) x = true → 0 < r → False) → Ws x = r := by
          intro x hx hbx hnb
          obtain ⟨w1, w2, w3⟩ := (hI x hx).1 hbx
          refine Classical.byContradiction fun hn => ?_
          exact hnb (bl_le w2 (r - 1) (by omega)) (by omega)
        rcases bl_inv q with q | ⟨f, hf, hp, q | q⟩
        · rw [z] at q
          exact absurd q (by decide)
        · have hw := hb (c f) (h6 f hf).2 q.2 (fun x hr0 => by
            have := bl_step (k := k) hf hp (Or.inl ⟨q.1, x⟩)
            rw [show r - 1 + 1 = r by omega, z] at this
            exact absurd this (by decide))
          have := (h2 f hf hp).2 hw
          rw [q.1] at this
          exact this
        · have hw := hb (a f) (h6 f hf).1 q.2 (fun x hr0 => by
            have := bl_step (k := k) hf hp (Or.inr ⟨q.1, x⟩)
            rw [show r - 1 + 1 = r by omega, z] at this
            exact absurd this (by decide))
          have := (h2 f hf hp).1 hw
          rw [q.1] at this
          exact this
      rcases y with y | ⟨y1, y2⟩
      · exact absurd y hne
      · rw [y1]
        exact ⟨Nat.le_refl _, y2, hno⟩
    · intro q
      rcases y with y | ⟨y1, y2⟩
      · exact y
      · rw [y2] at q
        exact absurd q (by decide)
/-! ===== the reference: shortening ===== -/
def rx (V : Nat → Nat) (p q : Nat) : Nat → Nat := fun k => if k = q then min (min (V q + 1) (V p) + 1) (V q) else if k = p then min (V q + 1) (V p) else V k
def rxs (P : Nat → Bool) (a c : Nat → Nat) (V : Nat → Nat) : Nat → Nat → Nat
  | 0 => V
  | i + 1 => if P i then rx (rxs P a c V i) (a i) (c i) else rxs P a c V i
/-- what far tells is a way's length -/
def SF (P : Nat → Bool) (a c : Nat → Nat) (F g : Nat) (V : Nat → Nat) : Prop := ∀ k, V k ≤ 99 ∧ (V k < 99 → bl P a c F g (V k) k = true)
theorem rx_le {V : Nat → Nat} {p q k : Nat} : rx V p q k ≤ V k := by
  unfold rx
  by_cases e1 : k = q
  · subst e1
    rw [if_pos rfl]
    omega
  · rw [if_neg e1]
    by_cases e2 : k = p
    · subst e2
      rw [if_pos rfl]
      omega
    · rw [if_neg e2]
      omega
theorem rx_S {V : Nat → Nat} {f : Nat} (hf : f < F) (hp : P f = true) (hS : SF P a c F g V) : SF P a c F g (rx V (a f) (c f)) := by
  obtain ⟨p1, p2⟩ := hS (a f)
  obtain ⟨q1, q2⟩ := hS (c f)
  have hA : min (V (c f) + 1) (V (a f)) < 99 → bl P a c F g (min (V (c f) + 1) (V (a f))) (a f) = true := fun h => by
    by_cases z : V (c f) + 1 < V (a f)
    · rw [Nat.min_eq_left (by omega)]
      exact bl_step hf hp (Or.inl ⟨rfl, q2 (by omega)⟩)
    · rw [Nat.min_eq_right (by omega)] at h ⊢
      exact p2 h
  intro k
  unfold rx
  by_cases e1 : k = c f
  · subst e1
    rw [if_pos rfl]
    refine ⟨by omega, fun h => ?_⟩
    by_cases z : min (V (c f) + 1) (V (a f)) + 1 < V (c f)
    · rw [Nat.min_eq_left (by omega)]
      exact bl_step hf hp (Or.inr ⟨rfl, hA (by omega)⟩)
    · rw [Nat.min_eq_right (by omega)] at h ⊢
      exact q2 h
  · rw [if_neg e1]
    by_cases e2 : k = a f
    · subst e2
      rw [if_pos rfl]
      exact ⟨by omega, hA⟩
    · rw [if_neg e2]
      exact hS k
theorem rxs_S {V : Nat → Nat} (hS : SF P a c F g V) : ∀ i, i ≤ F → SF P a c F g (rxs P a c V i)
  | 0, _ => hS
  | i + 1, hi => by
    show SF P a c F g (if P i = true then rx (rxs P a c V i) (a i) (c i) else rxs P a c V i)
    have ih := rxs_S hS i (by omega)
    by_cases hp : P i = true
    · rw [if_pos hp]
      exact rx_S (by omega) hp ih
    · rw [if_neg hp]
      exact ih
theorem rxs_C {V : Nat → Nat} (hac : ∀ f, f < F → a f ≠ c f) : ∀ i, i ≤ F → (∀ k, rxs P a c V i k ≤ V k) ∧ ∀ f, f < i → P f = true → rxs P a c V i (a f) ≤ V (c f) + 1 ∧ rxs P a c V i (c f) ≤ V (a f) + 1
  | 0, _ => ⟨fun k => Nat.le_refl _, fun f hf => absurd hf (Nat.not_lt_zero f)⟩
  | i + 1, hi => by
    obtain ⟨h1, h2⟩ := rxs_C (V := V) hac i (by omega)
    have e : rxs P a c V (i + 1) = if P i = true then rx (rxs P a c V i) (a i) (c i) else rxs P a c V i := rfl
    by_cases hp : P i = true
    · rw [if_pos hp] at e
      rw [e]
      refine ⟨fun k => Nat.le_trans rx_le (h1 k), fun f hf hpf => ?_⟩
      by_cases ef : f = i
      · subst ef
        have q1 := h1 (a f)
        have q2 := h1 (c f)
        have q3 := hac f (by omega)
        unfold rx
        rw [if_neg q3, if_pos rfl, if_pos rfl]
        omega
      · obtain ⟨y1, y2⟩ := h2 f (by omega) hpf
        exact ⟨Nat.le_trans rx_le y1, Nat.le_trans rx_le y2⟩
    · rw [if_neg hp] at e
      rw [e]
      refine ⟨h1, fun f hf hpf => ?_⟩
      by_cases ef : f = i
      · subst ef
        exact absurd hpf hp
      · exact h2 f (by omega) hpf
def CF (P : Nat → Bool) (a c : Nat → Nat) (F g r : Nat) (V : Nat → Nat) : Prop := ∀ d, d ≤ r → ∀ k, bl P a c F g d k = true → V k ≤ d
theorem rxs_CF {V : Nat → Nat} {r : Nat} (hac : ∀ f, f < F → a f ≠ c f) (h : CF P a c F g r V) : CF P a c F g (r + 1) (rxs P a c V F) := by
  obtain ⟨h1, h2⟩ := rxs_C (P := P) (V := V) hac F (Nat.le_refl F)
  intro d hd k hb
  by_cases hdr : d ≤ r
  · exact Nat.le_trans (h1 k) (h d hdr k hb)
  · have : d = r + 1 := by omega
    subst this
    rcases bl_inv hb with q | ⟨f, hf, hp, q | q⟩
    · exact Nat.le_trans (h1 k) (Nat.le_trans (h r (Nat.le_refl r) k q) (by omega))
    · have y1 := (h2 f hf hp).1
      have y2 := h r (Nat.le_refl r) _ q.2
      rw [q.1] at y1
      omega
    · have y1 := (h2 f hf hp).2
      have y2 := h r (Nat.le_refl r) _ q.2
      rw [q.1] at y1
      omega
/-- both tell the distance -/
theorem IA_dm {W : Nat → Nat} {r k d : Nat} (hI : IA P a c F g r W) (hr : r < 90) (hk : k < 6) (hd : d ≤ r) : W k = d ↔ dm P a c F g k d := by
  constructor
  · intro h
    by_cases z : bl P a c F g r k = true
    · rw [← h]
      exact ((hI k hk).1 z).2
    · rw [Bool.not_eq_true] at z
      have := (hI k hk).2 z
      omega
  · intro h
    exact dm_uni ((hI k hk).1 (bl_le h.1 r hd)).2 h
theorem CF_dm {V : Nat → Nat} {r k d : Nat} (hS : SF P a c F g V) (hC : CF P a c F g r V) (hr : r < 90) (hd : d ≤ r) : V k = d ↔ dm P a c F g k d := by
  constructor
  · intro h
    refine ⟨?_, fun e he => ?_⟩
    · rw [← h]
      exact (hS k).2 (by omega)
    · by_cases z : bl P a c F g e k = true
      · have := hC e (by omega) k z
        omega
      · rw [Bool.not_eq_true] at z
        exact z
  · intro h
    have h1 := hC d hd k h.1
    refine Classical.byContradiction fun hn => ?_
    have h2 := (hS k).2 (by omega)
    rw [h.2 (V k) (by omega)] at h2
    exact absurd h2 (by decide)
end
theorem ex_least {p : Nat → Prop} : ∀ n, p n → ∃ m, m ≤ n ∧ p m ∧ ∀ k, k < m → ¬ p k := by
  intro n
  induction n using Nat.strongRecOn with
  | ind n ih =>
    intro h
    by_cases q : ∃ k, k < n ∧ p k
    · obtain ⟨k, hk, hp⟩ := q
      obtain ⟨m, h1, h2⟩ := ih k hk hp
      exact ⟨m, by omega, h2⟩
    · exact ⟨n, Nat.le_refl n, h, fun k hk hp => q ⟨k, hk, hp⟩⟩
