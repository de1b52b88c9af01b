/-! ===== the pivots are above 0 ===== -/
theorem gat_idem (P : Nat → Bool) (a c : Nat → Nat) : ∀ F x, gat P a c F (gat P a c F x) = gat P a c F x
  | 0, x => rfl
  | F + 1, x => by
    have ih := gat_idem P a c F
    by_cases hp : P F = true
    · rw [gat_succ hp]
      have i1 := ih (a F)
      have i2 := ih (c F)
      have i3 := ih x
      have hmin : gat P a c F (min (gat P a c F (a F)) (gat P a c F (c F))) = min (gat P a c F (a F)) (gat P a c F (c F)) := by
        by_cases h : gat P a c F (a F) ≤ gat P a c F (c F)
        · rw [Nat.min_eq_left h]
          exact i1
        · rw [Nat.min_eq_right (by omega)]
          exact i2
      unfold jn
      by_cases e : gat P a c F x = max (gat P a c F (a F)) (gat P a c F (c F))
      · rw [if_pos e, hmin]
        split
        · rfl
        · rfl
      · rw [if_neg e, i3, if_neg e]
    · rw [gat_skip hp]
      exact ih x
theorem plc_surj {hr : Nat → Bool} {m : Nat} : ∀ K, m < plc hr K → ∃ k, k < K ∧ hr k = true ∧ plc hr k = m
  | 0, h => absurd h (Nat.not_lt_zero m)
  | K + 1, h => by
    by_cases b : hr K = true
    · rw [plc_succ b] at h
      by_cases e : m = plc hr K
      · exact ⟨K, by omega, b, e.symm⟩
      · obtain ⟨k, h1, h2, h3⟩ := plc_surj (hr := hr) (m := m) K (by omega)
        exact ⟨k, by omega, h2, h3⟩
    · rw [plc_skip b] at h
      obtain ⟨k, h1, h2, h3⟩ := plc_surj K h
      exact ⟨k, by omega, h2, h3⟩
theorem plc_bd1 {hr : Nat → Bool} (h0 : ¬ hr 0 = true) : ∀ K, plc hr (K + 1) ≤ K
  | 0 => by rw [plc_skip h0]; exact Nat.le_refl 0
  | K + 1 => by
    have := plc_bd1 h0 K
    show plc hr (K + 1) + (if hr (K + 1) = true then 1 else 0) ≤ K + 1
    split <;> omega
theorem plc_bd2 {hr : Nat → Bool} {p : Nat} (h0 : ¬ hr 0 = true) (hp : ¬ hr (p + 1) = true) : ∀ d, plc hr (p + 2 + d) ≤ p + d
  | 0 => by
    rw [Nat.add_zero, plc_skip hp]
    exact plc_bd1 h0 p
  | d + 1 => by
    have := plc_bd2 h0 hp d
    show plc hr (p + 2 + d) + (if hr (p + 2 + d) = true then 1 else 0) ≤ p + (d + 1)
    split <;> omega
theorem sm_ind {v : Nat → Int} {m i0 : Nat} {b : Bool} : sm m (fun i => (if b = true ∧ i = i0 then 1 else 0) * v i) = if b = true ∧ i0 < m then v i0 else 0 := by
  by_cases h : b = true ∧ i0 < m
  · rw [if_pos h, sm_one (k := i0) m h.2 (fun c hc hne => by rw [if_neg (fun q => hne q.2), Int.zero_mul]), if_pos ⟨h.1, rfl⟩, Int.one_mul]
  · rw [if_neg h, sm_zero m (fun c hc => by
      rw [if_neg (fun q => h ⟨q.1, by rw [← q.2]; exact hc⟩), Int.zero_mul])]
/-- the square of a vector by the system -/
theorem aF_sq {hr : Nat → Bool} {L a c : Nat → Nat} {F m : Nat} {mv rv v : Nat → Int} (hm : m ≤ 6) : sm m (fun i => v i * sm m (fun k => aF hr L a c F mv rv i k * v k)) = sm F (fun f => mv f * (sm m (fun i => wF hr L a c f i * v i) * sm m (fun i => wF hr L a c f i * v i))) := by
  have h1 : ∀ i, sm m (fun k => aF hr L a c F mv rv i k * v k) = sm F (fun f => (mv f * wF hr L a c f i) * sm m (fun k => wF hr L a c f k * v k)) := by
    intro i
    rw [sm_congr m (g := fun k => sm F (fun f => (mv f * wF hr L a c f i) * (wF hr L a c f k * v k))) (fun k hk => by
      unfold aF
      rw [if_neg (by omega), Int.mul_comm, ← sm_mul]
      exact sm_congr F (fun f hf => by grind)), sm_comm]
    exact sm_congr F (fun f hf => by rw [sm_mul])
  rw [sm_congr m (g := fun i => sm F (fun f => (mv f * sm m (fun k => wF hr L a c f k * v k)) * (wF hr L a c f i * v i))) (fun i hi => by
    rw [h1 i, ← sm_mul]
    exact sm_congr F (fun f hf => by grind)), sm_comm]
  exact sm_congr F (fun f hf => by rw [sm_mul]; grind)
theorem sq_nonneg (x : Int) : 0 ≤ x * x := by
  by_cases h : 0 ≤ x
  · exact Int.mul_nonneg h h
  · have := Int.mul_nonneg (show 0 ≤ -x by omega) (show 0 ≤ -x by omega)
    rw [Int.neg_mul_neg] at this
    exact this
theorem sm_term {f : Nat → Int} : ∀ n, (∀ c, c < n → 0 ≤ f c) → ∀ k, k < n → f k ≤ sm n f
  | 0, _, k, h => absurd h (Nat.not_lt_zero k)
  | n + 1, h, k, hk => by
    rw [sm_succ]
    have h1 := h n (by omega)
    by_cases e : k = n
    · subst e
      have := sm_nonneg k (fun c hc => h c (by omega))
      omega
    · have := sm_term n (fun c hc => h c (by omega)) k (by omega)
      omega
def phi (hr : Nat → Bool) (L : Nat → Nat) (m : Nat) (v : Nat → Int) (x : Nat) : Int := if hr (L x) = true ∧ plc hr (L x) < m then v (plc hr (L x)) else 0
section
variable {P Q : Nat → Bool} {a c : Nat → Nat} {F K : Nat} {mv rv : Nat → Int}
theorem aF_pos (hK : K ≤ 6) (hQ : ∀ f, f < F → Q f = true) (hmv : ∀ f, f < F → 1 ≤ mv f) : ∀ m, m ≤ plc (hrw (gat P a c F) (gat Q a c F)) K → 1 ≤ D m (aF (hrw (gat P a c F) (gat Q a c F)) (gat P a c F) a c F mv rv)
  | 0, _ => Int.le_refl 1
  | m + 1, h => by
    have hn := plc_bd (hr := hrw (gat P a c F) (gat Q a c F)) K
    have hall : ∀ q, q ≤ m → 1 ≤ D q (aF (hrw (gat P a c F) (gat Q a c F)) (gat P a c F) a c F mv rv) := fun q hq => aF_pos hK hQ hmv q (by omega)
    have hd := hall m (Nat.le_refl m)
    have hC := all_Cr hall m (Nat.le_refl m)
    have hsq := el_sq hC (by omega)
    rw [aF_sq (by omega)] at hsq
    have hnn : ∀ f, f < F → 0 ≤ mv f * (sm (m + 1) (fun i => wF (hrw (gat P a c F) (gat Q a c F)) (gat P a c F) a c f i * (if i < m then - Em (aF (hrw (gat P a c F) (gat Q a c F)) (gat P a c F) a c F mv rv) m i m else D m (aF (hrw (gat P a c F) (gat Q a c F)) (gat P a c F) a c F mv rv))) * sm (m + 1) (fun i => wF (hrw (gat P a c F) (gat Q a c F)) (gat P a c F) a c f i * (if i < m then - Em (aF (hrw (gat P a c F) (gat Q a c F)) (gat P a c F) a c F mv rv) m i m else D m (aF (hrw (gat P a c F) (gat Q a c F)) (gat P a c F) a c F mv rv)))) := fun f hf => Int.mul_nonneg (by have := hmv f hf; omega) (sq_nonneg _)
    refine Classical.byContradiction fun hneg => ?_
    generalize hv : (fun i => if i < m then - Em (aF (hrw (gat P a c F) (gat Q a c F)) (gat P a c F) a c F mv rv) m i m else D m (aF (hrw (gat P a c F) (gat Q a c F)) (gat P a c F) a c F mv rv)) = v at hsq hnn
    have hv' : ∀ i, (if i < m then - Em (aF (hrw (gat P a c F) (gat Q a c F)) (gat P a c F) a c F mv rv) m i m else D m (aF (hrw (gat P a c F) (gat Q a c F)) (gat P a c F) a c F mv rv)) = v i := fun i => congrFun hv i
    simp only [hv'] at hsq hnn
    have hle : D m (aF (hrw (gat P a c F) (gat Q a c F)) (gat P a c F) a c F mv rv) * D (m + 1) (aF (hrw (gat P a c F) (gat Q a c F)) (gat P a c F) a c F mv rv) ≤ 0 := Int.mul_nonpos_of_nonneg_of_nonpos (by omega) (by omega)
    rw [← hsq] at hle
    have hq0 : ∀ f, f < F → sm (m + 1) (fun i => wF (hrw (gat P a c F) (gat Q a c F)) (gat P a c F) a c f i * v i) = 0 := by
      intro f hf
      have h1 := sm_term F hnn f hf
      have h2 := hnn f hf
      have h3 : mv f * (sm (m + 1) (fun i => wF (hrw (gat P a c F) (gat Q a c F)) (gat P a c F) a c f i * v i) * sm (m + 1) (fun i => wF (hrw (gat P a c F) (gat Q a c F)) (gat P a c F) a c f i * v i)) = 0 := by omega
      have h4 := hmv f hf
      rcases Int.mul_eq_zero.mp h3 with h5 | h5
      · omega
      · rcases Int.mul_eq_zero.mp h5 with h6 | h6
        · exact h6
        · exact h6
    obtain ⟨k, hk1, hk2, hk3⟩ := plc_surj (hr := hrw (gat P a c F) (gat Q a c F)) (m := m) K (by omega)
    have hphi : ∀ f, f < F → Q f = true → phi (hrw (gat P a c F) (gat Q a c F)) (gat P a c F) (m + 1) v (a f) = phi (hrw (gat P a c F) (gat Q a c F)) (gat P a c F) (m + 1) v (c f) := by
      intro f hf _
      have h0 := hq0 f hf
      have e : sm (m + 1) (fun i => wF (hrw (gat P a c F) (gat Q a c F)) (gat P a c F) a c f i * v i) = sm (m + 1) (fun i => 1 * ((if hrw (gat P a c F) (gat Q a c F) (gat P a c F (a f)) = true ∧ i = plc (hrw (gat P a c F) (gat Q a c F)) (gat P a c F (a f)) then 1 else 0) * v i) + (-1) * ((if hrw (gat P a c F) (gat Q a c F) (gat P a c F (c f)) = true ∧ i = plc (hrw (gat P a c F) (gat Q a c F)) (gat P a c F (c f)) then 1 else 0) * v i)) := sm_congr _ (fun i hi => by
        unfold wF
        grind)
      rw [e, sm_lin, sm_ind, sm_ind] at h0
      unfold phi
      omega
    have hfac := gat_factor F hphi k (gat Q a c F k) (gat_idem Q a c F k).symm
    have hLk : gat P a c F k = k ∧ gat Q a c F k ≠ k := by
      unfold hrw at hk2
      rw [Bool.and_eq_true] at hk2
      exact ⟨by simpa using hk2.1, by simpa using hk2.2⟩
    unfold phi at hfac
    rw [hLk.1, if_pos ⟨hk2, by omega⟩, hk3] at hfac
    have hvm : v m = D m (aF (hrw (gat P a c F) (gat Q a c F)) (gat P a c F) a c F mv rv) := by
      rw [← hv' m, if_neg (Nat.lt_irrefl m)]
    have hr0 : gat P a c F (gat Q a c F k) = gat Q a c F k := by
      have h1 := gat_le P a c F (gat Q a c F k)
      have h2 := gat_sub (P := P) (Q := Q) (a := a) (c := c) (i := F) (F := F) (Nat.le_refl F) (fun f hf _ => hQ f hf) (gat_idem P a c F (gat Q a c F k))
      rw [gat_idem Q a c F k] at h2
      have h3 := gat_le Q a c F (gat P a c F (gat Q a c F k))
      omega
    have hnr : ¬ hrw (gat P a c F) (gat Q a c F) (gat Q a c F k) = true := by
      unfold hrw
      rw [gat_idem Q a c F k]
      simp
    rw [hr0, if_neg (fun z => hnr z.1), hvm] at hfac
    omega
end
