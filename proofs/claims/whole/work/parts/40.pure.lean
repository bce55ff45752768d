section ST16
theorem phg : ∀ (n k : Nat) (f : Nat → Nat), (∀ i, i < k → f i < n) → (∀ i j, i < k → j < k → f i = f j → i = j) → k ≤ n
  | 0, k, f, h1, _ => by
    by_cases e : k = 0
    · omega
    · have := h1 0 (by omega); omega
  | n + 1, 0, f, _, _ => by omega
  | n + 1, k + 1, f, h1, h2 => by
    have := phg n k (fun i => if f i = n then f k else f i) (fun i hi => by
      by_cases e : f i = n
      · rw [if_pos e]
        have a := h1 k (by omega)
        by_cases e2 : f k = n
        · have := h2 i k (by omega) (by omega) (by omega); omega
        · omega
      · rw [if_neg e]; have := h1 i (by omega); omega) (fun i j hi hj he => by
      by_cases e : f i = n
      · by_cases e2 : f j = n
        · exact h2 i j (by omega) (by omega) (by omega)
        · rw [if_pos e, if_neg e2] at he
          have := h2 k j (by omega) (by omega) he; omega
      · by_cases e2 : f j = n
        · rw [if_neg e, if_pos e2] at he
          have := h2 i k (by omega) (by omega) he; omega
        · rw [if_neg e, if_neg e2] at he
          exact h2 i j (by omega) (by omega) he)
    omega
/-- where the duties lead from g -/
def wk (T : Nat → Nat → Int32) (g : Nat) : Nat → Int32
  | 0 => nI g
  | k + 1 => if wk T g k = -1 then -1 else T 4 (wk T g k).toNatClampNeg
theorem wk_r {n : Nat} {T : Nat → Nat → Int32} (hW : WFT n T) {g : Nat} (hg : g < n) : ∀ k, wk T g k = -1 ∨ ∃ d, d < n ∧ wk T g k = nI d
  | 0 => Or.inr ⟨g, hg, rfl⟩
  | k + 1 => by
    unfold wk
    rcases wk_r hW hg k with e | ⟨d, hd, e⟩
    · rw [if_pos e]; exact Or.inl rfl
    · have := hW.1
      rw [e, if_neg (nI_nm1 (by omega)), nI_clamp (by omega)]
      rcases (hW.2 d hd).2.2 with q | ⟨x, hx, _, q⟩
      · exact Or.inl q
      · exact Or.inr ⟨x, hx, q⟩
theorem wk_m {T : Nat → Nat → Int32} {g k : Nat} (h : wk T g k = -1) : ∀ t, wk T g (k + t) = -1
  | 0 => h
  | t + 1 => by
    show wk T g ((k + t) + 1) = -1
    unfold wk
    rw [if_pos (wk_m h t)]
theorem wk_t {T : Nat → Nat → Int32} {g i j : Nat} (h : wk T g i = wk T g j) : ∀ t, wk T g (i + t) = wk T g (j + t)
  | 0 => h
  | t + 1 => by
    show wk T g ((i + t) + 1) = wk T g ((j + t) + 1)
    unfold wk
    rw [wk_t h t]
theorem wk_k {n : Nat} {T : Nat → Nat → Int32} (hW : WFT n T) {g k : Nat} (hg : g < n) (h1 : wk T g (k + 1) = nI g) (h2 : ∀ j, j < k → ¬ wk T g (j + 1) = nI g) : k < n := by
  have hn := hW.1
  have nm : ∀ i, i ≤ k + 1 → ¬ wk T g i = -1 := fun i hi e => by
    have := wk_m e (k + 1 - i)
    rw [show i + (k + 1 - i) = k + 1 by omega, h1] at this
    exact nI_nm1 (by omega) this
  have hv : ∀ i, i ≤ k → ∃ d, d < n ∧ wk T g i = nI d := fun i hi => (wk_r hW hg i).resolve_left (nm i (by omega))
  have hlt : ∀ i j, i < j → j ≤ k → ¬ wk T g i = wk T g j := fun i j hij hj e => by
    have := wk_t e (k + 1 - j)
    rw [show j + (k + 1 - j) = k + 1 by omega, h1, show i + (k + 1 - j) = (i + (k - j)) + 1 by omega] at this
    exact h2 _ (by omega) this
  have := phg n (k + 1) (fun i => (wk T g i).toNatClampNeg) (fun i hi => by
    obtain ⟨d, hd, e⟩ := hv i (by omega)
    rw [e, nI_clamp (by omega)]; exact hd) (fun i j hi hj he => by
    obtain ⟨d, hd, e⟩ := hv i (by omega)
    obtain ⟨d', hd', e'⟩ := hv j (by omega)
    rw [e, e', nI_clamp (by omega), nI_clamp (by omega)] at he
    subst he
    have ee := e.trans e'.symm
    rcases Nat.lt_trichotomy i j with q | q | q
    · exact absurd ee (hlt i j q (by omega))
    · exact q
    · exact absurd ee.symm (hlt j i q (by omega)))
  omega
def rng (T : Nat → Nat → Int32) (g : Nat) : Int32 := if ff (fun k => decide (wk T g (k + 1) = nI g)) 7 < 7 then nI (ff (fun k => decide (wk T g (k + 1) = nI g)) 7 + 1) else 0
theorem rng_s {T : Nat → Nat → Int32} {g i : Nat} (hi : i < 7) (h1 : wk T g (i + 1) = nI g) (h2 : ∀ j, j < i → ¬ wk T g (j + 1) = nI g) : rng T g = nI (i + 1) := by
  obtain ⟨f1, f2, f3⟩ := ff_spec (fun k => decide (wk T g (k + 1) = nI g)) 7
  have e : ff (fun k => decide (wk T g (k + 1) = nI g)) 7 = i := by
    rcases Nat.lt_trichotomy (ff (fun k => decide (wk T g (k + 1) = nI g)) 7) i with q | q | q
    · exact absurd (of_decide_eq_true (f3 (by omega))) (h2 _ q)
    · exact q
    · exact absurd h1 (of_decide_eq_false (f2 i q))
  unfold rng
  rw [e, if_pos hi]
theorem rng_0 {T : Nat → Nat → Int32} {g : Nat} (h2 : ∀ j, j < 7 → ¬ wk T g (j + 1) = nI g) : rng T g = 0 := by
  obtain ⟨f1, f2, f3⟩ := ff_spec (fun k => decide (wk T g (k + 1) = nI g)) 7
  unfold rng
  by_cases q : ff (fun k => decide (wk T g (k + 1) = nI g)) 7 < 7
  · exact absurd (of_decide_eq_true (f3 q)) (h2 _ q)
  · rw [if_neg q]
end ST16
