section ST17
variable {M : gMem} {n : Nat} {T : Nat → Nat → Int32}
theorem wk_s {g k d : Nat} (hd : d < 2 ^ 31) (h : wk T g k = nI d) : wk T g (k + 1) = T 4 d := by
  show (if wk T g k = -1 then -1 else T 4 (wk T g k).toNatClampNeg) = _
  rw [h, if_neg (nI_nm1 hd), nI_clamp hd]
theorem C_ring (h : HC M 0 n T) (hW : WFT n T) {g : Nat} (hg : g < n) : x_X1_ringOf M 0 (nI g) = some (rng T g) := by
  have hn := hW.1
  obtain ⟨r, hr, hq⟩ := itr_inv (step := fun s : Int32 × Int32 => s_X1_ringOf_9 M 0 (nI g) s.1 s.2) (s := (wk T g 1, (1 : Int32))) (fun i s => i ≤ n ∧ s = (wk T g (i + 1), nI (i + 1)) ∧ ∀ j, j < i → ¬ wk T g (j + 1) = nI g) (fun r => Sum.elim (fun _ => some (0 : Int32)) (fun z => some z) r = some (rng T g)) n (by omega) ⟨by omega, rfl, fun j hj => absurd hj (Nat.not_lt_zero j)⟩ (by
    rintro i s ⟨hi, rfl, hj⟩
    dsimp only
    unfold s_X1_ringOf_9
    rw [h.1]
    by_cases e : i = n
    · rw [if_pos (by rw [nI_ltI (by omega) (by omega)]; omega)]
      refine Or.inl ⟨_, rfl, ?_⟩
      show some 0 = _
      have : ∀ x, x ≤ 7 → ∀ j, j < x → ¬ wk T g (j + 1) = nI g := by
        intro x
        induction x with
        | zero => exact fun _ j hj => absurd hj (Nat.not_lt_zero j)
        | succ x ih =>
          intro hx j hjx hw
          by_cases ej : j < x
          · exact ih (by omega) j ej hw
          · have ejx : j = x := by omega
            subst ejx
            have := wk_k hW hg hw (fun y hy => ih (by omega) y hy)
            exact hj j (by omega) hw
      rw [rng_0 (this 7 (Nat.le_refl 7))]
    · rw [if_neg (by rw [nI_ltI (by omega) (by omega)]; omega)]
      rcases wk_r hW hg (i + 1) with q | ⟨d, hd, q⟩
      · rw [if_pos q]
        refine Or.inl ⟨_, rfl, ?_⟩
        show some 0 = _
        rw [rng_0 (fun j hj7 hw => by
          by_cases ej : j < i
          · exact hj j ej hw
          · have := wk_m q (j - i)
            rw [show i + 1 + (j - i) = j + 1 by omega, hw] at this
            exact nI_nm1 (by omega) this)]
      · rw [q, if_neg (nI_nm1 (by omega))]
        by_cases ed : d = g
        · subst ed
          rw [if_pos rfl]
          refine Or.inl ⟨_, rfl, ?_⟩
          show some (nI (i + 1)) = _
          rw [rng_s (by omega) q hj]
        · rw [if_neg (nI_ne (by omega) (by omega) ed)]
          have ga : gin (nI d) 7 := gin_n (by omega) (by omega)
          have ca : (nI d).toNatClampNeg = d := nI_clamp (by omega)
          rw [gd_i ga, ca]
          refine Or.inr ⟨by omega, _, rfl, by omega, ?_, fun j hjj => ?_⟩
          · rw [wk_s (by omega) q, ← (h.2 d hd).2.2.2.1, nI_1]
          · by_cases ej : j = i
            · subst ej; rw [q]; exact nI_ne (by omega) (by omega) ed
            · exact hj j (by omega))
  unfold x_X1_ringOf
  have ga : gin (nI g) 7 := gin_n (by omega) (by omega)
  have ca : (nI g).toNatClampNeg = g := nI_clamp (by omega)
  have w1 : M.1 0 4 g = wk T g 1 := by rw [wk_s (k := 0) (by omega) (show wk T g 0 = nI g from rfl)]; exact (h.2 g hg).2.2.2.1
  rw [gd_i ga, ca, w1]
  exact (bindS hr).trans hq
theorem M_ring (h : HM M n T) (hW : WFT n T) {g : Nat} (hg : g < n) : x_X11_ringOf M (nI g) = some (rng T g) := by
  have hn := hW.1
  obtain ⟨r, hr, hq⟩ := itr_inv (step := fun s : Int32 × Int32 => s_X11_ringOf_4 M (nI g) s.1 s.2) (s := (nI g, (1 : Int32))) (fun i s => i ≤ 7 ∧ s = (wk T g i, nI (i + 1)) ∧ ∀ j, j < i → ¬ wk T g (j + 1) = nI g) (fun r => Sum.elim (fun _ => some (0 : Int32)) (fun z => some z) r = some (rng T g)) 7 (by omega) ⟨by omega, rfl, fun j hj => absurd hj (Nat.not_lt_zero j)⟩ (by
    rintro i s ⟨hi, rfl, hj⟩
    dsimp only
    by_cases e : i = 7
    · subst e
      refine Or.inl ⟨.inl (wk T g 7, nI 8), rfl, ?_⟩
      show some 0 = _
      rw [rng_0 hj]
    · have p1 : ¬ (7 : Int32) < nI (i + 1) := show ¬ nI 7 < nI (i + 1) from by rw [nI_ltI (by omega) (by omega)]; omega
      have st : s_X11_ringOf_4 M (nI g) (wk T g i) (nI (i + 1)) = if wk T g (i + 1) = nI g then some (.inr (.inr (nI (i + 1)))) else some (.inl (wk T g (i + 1), nI (i + 1) + 1)) := by
        unfold s_X11_ringOf_4 j_X11_ringOf_4_26
        rw [if_neg p1]
        rcases wk_r hW hg i with q | ⟨d, hd, q⟩
        · have q2 : wk T g (i + 1) = -1 := wk_m q 1
          rw [q, q2, if_neg (by decide)]
        · have a2 : (2 : Int32) + nI d = nI (2 + d) := nI_add 2 d
          rw [wk_s (by omega) q, q, if_pos (nI_pos' (by omega)), a2, gd_i (gin_n (by omega) (by omega)), nI_clamp (by omega), (h.2 d hd).2.2.2.1]
      rw [st]
      by_cases q : wk T g (i + 1) = nI g
      · rw [if_pos q]
        refine Or.inl ⟨_, rfl, ?_⟩
        show some (nI (i + 1)) = _
        rw [rng_s (by omega) q hj]
      · rw [if_neg q]
        refine Or.inr ⟨by omega, _, rfl, by omega, by rw [nI_1], fun j hjj => ?_⟩
        by_cases ej : j = i
        · subst ej; exact q
        · exact hj j (by omega))
  unfold x_X11_ringOf
  exact (bindS hr).trans hq
end ST17
