/-! all, least, most: the reference looks at every row -/
section RW8
theorem fc0 : ∀ i, fc 0 i = i
  | 0 => rfl
  | i + 1 => by rw [fc_1 (Nat.zero_testBit i), fc0 i]
theorem nx0 {n i : Nat} (hi : i < n) : nx n 0 i = i := by
  have := nx_at (m := n) (u := 0) hi (Nat.zero_testBit i)
  rwa [fc0] at this
theorem co_sum {m : Nat} (cst : Nat → Nat → Int) : ∀ d, d ≤ m → ∀ u s, coF m cst d u s = fd (fun x y => x + y) 0 (fun t => cst (m - d + t) (rwF m d u s (m - d + t))) d
  | 0, _, _, _ => rfl
  | d + 1, h, u, s => by
    rw [coF_s, co_sum cst d (by omega), Nat.add_comm d 1, fd_add (fun x y z => Int.add_assoc x y z) (fun f n => Int.add_zero _)]
    have e1 : m - (1 + d) + 0 = m - (d + 1) := by omega
    have e0 : ∀ f : Nat → Int, fd (fun x y => x + y) 0 f 1 = f 0 := fun f => Int.zero_add _
    rw [e0, e1]
    have r0 : rwF m (1 + d) u s (m - (d + 1)) = nx m u (s / fac d) := by rw [Nat.add_comm 1 d, rwF_s, if_pos rfl]
    rw [r0]
    congr 1
    · rw [Nat.add_comm 1 d]
    refine fd_cong d (fun t ht => ?_)
    have e2 : m - (1 + d) + (1 + t) = m - d + t := by omega
    rw [e2]
    have r1 : rwF m (1 + d) u s (m - d + t) = rwF m d (u ||| 2 ^ nx m u (s / fac d)) (s % fac d) (m - d + t) := by rw [Nat.add_comm 1 d, rwF_s, if_neg (by omega)]
    rw [r1]
theorem rwF_lt {m : Nat} (hm : m ≤ 7) : ∀ d u s, u < 2 ^ m → fc u m = d → s < fac d → ∀ i, m - d ≤ i → i < m → rwF m d u s i < m
  | 0, _, _, _, _, _, i, h1, h2 => by omega
  | d + 1, u, s, hu, hf, hs, i, h1, h2 => by
    have hD := fac_pos d
    have hq : s / fac d < fc u m := by rw [hf]; exact (Nat.div_lt_iff_lt_mul hD).mpr hs
    obtain ⟨j, j1, j2, j3⟩ := nx_ex hq
    have hn : nx m u (s / fac d) = j := by rw [← j3]; exact nx_at j1 j2
    have hup := bf_up m (by omega) u hu j j1 j2
    rw [rwF_s, hn]
    by_cases e : i = m - (d + 1)
    · rw [if_pos e]; exact j1
    · rw [if_neg e]
      exact rwF_lt hm d (u ||| 2 ^ j) (s % fac d) hup.1 (by omega) (Nat.mod_lt _ hD) i (by omega) h2
theorem co_lo {m : Nat} {cst : Nat → Nat → Int} (h : ∀ i j, 0 ≤ cst i j) : ∀ d u s, 0 ≤ coF m cst d u s
  | 0, _, _ => Int.le_refl _
  | d + 1, u, s => by
    have h1 := h (m - (d + 1)) (nx m u (s / fac d))
    have h2 := co_lo (m := m) h d (u ||| 2 ^ nx m u (s / fac d)) (s % fac d)
    rw [coF_s]; omega
theorem co_hi {m : Nat} {cst : Nat → Nat → Int} (h : ∀ i j, cst i j ≤ 0) : ∀ d u s, coF m cst d u s ≤ 0
  | 0, _, _ => Int.le_refl _
  | d + 1, u, s => by
    have h1 := h (m - (d + 1)) (nx m u (s / fac d))
    have h2 := co_hi (m := m) h d (u ||| 2 ^ nx m u (s / fac d)) (s % fac d)
    rw [coF_s]; omega
theorem fd_rng {v : Nat → Int} {lo hi : Int} (h : ∀ s, v s = BIG ∨ (lo ≤ v s ∧ v s ≤ hi)) : ∀ r, fd mn BIG v r = BIG ∨ (lo ≤ fd mn BIG v r ∧ fd mn BIG v r ≤ hi)
  | 0 => Or.inl rfl
  | r + 1 => by
    have h1 := h r
    have h2 := fd_rng h r
    show mn (fd mn BIG v r) (v r) = BIG ∨ (lo ≤ mn (fd mn BIG v r) (v r) ∧ mn (fd mn BIG v r) (v r) ≤ hi)
    rw [mn_e]
    split
    · exact h1
    · exact h2
def cW (T : Nat → Nat → Int32) (n i j : Nat) : Int := if i < n ∧ j < n then (wkT T i (T 2 j)).toInt else 0
def cC (T : Nat → Nat → Int32) (hr : Int32) (n i j : Nat) : Int := if i < n ∧ j < n then -(ctT T hr j i).toInt else 0
theorem cnt_b (k : Nat) (q hr : Int32) : 0 ≤ (cnt k q hr).toInt ∧ (cnt k q hr).toInt ≤ 10 := by
  unfold cnt
  repeat' split
  all_goals decide
theorem cW_b {n : Nat} {T : Nat → Nat → Int32} (hW : WFT n T) (i j : Nat) : 0 ≤ cW T n i j ∧ cW T n i j ≤ 10 := by
  unfold cW
  split
  · rename_i h
    obtain ⟨k, hk, e⟩ := (hW.2 i h.1).1
    obtain ⟨w, hw, e2⟩ := (hW.2 j h.2).2.1
    unfold wkT
    rw [e, e2, nI_clamp (by omega)]
    have hd : ∀ k, k < 6 → ∀ w, w < 8 → 0 ≤ (wrk k (nI w)).toInt ∧ (wrk k (nI w)).toInt ≤ 10 := by decide +kernel
    exact hd k hk w hw
  · decide
theorem cC_b (n : Nat) (T : Nat → Nat → Int32) (hr : Int32) (i j : Nat) : -10 ≤ cC T hr n i j ∧ cC T hr n i j ≤ 0 := by
  unfold cC
  split
  · have := cnt_b (T 1 j).toNatClampNeg (T 1 i) hr
    unfold ctT
    omega
  · decide
variable {M : gMem} {n : Nat} {T : Nat → Nat → Int32}
theorem M_rw (h : HM M n T) (hW : WFT n T) (h16 : M.1 0 59 16 = nI n) {row : Nat → Nat} (h66 : ∀ g, g < n → M.1 0 66 g = nI (row g) ∧ row g < n) : x_X11_rowWork M = some (iI (fd (fun x y => x + y) 0 (fun i => cW T n i (row i)) n)) := by
  have hn := hW.1
  unfold x_X11_rowWork
  refine (bindS (itr_tr (fun i => (iI (fd (fun x y => x + y) 0 (fun i => cW T n i (row i)) i), nI i)) n (iI (fd (fun x y => x + y) 0 (fun i => cW T n i (row i)) n), nI n) rfl (by omega) (fun i hi => ?_) ?_)).trans rfl
  · dsimp only
    obtain ⟨e1, e2⟩ := h66 i hi
    unfold s_X11_rowWork_4
    rw [h16, if_neg (by rw [nI_leI (by omega) (by omega)]; omega), gd_i (gin_n (by omega) (by omega)), nI_clamp (by omega), e1, show (24 : Int32) + nI (row i) = nI (24 + row i) from nI_add 24 _, gd_i (gin_n (by omega) (by omega)), nI_clamp (by omega), (h.2 _ e2).2.1]
    refine (bindS (M_wk h hW hi (T 2 (row i)))).trans ?_
    have : wkT T i (T 2 (row i)) = iI (cW T n i (row i)) := by
      unfold cW
      rw [if_pos ⟨hi, e2⟩, iI_toInt]
    rw [this, iI_add, nI_1]
    rfl
  · dsimp only
    unfold s_X11_rowWork_4
    rw [h16, if_pos (by rw [nI_leI (by omega) (by omega)]; omega)]
theorem M_rc (h : HM M n T) (hW : WFT n T) (h16 : M.1 0 59 16 = nI n) {row : Nat → Nat} (h66 : ∀ g, g < n → M.1 0 66 g = nI (row g) ∧ row g < n) : x_X11_rowContent M = some (iI (-(fd (fun x y => x + y) 0 (fun i => cC T (M.1 0 60 0) n i (row i)) n))) := by
  have hn := hW.1
  unfold x_X11_rowContent
  refine (bindS (itr_tr (fun i => (iI (-(fd (fun x y => x + y) 0 (fun i => cC T (M.1 0 60 0) n i (row i)) i)), nI i)) n (iI (-(fd (fun x y => x + y) 0 (fun i => cC T (M.1 0 60 0) n i (row i)) n)), nI n) rfl (by omega) (fun i hi => ?_) ?_)).trans rfl
  · dsimp only
    obtain ⟨e1, e2⟩ := h66 i hi
    unfold s_X11_rowContent_4
    rw [h16, if_neg (by rw [nI_leI (by omega) (by omega)]; omega), gd_i (gin_n (by omega) (by omega)), nI_clamp (by omega), e1]
    refine (bindS (M_ct h hW e2 hi)).trans ?_
    have : ctT T (M.1 0 60 0) (row i) i = iI (-(cC T (M.1 0 60 0) n i (row i))) := by
      unfold cC
      rw [if_pos ⟨hi, e2⟩, Int.neg_neg, iI_toInt]
    rw [this, iI_add, nI_1]
    show some (Sum.inl (_, _)) = some (Sum.inl (iI (-(fd (fun x y => x + y) 0 (fun i => cC T (M.1 0 60 0) n i (row i)) i + cC T (M.1 0 60 0) n i (row i))), _))
    rw [Int.neg_add]
  · dsimp only
    unfold s_X11_rowContent_4
    rw [h16, if_pos (by rw [nI_leI (by omega) (by omega)]; omega)]
theorem M_cp (hn : n ≤ 7) (h16 : M.1 0 59 16 = nI n) (a1 a2 a3 a4 : Int32) : ∃ N, itr FU (fun s => s_X11_findRows_60 a1 a2 a3 a4 s.1 s.2) (0, M) = some (nI n, N) ∧ (∀ g, g < n → N.1 0 67 g = (if M.1 0 59 19 = 0 then M.1 0 66 g else M.1 0 67 g) ∧ N.1 0 68 g = (if a4 ≤ M.1 0 59 21 then M.1 0 68 g else M.1 0 66 g)) ∧ fr (fun c o => c = 0 ∧ (o = 67 ∨ o = 68)) M N := by
  obtain ⟨⟨z, N⟩, hr, q0, q1, q2⟩ := itr_inv (step := fun s => s_X11_findRows_60 a1 a2 a3 a4 s.1 s.2) (s := (0, M)) (fun i s => i ≤ n ∧ s.1 = nI i ∧ (∀ g, g < i → s.2.1 0 67 g = (if M.1 0 59 19 = 0 then M.1 0 66 g else M.1 0 67 g) ∧ s.2.1 0 68 g = (if a4 ≤ M.1 0 59 21 then M.1 0 68 g else M.1 0 66 g)) ∧ (∀ g, i ≤ g → s.2.1 0 67 g = M.1 0 67 g ∧ s.2.1 0 68 g = M.1 0 68 g) ∧ fr (fun c o => c = 0 ∧ (o = 67 ∨ o = 68)) M s.2) (fun r => r.1 = nI n ∧ (∀ g, g < n → r.2.1 0 67 g = (if M.1 0 59 19 = 0 then M.1 0 66 g else M.1 0 67 g) ∧ r.2.1 0 68 g = (if a4 ≤ M.1 0 59 21 then M.1 0 68 g else M.1 0 66 g)) ∧ fr (fun c o => c = 0 ∧ (o = 67 ∨ o = 68)) M r.2) n (by omega) ⟨by omega, rfl, fun g hg => absurd hg (Nat.not_lt_zero g), fun g _ => ⟨rfl, rfl⟩, fr.rf⟩ (by
    rintro i ⟨x, N⟩ ⟨hi, rfl, h1, h2, h3⟩
    dsimp only at *
    have n59 : N.1 0 59 = M.1 0 59 := h3.2 0 59 (by omega)
    have n66 : N.1 0 66 = M.1 0 66 := h3.2 0 66 (by omega)
    unfold s_X11_findRows_60 j_X11_findRows_60_99 j_X11_findRows_60_132
    by_cases e : i = n
    · subst e
      rw [n59, h16, if_pos (by rw [nI_leI (by omega) (by omega)]; omega)]
      exact Or.inl ⟨_, rfl, rfl, h1, h3⟩
    · have g1 : gin (nI i) 7 := gin_n (by omega) (by omega)
      have c1 : (nI i).toNatClampNeg = i := nI_clamp (by omega)
      have w59 : ∀ v, (gwr N 0 67 i v).1 0 59 = M.1 0 59 := fun v => by rw [gwr_o (by omega)]; exact n59
      have w68 : ∀ v, (gwr N 0 67 i v).1 0 68 = N.1 0 68 := fun v => gwr_o (by omega)
      have w66 : ∀ v, (gwr N 0 67 i v).1 0 66 = M.1 0 66 := fun v => by rw [gwr_o (by omega)]; exact n66
      have pn : ¬ nI n ≤ nI i := by rw [nI_leI (by omega) (by omega)]; omega
      simp only [n59, h16, if_neg pn, gd_i g1, c1, w59, w68, w66, n66, (h2 i (Nat.le_refl i)).1, (h2 i (Nat.le_refl i)).2, nI_1]
      have fin : ∀ v w, v = (if M.1 0 59 19 = 0 then M.1 0 66 i else M.1 0 67 i) → w = (if a4 ≤ M.1 0 59 21 then M.1 0 68 i else M.1 0 66 i) → (i + 1 ≤ n ∧ nI (i + 1) = nI (i + 1) ∧ (∀ g, g < i + 1 → (gwr (gwr N 0 67 i v) 0 68 i w).1 0 67 g = (if M.1 0 59 19 = 0 then M.1 0 66 g else M.1 0 67 g) ∧ (gwr (gwr N 0 67 i v) 0 68 i w).1 0 68 g = (if a4 ≤ M.1 0 59 21 then M.1 0 68 g else M.1 0 66 g)) ∧ (∀ g, i + 1 ≤ g → (gwr (gwr N 0 67 i v) 0 68 i w).1 0 67 g = M.1 0 67 g ∧ (gwr (gwr N 0 67 i v) 0 68 i w).1 0 68 g = M.1 0 68 g) ∧ fr (fun c o => c = 0 ∧ (o = 67 ∨ o = 68)) M (gwr (gwr N 0 67 i v) 0 68 i w)) := by
        intro v w hv hw
        refine ⟨by omega, rfl, fun g hg => ?_, fun g hg => ?_, (h3.wr ⟨rfl, by omega⟩).wr ⟨rfl, by omega⟩⟩
        · by_cases eg : g = i
          · subst eg
            refine ⟨?_, ?_⟩
            · rw [gwr_o (by omega), gwr_j]; exact hv
            · rw [gwr_j]; exact hw
          · refine ⟨?_, ?_⟩
            · rw [gwr_o (by omega), gwr_k _ _ _ _ eg]; exact (h1 g (by omega)).1
            · rw [gwr_k _ _ _ _ eg, w68]; exact (h1 g (by omega)).2
        · refine ⟨?_, ?_⟩
          · rw [gwr_o (by omega), gwr_k _ _ _ _ (by omega)]; exact (h2 g (by omega)).1
          · rw [gwr_k _ _ _ _ (by omega), w68]; exact (h2 g (by omega)).2
      refine Or.inr ⟨by omega, ?_⟩
      by_cases p1 : M.1 0 59 19 = 0
      · rw [if_pos p1] at fin ⊢
        by_cases p2 : a4 ≤ M.1 0 59 21
        · rw [if_pos p2] at fin ⊢
          exact ⟨_, rfl, fin _ _ rfl rfl⟩
        · rw [if_neg p2] at fin ⊢
          exact ⟨_, rfl, fin _ _ rfl rfl⟩
      · rw [if_neg p1] at fin ⊢
        by_cases p2 : a4 ≤ M.1 0 59 21
        · rw [if_pos p2] at fin ⊢
          exact ⟨_, rfl, fin _ _ rfl rfl⟩
        · rw [if_neg p2] at fin ⊢
          exact ⟨_, rfl, fin _ _ rfl rfl⟩)
  dsimp only at *
  subst q0
  exact ⟨N, hr, q1, q2⟩
end RW8
