/-! the class gathers its rows -/
section RW4
abbrev PG (c o : Nat) : Prop := c = 0 ∧ 38 ≤ o ∧ o < 49
abbrev P40 (c o : Nat) : Prop := c = 0 ∧ 40 ≤ o ∧ o < 49
def HCw (M : gMem) (c n : Nat) (T : Nat → Nat → Int32) : Prop := M.1 c 0 13 = nI n ∧ ∀ g, g < n → M.1 c 2 g = T 2 g ∧ M.1 c 3 g = T 3 g
def okW (T : Nat → Nat → Int32) (who : Nat → Nat) (i j : Nat) : Bool := decide (i ≠ j) && csv T (who i) (who j)
theorem fc_le (u : Nat) : ∀ j, fc u j ≤ j
  | 0 => Nat.le_refl _
  | j + 1 => by
    have := fc_le u j
    show fc u j + _ ≤ _
    split <;> omega
variable {M : gMem} {c n m : Nat} {T : Nat → Nat → Int32}
theorem HCw.fr {N : gMem} (h : HCw M c n T) (f : fr PG M N) : HCw N c n T := by
  refine ⟨by rw [f.2 c 0 (by omega)]; exact h.1, fun g hg => ?_⟩
  rw [f.2 c 2 (by omega), f.2 c 3 (by omega)]
  exact h.2 g hg
theorem C_canw (h : HCw M c n T) (hn : n ≤ 7) {g w : Nat} (hg : g < n) (hw : w < n) : x_X1_canServe M c (nI g) (nI w) = some (b2i (csv T g w)) := by
  unfold x_X1_canServe
  rw [gd_i (gin_n (by omega) (by omega)), gd_i (gin_n (by omega) (by omega)), nI_clamp (by omega), nI_clamp (by omega), (h.2 g hg).2, (h.2 w hw).1]
  unfold csv b2i
  by_cases e : ((T 3 g >>> (T 2 w &&& 31)) &&& 1) = 0
  · rw [if_pos e]; simp [e]
  · rw [if_neg e]; simp [e]
theorem C_g8 (hC : M.1 c 0 13 = nI n) (hn : n ≤ 7) {a : Nat} (ha : a < 128) (goal : Int32) : ∃ N, itr FU (fun s => s_X7_gather_8 c (nI a) goal s.1 s.2) (0, gwr M 0 38 4 0) = some (nI n, N) ∧ N.1 0 38 4 = nI (fc (127 - a) n) ∧ (∀ i, i < fc (127 - a) n → N.1 0 39 i = nI (nx n (127 - a) i)) ∧ fr PG M N := by
  obtain ⟨⟨z, N⟩, hr, q0, q1, q2, q3⟩ := itr_inv (step := fun s => s_X7_gather_8 c (nI a) goal s.1 s.2) (s := (0, gwr M 0 38 4 0)) (fun g s => g ≤ n ∧ s.1 = nI g ∧ s.2.1 0 38 4 = nI (fc (127 - a) g) ∧ (∀ i, i < fc (127 - a) g → s.2.1 0 39 i = nI (nx n (127 - a) i)) ∧ fr PG M s.2) (fun r => r.1 = nI n ∧ r.2.1 0 38 4 = nI (fc (127 - a) n) ∧ (∀ i, i < fc (127 - a) n → r.2.1 0 39 i = nI (nx n (127 - a) i)) ∧ fr PG M r.2) n (by omega) ⟨by omega, rfl, gwr_j _ _ _ _ _, fun i hi => absurd hi (Nat.not_lt_zero i), fr.rf.wr ⟨rfl, by omega⟩⟩ (by
    rintro g ⟨x, N⟩ ⟨hg, rfl, h1, h2, h3⟩
    dsimp only at *
    have hN : N.1 c 0 13 = nI n := by rw [h3.2 c 0 (by omega)]; exact hC
    unfold s_X7_gather_8 j_X7_gather_8_47
    by_cases e : g = n
    · subst e
      rw [hN, if_pos (by rw [nI_leI (by omega) (by omega)]; omega)]
      exact Or.inl ⟨_, rfl, rfl, h1, h2, h3⟩
    · rw [hN, if_neg (by rw [nI_leI (by omega) (by omega)]; omega)]
      have hb := bf_bit a ha g (by omega)
      have hq := bf_c a ha g (by omega)
      have hl := fc_le (127 - a) g
      cases hab : a.testBit g
      · rw [hab] at hq
        rw [if_pos (hb.mpr hab)]
        refine Or.inr ⟨by omega, _, rfl, by omega, nI_1 g, ?_, ?_, h3⟩
        · rw [fc_0 hq]; exact h1
        · rw [fc_0 hq]; exact h2
      · rw [hab] at hq
        rw [if_neg (fun z => by rw [hb.mp z] at hab; cases hab), h1, gd_i (gin_n (by omega) (by omega)), nI_clamp (by omega)]
        refine Or.inr ⟨by omega, _, rfl, by omega, nI_1 g, ?_, fun i hi => ?_, (h3.wr ⟨rfl, by omega⟩).wr ⟨rfl, by omega⟩⟩
        · rw [fc_1 hq, gwr_j, gwr_o (by omega), h1, nI_1]
        · rw [fc_1 hq] at hi
          rw [gwr_o (by omega)]
          by_cases ei : i = fc (127 - a) g
          · subst ei; rw [gwr_j, nx_at (by omega) hq]
          · rw [gwr_k _ _ _ _ ei]; exact h2 i (by omega))
  dsimp only at *
  subst q0
  exact ⟨N, hr, q1, q2, q3⟩
theorem C_gath (hw : HCw M c n T) (hn : n ≤ 7) {a : Nat} (ha : a < 128) (goal : Int32) {cst : Nat → Nat → Int} (hcost : ∀ K, fr PG M K → ∀ i j, i < fc (127 - a) n → j < fc (127 - a) n → x_X7_costOf K c (nI (nx n (127 - a) i)) (nI (nx n (127 - a) j)) goal = some (iI (cst i j))) : ∃ N, x_X7_gather M c (nI a) goal = some N ∧ RWS N (fc (127 - a) n) (okW T (nx n (127 - a))) cst ∧ (∀ i, i < fc (127 - a) n → N.1 0 39 i = nI (nx n (127 - a) i)) ∧ fr PG M N := by
  obtain ⟨N0, n1, n2, n3, n4⟩ := C_g8 hw.1 hn ha goal
  have hml : fc (127 - a) n ≤ n := fc_le _ _
  have hwho : ∀ i, i < fc (127 - a) n → nx n (127 - a) i < n := by
    intro i hi
    obtain ⟨j, j1, j2, j3⟩ := nx_ex hi
    rw [← j3, nx_at j1 j2]; exact j1
  generalize nx n (127 - a) = who at *
  generalize fc (127 - a) n = m at *
  have up40 : ∀ K, fr P40 N0 K → fr PG M K := fun K f => n4.tr (f.mono (fun c o q => ⟨q.1, by omega, by omega⟩))
  -- one turn of the inner loop
  have key : ∀ i j K, i < m → j < m → fr P40 N0 K → s_X7_gather_76 c goal (nI i) (nI j) K = some (.inl (nI (j + 1), if okW T who i j = true then gwr (gwr K 0 40 i (K.1 0 40 i ||| (1 <<< (nI j &&& 31)))) 0 (42 + i) j (iI (cst i j)) else K)) := by
    intro i j K hi hj f
    have k4 : K.1 0 38 4 = nI m := by rw [f.2 0 38 (by omega)]; exact n2
    have k39 : ∀ x, x < m → K.1 0 39 x = nI (who x) := fun x hx => by rw [f.2 0 39 (by omega)]; exact n3 x hx
    unfold s_X7_gather_76 j_X7_gather_76_156
    rw [k4, if_neg (by rw [nI_leI (by omega) (by omega)]; omega), nI_1]
    by_cases e : i = j
    · subst e
      rw [if_pos rfl, if_neg (by simp [okW])]
    · have ga : gin (nI i) 7 := gin_n (by omega) (by omega)
      have gb : gin (nI j) 7 := gin_n (by omega) (by omega)
      have ca : (nI i).toNatClampNeg = i := nI_clamp (by omega)
      have cb : (nI j).toNatClampNeg = j := nI_clamp (by omega)
      have w39 : ∀ v, (gwr K 0 40 i v).1 0 39 = K.1 0 39 := fun v => gwr_o (by omega)
      rw [if_neg (nI_ne (by omega) (by omega) e)]
      simp only [gd_i ga, gd_i gb, ca, cb, w39, k39 i hi, k39 j hj]
      refine (bindS (C_canw (hw.fr (up40 K f)) hn (hwho i hi) (hwho j hj))).trans ?_
      cases hs : csv T (who i) (who j)
      · rw [if_pos (b2i_0.mpr rfl), if_neg (by simp [okW, hs])]
      · rw [if_neg (by rw [b2i_0]; decide), if_pos (by simp [okW, hs, e])]
        refine (bindS (hcost (gwr K 0 40 i (K.1 0 40 i ||| (1 <<< (nI j &&& 31)))) (up40 _ (f.wr ⟨rfl, by omega, by omega⟩)) i j hi hj)).trans rfl
  have inner : ∀ i K, i < m → fr P40 N0 K → ∃ K', itr FU (fun s => s_X7_gather_76 c goal (nI i) s.1 s.2) (0, gwr K 0 40 i 0) = some (nI m, K') ∧ fr P40 N0 K' ∧ (∃ b, b < 2 ^ m ∧ K'.1 0 40 i = nI b ∧ ∀ j, j < m → b.testBit j = okW T who i j) ∧ (∀ j, j < m → okW T who i j = true → K'.1 0 (42 + i) j = iI (cst i j)) ∧ (∀ x, x ≠ i → K'.1 0 40 x = K.1 0 40 x) ∧ (∀ o, o ≠ 40 → o ≠ 42 + i → K'.1 0 o = K.1 0 o) := by
    intro i K hi f
    obtain ⟨⟨z, K'⟩, hr, q0, q1, q2, q3, q4, q5⟩ := itr_inv (step := fun s => s_X7_gather_76 c goal (nI i) s.1 s.2) (s := (0, gwr K 0 40 i 0)) (fun j s => j ≤ m ∧ s.1 = nI j ∧ fr P40 N0 s.2 ∧ (∃ b, b < 2 ^ j ∧ s.2.1 0 40 i = nI b ∧ ∀ x, x < j → b.testBit x = okW T who i x) ∧ (∀ x, x < j → okW T who i x = true → s.2.1 0 (42 + i) x = iI (cst i x)) ∧ (∀ x, x ≠ i → s.2.1 0 40 x = K.1 0 40 x) ∧ (∀ o, o ≠ 40 → o ≠ 42 + i → s.2.1 0 o = K.1 0 o)) (fun r => r.1 = nI m ∧ fr P40 N0 r.2 ∧ (∃ b, b < 2 ^ m ∧ r.2.1 0 40 i = nI b ∧ ∀ j, j < m → b.testBit j = okW T who i j) ∧ (∀ j, j < m → okW T who i j = true → r.2.1 0 (42 + i) j = iI (cst i j)) ∧ (∀ x, x ≠ i → r.2.1 0 40 x = K.1 0 40 x) ∧ (∀ o, o ≠ 40 → o ≠ 42 + i → r.2.1 0 o = K.1 0 o)) m (by omega) ⟨by omega, rfl, f.wr ⟨rfl, by omega, by omega⟩, ⟨0, by decide, gwr_j _ _ _ _ _, fun x hx => absurd hx (Nat.not_lt_zero x)⟩, fun x hx => absurd hx (Nat.not_lt_zero x), fun x hx => gwr_k _ _ _ _ hx, fun o ho _ => gwr_o (by omega)⟩ (by
      rintro j ⟨x, Q⟩ ⟨hj, rfl, h1, ⟨b, hb, h2, h3⟩, h4, h5, h6⟩
      dsimp only at *
      by_cases e : j = m
      · subst e
        left
        have k4 : Q.1 0 38 4 = nI j := by rw [h1.2 0 38 (by omega)]; exact n2
        refine ⟨(nI j, Q), ?_, rfl, h1, ⟨b, hb, h2, h3⟩, h4, h5, h6⟩
        unfold s_X7_gather_76
        rw [k4, if_pos (by rw [nI_leI (by omega) (by omega)]; omega)]
      · have hjm : j < m := by omega
        have hpw : 2 ^ (j + 1) = 2 ^ j * 2 := Nat.pow_succ 2 j
        refine Or.inr ⟨hjm, _, key i j Q hi hjm h1, ?_⟩
        cases ho : okW T who i j
        · rw [if_neg (by decide)]
          refine ⟨by omega, rfl, h1, ⟨b, by omega, h2, fun x hx => ?_⟩, fun x hx hox => ?_, h5, h6⟩
          · by_cases ex : x = j
            · subst ex; rw [ho]; exact Nat.testBit_lt_two_pow hb
            · exact h3 x (by omega)
          · by_cases ex : x = j
            · subst ex; rw [ho] at hox; cases hox
            · exact h4 x (by omega) hox
        · rw [if_pos rfl]
          have hb128 : b < 128 := Nat.lt_of_lt_of_le hb (Nat.le_trans (Nat.pow_le_pow_right (by decide) (show j ≤ 6 by omega)) (by decide))
          have hor : b ||| 2 ^ j < 2 ^ (j + 1) := Nat.or_lt_two_pow (by omega) (by omega)
          refine ⟨by omega, rfl, (h1.wr ⟨rfl, by omega, by omega⟩).wr ⟨rfl, by omega, by omega⟩, ⟨b ||| 2 ^ j, hor, ?_, fun x hx => ?_⟩, fun x hx hox => ?_, fun x hx => ?_, fun o ho1 ho2 => ?_⟩
          · dsimp only
            rw [gwr_o (by omega), gwr_j, h2, bf_or b hb128 j (by omega)]
          · rw [Nat.testBit_or]
            by_cases ex : x = j
            · subst ex; rw [ho, Nat.testBit_two_pow_self, Bool.or_true]
            · rw [Nat.testBit_two_pow_of_ne (fun q => ex q.symm), Bool.or_false]; exact h3 x (by omega)
          · dsimp only
            by_cases ex : x = j
            · subst ex; rw [gwr_j]
            · rw [gwr_k _ _ _ _ ex, gwr_o (by omega)]; exact h4 x (by omega) hox
          · dsimp only
            rw [gwr_o (by omega), gwr_k _ _ _ _ hx]; exact h5 x hx
          · dsimp only
            rw [gwr_o (by omega), gwr_o (by omega)]; exact h6 o ho1 ho2)
    dsimp only at *
    subst q0
    exact ⟨K', hr, q1, q2, q3, q4, q5⟩
  obtain ⟨⟨z, N⟩, hr, q1, q2⟩ := itr_inv (step := fun s => s_X7_gather_56 c goal s.1 s.2) (s := (0, N0)) (fun i s => i ≤ m ∧ s.1 = nI i ∧ fr P40 N0 s.2 ∧ ∀ x, x < i → (∃ b, b < 2 ^ m ∧ s.2.1 0 40 x = nI b ∧ ∀ j, j < m → b.testBit j = okW T who x j) ∧ (∀ j, j < m → okW T who x j = true → s.2.1 0 (42 + x) j = iI (cst x j))) (fun r => fr P40 N0 r.2 ∧ ∀ x, x < m → (∃ b, b < 2 ^ m ∧ r.2.1 0 40 x = nI b ∧ ∀ j, j < m → b.testBit j = okW T who x j) ∧ (∀ j, j < m → okW T who x j = true → r.2.1 0 (42 + x) j = iI (cst x j))) m (by omega) ⟨by omega, rfl, fr.rf, fun x hx => absurd hx (Nat.not_lt_zero x)⟩ (by
    rintro i ⟨x, K⟩ ⟨hi, rfl, h1, h2⟩
    dsimp only at *
    have k4 : K.1 0 38 4 = nI m := by rw [h1.2 0 38 (by omega)]; exact n2
    unfold s_X7_gather_56
    by_cases e : i = m
    · subst e
      rw [k4, if_pos (by rw [nI_leI (by omega) (by omega)]; omega)]
      exact Or.inl ⟨_, rfl, h1, h2⟩
    · obtain ⟨K', w0, w1, w2, w3, w4, w5⟩ := inner i K (by omega) h1
      rw [k4, if_neg (by rw [nI_leI (by omega) (by omega)]; omega), gd_i (gin_n (by omega) (by omega)), nI_clamp (by omega)]
      refine Or.inr ⟨by omega, (nI i + 1, K'), (bindS w0).trans rfl, by omega, nI_1 i, w1, fun x hx => ?_⟩
      dsimp only
      by_cases ex : x = i
      · subst ex; exact ⟨w2, w3⟩
      · rw [w4 x ex, w5 (42 + x) (by omega) (by omega)]
        exact h2 x (by omega))
  dsimp only at *
  have b128 : 2 ^ m ≤ 128 := (bf_full m (by omega)).2.2.2
  refine ⟨N, ?_, ⟨by rw [q1.2 0 38 (by omega)]; exact n2, fun i hi => ?_⟩, fun i hi => by rw [q1.2 0 39 (by omega)]; exact n3 i hi, up40 N q1⟩
  · unfold x_X7_gather
    exact (bindS n1).trans ((bindS hr).trans rfl)
  · obtain ⟨⟨b, hb, h1, h2⟩, h3⟩ := q2 i hi
    exact ⟨⟨b, by omega, h1, h2⟩, h3⟩
theorem C_clo (hw : HCw M c n T) (hn : n ≤ 7) {a : Nat} (ha : a < 128) : ∃ N, x_X10_closes M c (nI a) = some (b2i (decide (0 < Wy (fc (127 - a) n) (okW T (nx n (127 - a))) (fc (127 - a) n) 0)), N) ∧ fr (fun c o => c = 0 ∧ 38 ≤ o ∧ o < 50) M N := by
  obtain ⟨N, n1, n2, _, n4⟩ := C_gath (cst := fun _ _ => 0) hw hn ha 0 (fun K f i j hi hj => rfl)
  have hm : fc (127 - a) n ≤ 7 := Nat.le_trans (fc_le _ _) hn
  obtain ⟨N2, p1, p2⟩ := C_ways n2 hm
  refine ⟨N2, ?_, (n4.mono (fun c o q => ⟨q.1, by omega, by omega⟩)).tr (p2.mono (fun c o q => ⟨q.1, by omega, by omega⟩))⟩
  unfold x_X10_closes
  refine (bindS n1).trans ((bindS p1).trans ?_)
  have hb : ∀ (k : Nat) (p : Nat → Bool), fd (fun x y => x + y) 0 (fun s => if p s = true then 1 else 0) k ≤ k := by
    intro k p
    induction k with
    | zero => exact Nat.le_refl _
    | succ k ih =>
      show fd (fun x y => x + y) 0 (fun s => if p s = true then 1 else 0) k + (if p k = true then 1 else 0) ≤ k + 1
      split <;> omega
  have hf : ∀ k, k ≤ 7 → fac k ≤ 5040 := by decide
  have h1 : Wy (fc (127 - a) n) (okW T (nx n (127 - a))) (fc (127 - a) n) 0 ≤ 5040 := Nat.le_trans (hb _ (okF (fc (127 - a) n) (okW T (nx n (127 - a))) (fc (127 - a) n) 0)) (hf _ hm)
  dsimp only
  by_cases e : 0 < Wy (fc (127 - a) n) (okW T (nx n (127 - a))) (fc (127 - a) n) 0
  · rw [if_neg (nI_nle e (by omega))]; simp [e, b2i]
  · rw [show Wy (fc (127 - a) n) (okW T (nx n (127 - a))) (fc (127 - a) n) 0 = 0 by omega]; rfl
end RW4
