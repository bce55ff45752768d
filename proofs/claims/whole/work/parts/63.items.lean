section RD3
def tkA (M : gMem) (b : Nat → Nat) (t p : Nat) : Prop := M.1 0 36 2 = nI p ∧ M.1 0 36 3 = nI (te b t p) ∧ M.1 0 36 4 = scl (tk b t p) ∧ (tk b t p = 2 → M.1 0 36 5 = nI (tv b t p)) ∧ (tk b t p = 5 → M.1 0 36 5 = -1) ∧ TXA M t b ∧ p ≤ t
def tkB (M : gMem) (b : Nat → Nat) (t p : Nat) : Prop := M.1 0 59 9 = nI p ∧ M.1 0 59 6 = nI (te b t p) ∧ M.1 0 59 7 = srf (tk b t p) ∧ (tk b t p = 2 → M.1 0 59 8 = nI (tv b t p)) ∧ TXB M t b ∧ p ≤ t
def np (b : Nat → Nat) (t p : Nat) : Nat := tp b t (te b t p)
theorem np_b {b : Nat → Nat} {t p : Nat} (h : p ≤ t) : p ≤ np b t p ∧ np b t p ≤ t ∧ (tk b t p ≠ 0 → p < np b t p) := by
  obtain ⟨h1, h2, h3, _⟩ := te_b (b := b) h
  obtain ⟨h4, h5⟩ := tp_b (b := b) h2
  unfold np
  exact ⟨by omega, h5, fun q => by have := h3 q; omega⟩
theorem tk_5 (b : Nat → Nat) (t p : Nat) : tk b t p ≤ 5 := by
  unfold tk
  repeat' split
  all_goals omega
theorem scl_1 {k : Nat} (h : k ≤ 5) : (scl k = 1 ↔ k = 1) ∧ (scl k = 3 ↔ k = 3) ∧ (scl k = 0 ↔ k = 0) ∧ (scl k = 2 ↔ k = 2 ∨ k = 5) := by
  have : ∀ k, k < 6 → ((scl k = 1 ↔ k = 1) ∧ (scl k = 3 ↔ k = 3) ∧ (scl k = 0 ↔ k = 0) ∧ (scl k = 2 ↔ k = 2 ∨ k = 5)) := by decide +kernel
  exact this k (by omega)
theorem srf_1 {k : Nat} (h : k ≤ 5) : (srf k = 1 ↔ k = 1) ∧ (srf k = 4 ↔ k = 3) ∧ (srf k = 3 ↔ k = 0) ∧ (srf k = 2 ↔ k = 2) := by
  have : ∀ k, k < 6 → ((srf k = 1 ↔ k = 1) ∧ (srf k = 4 ↔ k = 3) ∧ (srf k = 3 ↔ k = 0) ∧ (srf k = 2 ↔ k = 2)) := by decide +kernel
  exact this k (by omega)
variable {M : gMem} {t : Nat} {b : Nat → Nat}
theorem C_next {p : Nat} (h : tkA M b t p) : ∃ N, x_X9_step M = some N ∧ tkA N b t (np b t p) ∧ fr P36 M N := by
  obtain ⟨_, h2, _, _, _, h6, h7⟩ := h
  obtain ⟨N, n1, n2, n3, n4, n5, n6, n7, n8⟩ := C_step h6 h2 (te_b (b := b) h7).2.1
  exact ⟨N, n1, ⟨n2, n3, n4, n5, n6, n7, (np_b h7).2.1⟩, n8⟩
theorem M_next {p : Nat} (h : tkB M b t p) : ∃ N, x_X11_nextToken M = some N ∧ tkB N b t (np b t p) ∧ (∀ j, j ≠ 6 → j ≠ 7 → j ≠ 8 → j ≠ 9 → N.1 0 59 j = M.1 0 59 j) ∧ fr P59 M N := by
  obtain ⟨_, h2, _, _, h6, h7⟩ := h
  obtain ⟨N, n1, n2, n3, n4, n5, n6, n7, n8⟩ := M_tok h6 h2 (te_b (b := b) h7).2.1
  exact ⟨N, n1, ⟨n2, n3, n4, n5, n6, (np_b h7).2.1⟩, n7, n8⟩
def wdB (b : Nat → Nat) (t p n : Nat) (g : Nat → Int32) : Bool := decide (tk b t p = 1) && (decide (te b t p = p + n) && allB (fun i => decide (nI (b (p + i)) = g i)) n)
theorem C_isw {p : Nat} (h : tkA M b t p) {w : Nat} (hw : w < 3) : x_X9_isWord M w = some (b2i (wdB b t p (slenN w) (sch w))) := by
  obtain ⟨h1, h2, h3, _, _, ⟨ht, _, hc⟩, hp⟩ := h
  have hk := tk_5 b t p
  obtain ⟨t1, t2, _, _⟩ := te_b (b := b) hp
  have hsl : slenN w ≤ 5 ∧ slen w = nI (slenN w) := by
    rcases (show w = 0 ∨ w = 1 ∨ w = 2 by omega) with rfl | rfl | rfl <;> exact ⟨by decide, rfl⟩
  unfold x_X9_isWord wdB
  rw [h3, h2, h1, pk_sub t1, hsl.2]
  by_cases e1 : tk b t p = 1
  · rw [if_pos ((scl_1 hk).1.mpr e1)]
    by_cases e2 : te b t p = p + slenN w
    · rw [if_pos (by rw [e2, Nat.add_sub_cancel_left])]
      obtain ⟨r1, r2, r3⟩ := ff_spec (fun i => !decide (nI (b (p + i)) = sch w i)) (slenN w)
      have hall := ff_all (fun i => !decide (nI (b (p + i)) = sch w i)) (slenN w)
      simp only [Bool.not_not] at hall
      have key : ∀ i, i < slenN w → s_X9_isWord_28 M w (nI i) = if decide (nI (b (p + i)) = sch w i) = true then some (.inl (nI (i + 1))) else some (.inr (.inr 0)) := by
        intro i hi
        have g1 : gin (nI (p + i)) 150 := gin_n (by omega) (by omega)
        have c1 : (nI (p + i)).toNatClampNeg = p + i := nI_clamp (by omega)
        have g2 : gin (nI i) (slenN w) := gin_n hi (by omega)
        have c2 : (nI i).toNatClampNeg = i := nI_clamp (by omega)
        unfold s_X9_isWord_28
        rw [hsl.2, if_neg (by rw [nI_leI (by omega) (by omega)]; omega), h1, nI_add]
        simp only [gd_i g1, gd_i g2, c1, c2, (hc (p + i) (by omega)).1, nI_1, decide_eq_true_eq]
      by_cases er : ff (fun i => !decide (nI (b (p + i)) = sch w i)) (slenN w) < slenN w
      · have hf : allB (fun i => decide (nI (b (p + i)) = sch w i)) (slenN w) = false := by
          rw [decide_eq_true er] at hall
          cases z : allB (fun i => decide (nI (b (p + i)) = sch w i)) (slenN w)
          · rfl
          · rw [z] at hall; cases hall
        rw [hf]
        refine (bindS (itr_tr (fun i => nI i) (ff (fun i => !decide (nI (b (p + i)) = sch w i)) (slenN w)) (.inr 0) rfl (by omega) (fun i hi => ?_) ?_)).trans (by simp [b2i])
        · have := r2 i hi
          show s_X9_isWord_28 M w (nI i) = _
          rw [key i (by omega), if_pos (by simpa using this)]
        · have := r3 er
          show s_X9_isWord_28 M w (nI (ff (fun i => !decide (nI (b (p + i)) = sch w i)) (slenN w))) = _
          rw [key _ er, if_neg (by simpa using this)]
      · have hf : allB (fun i => decide (nI (b (p + i)) = sch w i)) (slenN w) = true := by
          rw [decide_eq_false er] at hall
          cases z : allB (fun i => decide (nI (b (p + i)) = sch w i)) (slenN w)
          · rw [z] at hall; cases hall
          · rfl
        rw [hf]
        refine (bindS (itr_tr (fun i => nI i) (slenN w) (.inl (nI (slenN w))) rfl (by omega) (fun i hi => ?_) ?_)).trans (by simp [b2i, e1, e2])
        · have := r2 i (by omega)
          show s_X9_isWord_28 M w (nI i) = _
          rw [key i (by omega), if_pos (by simpa using this)]
        · show s_X9_isWord_28 M w (nI (slenN w)) = _
          unfold s_X9_isWord_28
          rw [hsl.2, if_pos (by rw [nI_leI (by omega) (by omega)]; omega)]
    · rw [if_neg (fun q => e2 (by have := (nI_eq (by omega) (by omega)).mp q; omega))]
      simp [e2, b2i]
  · rw [if_neg (fun q => e1 ((scl_1 hk).1.mp q))]
    simp [e1, b2i]
theorem M_isw {p : Nat} (h : tkB M b t p) (g : Nat → Int32) {n : Nat} (hn : (n = 5 ∧ ¬ g 4 = 0) ∨ (n = 4 ∧ g 4 = 0)) : x_X11_isWord M (g 0) (g 1) (g 2) (g 3) (g 4) = some (b2i (wdB b t p n g)) := by
  obtain ⟨h1, h2, h3, _, ⟨ht, _, hc⟩, hp⟩ := h
  have hk := tk_5 b t p
  obtain ⟨t1, t2, _, _⟩ := te_b (b := b) hp
  have key : ∀ z : Int32, z = nI n → j_X11_isWord_10 M (g 0) (g 1) (g 2) (g 3) (g 4) z = some (b2i (wdB b t p n g)) := by
    intro z hz
    unfold j_X11_isWord_10 j_X11_isWord_97 j_X11_isWord_98 wdB
    rw [h3, h2, h1, pk_sub t1, hz]
    by_cases e1 : tk b t p = 1
    · rw [if_pos ((srf_1 hk).1.mpr e1)]
      by_cases e2 : te b t p = p + n
      · rw [if_pos (by rw [e2, Nat.add_sub_cancel_left])]
        have g0 : ∀ i, i < n → gin (nI (p + i)) 150 := fun i hi => gin_n (by omega) (by omega)
        have c0 : ∀ i, i < n → (nI (p + i)).toNatClampNeg = p + i := fun i hi => nI_clamp (by omega)
        have b0 : ∀ i, i < n → M.1 0 62 (p + i) = nI (b (p + i)) := fun i hi => (hc (p + i) (by omega)).1
        have a1 : nI p + 1 = nI (p + 1) := nI_1 p
        have a2 : nI p + 2 = nI (p + 2) := nI_add p 2
        have a3 : nI p + 3 = nI (p + 3) := nI_add p 3
        have a4 : nI p + 4 = nI (p + 4) := nI_add p 4
        have hg0 : gin (nI p) 150 := g0 0 (by omega)
        have hc0 : (nI p).toNatClampNeg = p := c0 0 (by omega)
        have hb0 : M.1 0 62 p = nI (b p) := b0 0 (by omega)
        rcases hn with ⟨rfl, h4⟩ | ⟨rfl, h4⟩
        · simp only [a1, a2, a3, a4, gd_i hg0, gd_i (g0 1 (by omega)), gd_i (g0 2 (by omega)), gd_i (g0 3 (by omega)), gd_i (g0 4 (by omega)), hc0, c0 1 (by omega), c0 2 (by omega), c0 3 (by omega), c0 4 (by omega), hb0, b0 1 (by omega), b0 2 (by omega), b0 3 (by omega), b0 4 (by omega)]
          have n5 : ¬ nI 5 < 5 := by decide
          rw [if_neg n5, if_neg (show ¬ (1 : Int32) = 0 by decide)]
          by_cases q0 : nI (b p) = g 0
          · by_cases q1 : nI (b (p + 1)) = g 1
            · by_cases q2 : nI (b (p + 2)) = g 2
              · by_cases q3 : nI (b (p + 3)) = g 3
                · by_cases q4 : nI (b (p + 4)) = g 4
                  · simp [q0, q1, q2, q3, q4, e1, e2, allB, b2i]
                  · simp [q0, q1, q2, q3, q4, allB, b2i]
                · simp [q0, q1, q2, q3, allB, b2i]
              · simp [q0, q1, q2, allB, b2i]
            · simp [q0, q1, allB, b2i]
          · simp [q0, allB, b2i]
        · simp only [a1, a2, a3, gd_i hg0, gd_i (g0 1 (by omega)), gd_i (g0 2 (by omega)), gd_i (g0 3 (by omega)), hc0, c0 1 (by omega), c0 2 (by omega), c0 3 (by omega), hb0, b0 1 (by omega), b0 2 (by omega), b0 3 (by omega)]
          have n5 : nI 4 < 5 := by decide
          rw [if_pos n5, if_neg (show ¬ (1 : Int32) = 0 by decide)]
          by_cases q0 : nI (b p) = g 0
          · by_cases q1 : nI (b (p + 1)) = g 1
            · by_cases q2 : nI (b (p + 2)) = g 2
              · by_cases q3 : nI (b (p + 3)) = g 3
                · simp [q0, q1, q2, q3, e1, e2, allB, b2i]
                · simp [q0, q1, q2, q3, allB, b2i]
              · simp [q0, q1, q2, allB, b2i]
            · simp [q0, q1, allB, b2i]
          · simp [q0, allB, b2i]
      · rw [if_neg (fun q => e2 (by have := (nI_eq (by omega) (by omega)).mp q; omega)), if_pos rfl]
        simp [e2, b2i]
    · rw [if_neg (fun q => e1 ((srf_1 hk).1.mp q)), if_pos rfl]
      simp [e1, b2i]
  unfold x_X11_isWord
  rcases hn with ⟨rfl, h4⟩ | ⟨rfl, h4⟩
  · rw [if_neg h4]; exact key 5 rfl
  · rw [if_pos h4]; exact key 4 rfl
def isN (b : Nat → Nat) (t p lim : Nat) : Bool := decide (tk b t p = 2) && decide (tv b t p < lim)
theorem C_isn {p lim : Nat} (h : tkA M b t p) (hl : lim ≤ 8) : x_X9_isNumber M (nI lim) = some (b2i (isN b t p lim)) := by
  obtain ⟨h1, h2, h3, h4, h5, _, hp⟩ := h
  have hk := tk_5 b t p
  unfold x_X9_isNumber isN
  rw [h3]
  by_cases e : tk b t p = 2
  · have hv := tv_b e
    rw [if_pos ((scl_1 hk).2.2.2.mpr (Or.inl e)), h4 e, if_neg (nI_pos (by omega))]
    by_cases e2 : tv b t p < lim
    · rw [if_neg (by rw [nI_leI (by omega) (by omega)]; omega)]; simp [e, e2, b2i]
    · rw [if_pos (by rw [nI_leI (by omega) (by omega)]; omega)]; simp [e2, b2i]
  · by_cases e5 : tk b t p = 5
    · rw [if_pos ((scl_1 hk).2.2.2.mpr (Or.inr e5)), h5 e5, if_pos (by decide)]; simp [e, b2i]
    · rw [if_neg (fun q => by rcases (scl_1 hk).2.2.2.mp q with z | z <;> omega)]; simp [e, b2i]
theorem C_stn {p lim : Nat} (h : tkA M b t p) (hl : lim ≤ 8) : ∃ N, x_X9_stepToNumber M (nI lim) = some (b2i (isN b t (np b t p) lim), N) ∧ tkA N b t (np b t p) ∧ fr P36 M N := by
  obtain ⟨N, n1, n2, n3⟩ := C_next h
  refine ⟨N, ?_, n2, n3⟩
  unfold x_X9_stepToNumber
  exact (bindS n1).trans ((bindS (C_isn n2 hl)).trans rfl)
theorem C_sts {p : Nat} (h : tkA M b t p) : ∃ N, x_X9_stepToStop M = some (b2i (decide (tk b t (np b t p) = 3)), N) ∧ tkA N b t (np b t p) ∧ fr P36 M N := by
  obtain ⟨N, n1, n2, n3⟩ := C_next h
  refine ⟨N, ?_, n2, n3⟩
  have hk := tk_5 b t (np b t p)
  unfold x_X9_stepToStop
  refine (bindS n1).trans ?_
  rw [n2.2.2.1]
  by_cases e : tk b t (np b t p) = 3
  · rw [if_pos ((scl_1 hk).2.1.mpr e)]; simp [e, b2i]
  · rw [if_neg (fun q => e ((scl_1 hk).2.1.mp q))]; simp [e, b2i]
theorem M_rds {p lim a : Nat} (h : tkB M b t p) (ha : a < 2) (hl : lim ≤ 8) {q : Int32} (hq : q = nI lim - 1) : ∃ N, x_X11_reads M (nI a) q = some (b2i (isN b t (np b t p) lim), N) ∧ tkB N b t (np b t p) ∧ (tk b t (np b t p) = 2 → N.1 0 63 a = nI (tv b t (np b t p))) ∧ (∀ j, j ≠ a → N.1 0 63 j = M.1 0 63 j) ∧ (∀ j, j ≠ 6 → j ≠ 7 → j ≠ 8 → j ≠ 9 → N.1 0 59 j = M.1 0 59 j) ∧ fr (fun c o => c = 0 ∧ (o = 59 ∨ o = 63)) M N := by
  obtain ⟨N, n1, n2, n3, n4⟩ := M_next h
  have hk := tk_5 b t (np b t p)
  obtain ⟨m1, m2, m3, m4, m5, m6⟩ := n2
  obtain ⟨K, hK⟩ : ∃ K, K = gwr N 0 63 a (N.1 0 59 8) := ⟨_, rfl⟩
  have K59 : K.1 0 59 = N.1 0 59 := by rw [hK, gwr_o (by omega)]
  have K62 : K.1 0 62 = N.1 0 62 := by rw [hK, gwr_o (by omega)]
  refine ⟨K, ?_, ⟨by rw [K59]; exact m1, by rw [K59]; exact m2, by rw [K59]; exact m3, fun q => by rw [K59]; exact m4 q, ⟨m5.1, by rw [K59]; exact m5.2.1, by rw [K62]; exact m5.2.2⟩, m6⟩, fun q => by rw [hK, gwr_j]; exact m4 q, fun j hj => by rw [hK, gwr_k _ _ _ _ hj, n4.2 0 63 (by omega)], fun j q1 q2 q3 q4 => by rw [K59]; exact n3 j q1 q2 q3 q4, ?_⟩
  · have hlim : (nI lim - 1).toInt = (lim : Int) - 1 := by
      have : ∀ n, n < 9 → (nI n - 1).toInt = (n : Int) - 1 := by decide +kernel
      exact this lim (by omega)
    unfold x_X11_reads isN
    refine (bindS n1).trans ?_
    rw [gd_i (gin_n ha (by omega)), nI_clamp (by omega), ← hK, K59, m3]
    by_cases e : tk b t (np b t p) = 2
    · have hv := tv_b e
      rw [if_pos ((srf_1 hk).2.2.2.mpr e), m4 e, hq]
      by_cases e2 : tv b t (np b t p) < lim
      · rw [if_neg (by rw [i32_lt, hlim, nI_toInt (by omega)]; omega)]; simp [e, e2, b2i]
      · rw [if_pos (by rw [i32_lt, hlim, nI_toInt (by omega)]; omega)]; simp [e2, b2i]
    · rw [if_neg (fun q => e ((srf_1 hk).2.2.2.mp q))]; simp [e, b2i]
  · rw [hK]
    exact (n4.mono (fun c o q => ⟨q.1, by omega⟩)).wr ⟨rfl, by omega⟩
/-- the services: both loops go through the same tokens -/
theorem SVC {A B : gMem} {p : Nat} (hA : tkA A b t p) (hB : tkB B b t p) (h11 : B.1 0 59 11 = 0) (x y : Int32) : ∃ r1 r2, itr FU (fun s => s_X9_parseGuest_42 1 x y s.1 s.2.1 s.2.2) (0, 0, A) = some r1 ∧ itr FU (fun s => s_X11_readServices_9 s) B = some r2 ∧ (∃ p', p ≤ p' ∧ tkA r1.2.2 b t p' ∧ tkB r2 b t p') ∧ r1.1 = r2.1 0 59 11 ∧ fr P36 A r1.2.2 ∧ (∀ j, j ≠ 6 → j ≠ 7 → j ≠ 8 → j ≠ 9 → j ≠ 11 → r2.1 0 59 j = B.1 0 59 j) ∧ fr P59 B r2 := by
  have ht := hA.2.2.2.2.2.1.1
  refine itr_rel (s1 := fun s : Int32 × Int32 × gMem => s_X9_parseGuest_42 1 x y s.1 s.2.1 s.2.2) (s2 := fun s : gMem => s_X11_readServices_9 s) (fun i (u : Int32 × Int32 × gMem) (v : gMem) => i ≤ 150 ∧ u.2.1 = nI i ∧ (∃ p', p ≤ p' ∧ i ≤ p' ∧ tkA u.2.2 b t p' ∧ tkB v b t p') ∧ u.1 = v.1 0 59 11 ∧ fr P36 A u.2.2 ∧ (∀ j, j ≠ 6 → j ≠ 7 → j ≠ 8 → j ≠ 9 → j ≠ 11 → v.1 0 59 j = B.1 0 59 j) ∧ fr P59 B v) (fun (r1 : Int32 × Int32 × gMem) (r2 : gMem) => (∃ p', p ≤ p' ∧ tkA r1.2.2 b t p' ∧ tkB r2 b t p') ∧ r1.1 = r2.1 0 59 11 ∧ fr P36 A r1.2.2 ∧ (∀ j, j ≠ 6 → j ≠ 7 → j ≠ 8 → j ≠ 9 → j ≠ 11 → r2.1 0 59 j = B.1 0 59 j) ∧ fr P59 B r2) 150 (by omega) ⟨by omega, rfl, ⟨p, Nat.le_refl _, by omega, hA, hB⟩, h11.symm, fr.rf, fun _ _ _ _ _ _ => rfl, fr.rf⟩ ?_
  rintro i ⟨u1, u2, U⟩ V ⟨hi, rfl, ⟨p', hp1, hp2, hU, hV⟩, e11, f1, f2, f3⟩
  dsimp only at *
  have hpt : p' ≤ t := hV.2.2.2.2.2
  have hk := tk_5 b t p'
  unfold s_X9_parseGuest_42 s_X11_readServices_9
  by_cases e : i = 150
  · have etk : tk b t p' = 0 := by
      have h2 := te_b (b := b) hpt
      by_cases z : tk b t p' = 0
      · exact z
      · have := h2.2.2.1 z; omega
    have n2 : ¬ V.1 0 59 7 = 2 := by
      rw [hV.2.2.1]
      intro q
      have := (srf_1 hk).2.2.2.mp q
      omega
    rw [e, if_pos (by decide), if_neg n2]
    exact Or.inl ⟨_, _, rfl, rfl, ⟨p', hp1, hU, hV⟩, e11, f1, f2, f3⟩
  · have p1 : ¬ (150 : Int32) ≤ nI i := show ¬ nI 150 ≤ nI i from by rw [nI_leI (by omega) (by omega)]; omega
    have isn := C_isn hU (lim := 8) (by omega)
    have isn' : x_X9_isNumber U 8 = some (b2i (isN b t p' 8)) := isn
    rw [if_neg p1, bindS isn']
    by_cases e2 : tk b t p' = 2
    · have hv := tv_b e2
      rw [hV.2.2.1, if_pos ((srf_1 hk).2.2.2.mpr e2), hV.2.2.2.1 e2]
      by_cases e3 : tv b t p' < 8
      · have hn : isN b t p' 8 = true := by simp [isN, e2, e3]
        have p8 : ¬ (8 : Int32) ≤ nI (tv b t p') := show ¬ nI 8 ≤ nI (tv b t p') from by rw [nI_leI (by omega) (by omega)]; omega
        rw [hn, if_neg (show ¬ b2i true = 0 by decide), if_neg p8]
        obtain ⟨U', a1, a2, a3⟩ := C_next hU
        obtain ⟨W', hW'⟩ : ∃ W', W' = gwr V 0 59 11 (V.1 0 59 11 ||| (1 <<< (nI (tv b t p') &&& 31))) := ⟨_, rfl⟩
        have hWt : tkB W' b t p' := by
          obtain ⟨m1, m2, m3, m4, m5, m6⟩ := hV
          refine ⟨by rw [hW', gwr_k _ _ _ _ (by decide)]; exact m1, by rw [hW', gwr_k _ _ _ _ (by decide)]; exact m2, by rw [hW', gwr_k _ _ _ _ (by decide)]; exact m3, fun q => by rw [hW', gwr_k _ _ _ _ (by decide)]; exact m4 q, m5.fr (by rw [hW']; exact fr.rf.wr ⟨rfl, rfl⟩) (by rw [hW', gwr_k _ _ _ _ (by decide)]), m6⟩
        obtain ⟨V', b1, b2, b3, b4⟩ := M_next hWt
        rw [← hW', bindS a1, bindS b1]
        have hnp := (np_b (b := b) hpt)
        have hnp3 := hnp.2.2 (by omega)
        refine Or.inr ⟨by omega, _, _, rfl, rfl, by omega, nI_1 i, ⟨np b t p', by omega, by omega, a2, b2⟩, ?_, f1.tr a3, fun j q1 q2 q3 q4 q5 => ?_, ?_⟩
        · show u1 ||| (1 <<< (U.1 0 36 5 &&& 31)) = V'.1 0 59 11
          rw [b3 11 (by decide) (by decide) (by decide) (by decide), hW', gwr_j, hU.2.2.2.1 e2, e11]
        · rw [b3 j q1 q2 q3 q4, hW', gwr_k _ _ _ _ q5]; exact f2 j q1 q2 q3 q4 q5
        · refine (f3.tr ?_).tr b4
          rw [hW']; exact fr.rf.wr ⟨rfl, rfl⟩
      · have hn : isN b t p' 8 = false := by simp [isN, e3]
        have p8 : (8 : Int32) ≤ nI (tv b t p') := show nI 8 ≤ nI (tv b t p') from by rw [nI_leI (by omega) (by omega)]; omega
        rw [hn, if_pos (show b2i false = 0 from rfl), if_pos p8]
        exact Or.inl ⟨_, _, rfl, rfl, ⟨p', hp1, hU, hV⟩, e11, f1, f2, f3⟩
    · have hn : isN b t p' 8 = false := by simp [isN, e2]
      rw [hn, if_pos (show b2i false = 0 from rfl), hV.2.2.1, if_neg (fun q => e2 ((srf_1 hk).2.2.2.mp q))]
      exact Or.inl ⟨_, _, rfl, rfl, ⟨p', hp1, hU, hV⟩, e11, f1, f2, f3⟩
end RD3
