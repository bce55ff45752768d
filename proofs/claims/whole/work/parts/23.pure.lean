section PQ
variable {M : gMem} {n : Nat} {T : Nat → Nat → Int32}
theorem HM.wr1 (h : HM M n T) (hn : n ≤ 7) {j : Nat} {v : Int32} (hj : j < 2 ∨ 38 ≤ j) : HM (gwr M 0 60 j v) n T := by
  refine ⟨by rw [gwr_k _ _ _ _ (by omega)]; exact h.1, fun g hg => ?_⟩
  rw [gwr_k _ _ _ _ (by omega), gwr_k _ _ _ _ (by omega), gwr_k _ _ _ _ (by omega), gwr_k _ _ _ _ (by omega), gwr_k _ _ _ _ (by omega)]
  exact h.2 g hg
theorem HM.tip (h : HM M n T) (hn : n ≤ 7) {i : Nat} {v : Int32} (hi : i < n) : HM (gwr M 0 60 (9 + i) v) n (TT T (upd (T 5) i v)) := by
  refine ⟨by rw [gwr_k _ _ _ _ (by omega)]; exact h.1, fun g hg => ?_⟩
  rw [gwr_k _ _ _ _ (by omega), gwr_k _ _ _ _ (by omega), gwr_k _ _ _ _ (by omega), gwr_k _ _ _ _ (by omega)]
  have h5 := h.2 g hg
  refine ⟨h5.1, h5.2.1, h5.2.2.1, h5.2.2.2.1, ?_⟩
  show _ = upd (T 5) i v g
  by_cases e : g = i
  · subst e
    rw [gwr_j, pk_us]
  · rw [gwr_k _ _ _ _ (by omega), pk_un e]
    exact h5.2.2.2.2
theorem M_pass (h : HM M n T) (hW : WFT n T) : ∃ M', x_X11_oneHour M = some M' ∧ HM M' n (TT T (tpS n T n)) ∧ M'.1 0 60 0 = M.1 0 60 0 + 1 ∧ M'.1 0 60 1 = mdS n T (M.1 0 60 0) (M.1 0 60 1) n ∧ (∀ k, 17 ≤ k → M'.1 0 60 k = M.1 0 60 k) ∧ fr (fun c' o' => c' = 0 ∧ o' = 60) M M' := by
  have hn := hW.1
  obtain ⟨e1, h1, hc1, hm1, hf1, hk1⟩ := itr_inv (step := fun s => s_X11_oneHour_2 s.1 s.2) (s := (0, M)) (fun i s => i ≤ n ∧ s.1 = nI i ∧ HM s.2 n T ∧ s.2.1 0 60 1 = mdS n T (M.1 0 60 0) (M.1 0 60 1) i ∧ fr (fun c' o' => c' = 0 ∧ o' = 60) M s.2 ∧ ∀ j, j ≠ 1 → s.2.1 0 60 j = M.1 0 60 j) (fun r => HM r.2 n T ∧ r.2.1 0 60 1 = mdS n T (M.1 0 60 0) (M.1 0 60 1) n ∧ fr (fun c' o' => c' = 0 ∧ o' = 60) M r.2 ∧ ∀ j, j ≠ 1 → r.2.1 0 60 j = M.1 0 60 j) n (by omega) ⟨Nat.zero_le _, rfl, h, rfl, fr.rf, fun _ _ => rfl⟩ (by
    rintro i ⟨b1, N⟩ ⟨hi, rfl, hc, hm, hf, hk⟩
    dsimp only at *
    unfold s_X11_oneHour_2
    by_cases e : i = n
    · subst e
      rw [hc.1, if_pos (by rw [nI_leI (by omega) (by omega)]; omega)]
      exact Or.inl ⟨_, rfl, hc, hm, hf, hk⟩
    · have hin : i < n := by omega
      rw [hc.1, if_neg (by rw [nI_leI (by omega) (by omega)]; omega), M_srv hc hW hin]
      refine Or.inr ⟨hin, ?_⟩
      show ∃ s', Option.bind (x_X11_contentOf N (nI i) (srvI n T i)) _ = _ ∧ _
      rw [M_co hc hW hin]
      refine ⟨_, rfl, by omega, nI_1 i, hc.wr1 hn (Or.inl (by decide)), ?_, hf.wr ⟨rfl, rfl⟩, fun j hj => ?_⟩
      · show (gwr N 0 60 1 (N.1 0 60 1 + coT n T (N.1 0 60 0) i)).1 0 60 1 = _
        rw [gwr_j, hm, hk 0 (by decide)]
        rfl
      · show (gwr N 0 60 1 (N.1 0 60 1 + coT n T (N.1 0 60 0) i)).1 0 60 j = _
        rw [gwr_k _ _ _ _ hj]
        exact hk j hj)
  obtain ⟨e2, h2, hc2, hf2, hk2⟩ := itr_inv (step := fun s => s_X11_oneHour_40 s.1 s.2) (s := (0, e1.2)) (fun i s => i ≤ n ∧ s.1 = nI i ∧ HM s.2 n (TT T (tpS n T i)) ∧ fr (fun c' o' => c' = 0 ∧ o' = 60) e1.2 s.2 ∧ ∀ j, (j < 9 ∨ 16 ≤ j) → s.2.1 0 60 j = e1.2.1 0 60 j) (fun r => HM r.2 n (TT T (tpS n T n)) ∧ fr (fun c' o' => c' = 0 ∧ o' = 60) e1.2 r.2 ∧ ∀ j, (j < 9 ∨ 16 ≤ j) → r.2.1 0 60 j = e1.2.1 0 60 j) n (by omega) ⟨Nat.zero_le _, rfl, hc1, fr.rf, fun _ _ => rfl⟩ (by
    rintro i ⟨b1, N⟩ ⟨hi, rfl, hc, hf, hk⟩
    dsimp only at *
    unfold s_X11_oneHour_40 j_X11_oneHour_40_99
    by_cases e : i = n
    · subst e
      rw [hc.1, if_pos (by rw [nI_leI (by omega) (by omega)]; omega)]
      exact Or.inl ⟨_, rfl, hc, hf, hk⟩
    · have hin : i < n := by omega
      have hti : N.1 0 60 (9 + i) = tpS n T i i := (hc.2 i hin).2.2.2.2
      rw [hc.1, if_neg (by rw [nI_leI (by omega) (by omega)]; omega), M_srv hc (TT_WFT hW) hin, TT_srvI]
      refine Or.inr ⟨hin, ?_⟩
      unfold srvI
      by_cases hs : srv n T i < n
      · rw [if_pos hs]
        show ∃ s', (if nI (srv n T i) < 0 then some (Sum.inl (nI i + 1, N)) else _) = _ ∧ _
        have a1 : (9 : Int32) + nI i = nI (9 + i) := nI_add 9 i
        have a2 : (9 : Int32) + nI (srv n T i) = nI (9 + srv n T i) := nI_add 9 _
        have g1 : gin (nI (9 + i)) 70 := gin_n (by omega) (by omega)
        have g2 : gin (nI (9 + srv n T i)) 70 := gin_n (by omega) (by omega)
        have c1 : (nI (9 + i)).toNatClampNeg = 9 + i := nI_clamp (by omega)
        have c2 : (nI (9 + srv n T i)).toNatClampNeg = 9 + srv n T i := nI_clamp (by omega)
        rw [if_neg (nI_pos (by omega))]
        simp only [a1, a2, gd_i g1, gd_i g2, c1, c2, hti]
        by_cases ht : tpS n T i i ≤ 0
        · rw [if_pos ht]
          refine ⟨_, rfl, by omega, nI_1 i, ?_, hf, hk⟩
          show HM N n (TT T (tp1 n T i (tpS n T i)))
          unfold tp1
          rw [if_pos hs, if_pos ht]
          exact hc
        · rw [if_neg ht]
          have hcc := hc.tip hn (v := tpS n T i i - 1) hin
          rw [TT_TT] at hcc
          have hcd := hcc.tip hn (v := (gwr N 0 60 (9 + i) (tpS n T i i - 1)).1 0 60 (9 + srv n T i) + 1) hs
          rw [TT_TT] at hcd
          refine ⟨_, rfl, by omega, nI_1 i, ?_, (hf.wr ⟨rfl, rfl⟩).wr ⟨rfl, rfl⟩, fun j hj => ?_⟩
          · show HM (gwr (gwr N 0 60 (9 + i) (tpS n T i i - 1)) 0 60 (9 + srv n T i) ((gwr N 0 60 (9 + i) (tpS n T i i - 1)).1 0 60 (9 + srv n T i) + 1)) n (TT T (tp1 n T i (tpS n T i)))
            have e5 : (gwr N 0 60 (9 + i) (tpS n T i i - 1)).1 0 60 (9 + srv n T i) = upd (tpS n T i) i (tpS n T i i - 1) (srv n T i) := (hcc.2 _ hs).2.2.2.2
            unfold tp1
            rw [if_pos hs, if_neg ht, ← e5]
            exact hcd
          · show (gwr (gwr N 0 60 (9 + i) (tpS n T i i - 1)) 0 60 (9 + srv n T i) _).1 0 60 j = _
            rw [gwr_k _ _ _ _ (by omega), gwr_k _ _ _ _ (by omega)]
            exact hk j hj
      · rw [if_neg hs]
        refine ⟨(nI i + 1, N), rfl, by omega, nI_1 i, ?_, hf, hk⟩
        show HM N n (TT T (tp1 n T i (tpS n T i)))
        unfold tp1
        rw [if_neg hs]
        exact hc)
  refine ⟨_, (bindS h1).trans ((bindS h2).trans rfl), hc2.wr1 hn (Or.inl (by decide)), ?_, ?_, fun k hk => ?_, ?_⟩
  · rw [gwr_j, hk2 0 (by omega), hk1 0 (by decide)]
  · rw [gwr_k _ _ _ _ (by decide), hk2 1 (by omega), hm1]
  · rw [gwr_k _ _ _ _ (by omega), hk2 k (by omega), hk1 k (by omega)]
  · exact (hf1.tr hf2).wr ⟨rfl, rfl⟩
end PQ
/-! the whole relation of a house and the reference's rows -/
def PASTR (h : Nat → Nat → Int32) (a : Nat → Int32) (n x k : Nat) : Prop := a (16 * k) = h 33 x ∧ a (16 * k + 1) = h 32 x ∧ ∀ g, g < n → a (16 * k + (2 + g)) = h (15 + x) g ∧ a (16 * k + (9 + g)) = h (24 + x) g ∧ (h (15 + x) g = -1 ∨ ∃ d, d < n ∧ d ≠ g ∧ h (15 + x) g = nI d)
def hrA (h : Nat → Nat → Int32) (f : Nat → Int32) (n : Nat) (T : Nat → Nat → Int32) : Prop := WFT n T ∧ (h 0 13 = nI n ∧ ∀ g, g < n → h 1 g = T 1 g ∧ h 2 g = T 2 g ∧ h 3 g = T 3 g ∧ h 4 g = T 4 g ∧ h 5 g = T 5 g) ∧ (f 16 = nI n ∧ ∀ g, g < n → f (17 + g) = T 1 g ∧ f (24 + g) = T 2 g ∧ f (31 + g) = T 3 g ∧ f (2 + g) = T 4 g ∧ f (9 + g) = T 5 g) ∧ h 0 14 = f 0 ∧ h 0 15 = f 1
def hrN (h : Nat → Nat → Int32) (f : Nat → Int32) (m : Nat) : Prop := m ≤ 6 ∧ h 6 1 = nI m ∧ f 38 = nI m ∧ ∀ i, i < m → ∀ j, j < 5 → h (8 + i) j = f (39 + (5 * i + j))
def hrU (h : Nat → Nat → Int32) (a : Nat → Int32) (um : Int32) (n u sl : Nat) : Prop := u ≤ 8 ∧ sl < 8 ∧ h 0 12 = nI u ∧ um = nI u ∧ h 0 11 = nI sl ∧ ∀ k, k < u → PASTR h a n ((sl + 8 - u + k) % 8) k
def HRel (h : Nat → Nat → Int32) (f a : Nat → Int32) (um : Int32) : Prop := ∃ n T m u sl, hrA h f n T ∧ hrN h f m ∧ hrU h a um n u sl
theorem PASTR.congr {h h' : Nat → Nat → Int32} {a a' : Nat → Int32} {n x k : Nat} (H : PASTR h a n x k) (hx : x < 8) (h1 : ∀ o, 15 ≤ o → o < 34 → h' o = h o) (h2 : ∀ j, j < 16 → a' (16 * k + j) = a (16 * k + j)) (hn : n ≤ 7) : PASTR h' a' n x k := by
  obtain ⟨p1, p2, p3⟩ := H
  refine ⟨by rw [h1 33 (by omega) (by omega)]; exact (h2 0 (by omega)).trans p1, by rw [h1 32 (by omega) (by omega)]; exact (h2 1 (by omega)).trans p2, fun g hg => ?_⟩
  rw [h1 (15 + x) (by omega) (by omega), h1 (24 + x) (by omega) (by omega), h2 (2 + g) (by omega), h2 (9 + g) (by omega)]
  exact p3 g hg
theorem hrN.congr {h h' : Nat → Nat → Int32} {f f' : Nat → Int32} {m : Nat} (H : hrN h f m) (h1 : ∀ o, 6 ≤ o → o < 14 → h' o = h o) (h2 : ∀ j, 38 ≤ j → f' j = f j) : hrN h' f' m := by
  obtain ⟨p1, p2, p3, p4⟩ := H
  refine ⟨p1, by rw [h1 6 (by omega) (by omega)]; exact p2, by rw [h2 38 (by omega)]; exact p3, fun i hi j hj => ?_⟩
  rw [h1 (8 + i) (by omega) (by omega), h2 _ (by omega)]
  exact p4 i hi j hj
theorem hrU.congr {h h' : Nat → Nat → Int32} {a a' : Nat → Int32} {um um' : Int32} {n u sl : Nat} (H : hrU h a um n u sl) (hn : n ≤ 7) (h1 : ∀ o, 15 ≤ o → o < 34 → h' o = h o) (h11 : h' 0 11 = h 0 11) (h12 : h' 0 12 = h 0 12) (h2 : ∀ j, a' j = a j) (h3 : um' = um) : hrU h' a' um' n u sl := by
  obtain ⟨p1, p2, p3, p4, p5, p6⟩ := H
  exact ⟨p1, p2, by rw [h12]; exact p3, by rw [h3]; exact p4, by rw [h11]; exact p5, fun k hk => (p6 k hk).congr (Nat.mod_lt _ (by omega)) h1 (fun j _ => h2 _) hn⟩
theorem HRel.congr {h h' : Nat → Nat → Int32} {f f' a a' : Nat → Int32} {um um' : Int32} (H : HRel h f a um) (h1 : ∀ o, o < 34 → h' o = h o) (h2 : f' = f) (h3 : a' = a) (h4 : um' = um) : HRel h' f' a' um' := by
  obtain ⟨n, T, m, u, sl, ⟨w, A, B, C, D⟩, N, U⟩ := H
  subst h2; subst h3; subst h4
  refine ⟨n, T, m, u, sl, ⟨w, ⟨by rw [h1 0 (by omega)]; exact A.1, fun g hg => ?_⟩, B, by rw [h1 0 (by omega)]; exact C, by rw [h1 0 (by omega)]; exact D⟩, N.congr (fun o _ h => h1 o (by omega)) (fun _ _ => rfl), U.congr w.1 (fun o _ h => h1 o h) (by rw [h1 0 (by omega)]) (by rw [h1 0 (by omega)]) (fun _ => rfl) rfl⟩
  rw [h1 1 (by omega), h1 2 (by omega), h1 3 (by omega), h1 4 (by omega), h1 5 (by omega)]
  exact A.2 g hg
