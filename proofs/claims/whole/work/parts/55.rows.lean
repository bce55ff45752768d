/-! takeIn -/
section RW7
theorem INV.gen {M N : gMem} (h : INV M) (f : fr (fun c o => (c = 1 ∧ o < 34) ∨ HP c o) M N) (h5 : N.1 0 59 5 = M.1 0 59 5) (hs : ∃ sl, sl < 8 ∧ N.1 1 0 11 = nI sl) (hh : HRel (N.1 0) (N.1 0 60) (N.1 0 64) (N.1 0 59 14)) : INV N := by
  obtain ⟨_, ⟨i0, i1⟩, t, r, l, s⟩ := h
  have k : ∀ c o, ¬ ((c = 1 ∧ o < 34) ∨ HP c o) → N.1 c o = M.1 c o := f.2
  refine ⟨hh, ⟨i0.congr (fun o _ => k _ _ ?_) (k _ _ ?_) (k _ _ ?_) (k _ _ ?_) (k _ _ ?_) (k _ _ ?_), i1.congr (fun o _ => k _ _ ?_) (k _ _ ?_) (k _ _ ?_) (k _ _ ?_) (k _ _ ?_) (k _ _ ?_)⟩, t.congr (k _ _ ?_) h5 (k _ _ ?_) (k _ _ ?_), ?_, ?_, hs⟩
  all_goals try (unfold HP; omega)
  · unfold RFR; rw [k 0 50 (by unfold HP; omega), k 0 61 (by unfold HP; omega)]; exact r
  · unfold LNR; rw [f.1]; exact l
theorem HRel.row {h : Nat → Nat → Int32} {f f' a : Nat → Int32} {um : Int32} {n : Nat} (H : HRel h f a um) (h13 : h 0 13 = nI n) (hn : n < 7) (hf : ∀ k, k ≠ 24 + n → k ≠ 31 + n → f' k = f k) : HRel h f' a um := by
  obtain ⟨n', T, m, u, sl, ⟨hW, hC, hM, hh, hd⟩, ⟨m6, m1, m2, m3⟩, hU⟩ := H
  have hn' := hW.1
  have e : n' = n := (nI_eq (by omega) (by omega)).mp (hC.1.symm.trans h13)
  subst e
  refine ⟨n', T, m, u, sl, ⟨hW, hC, ⟨by rw [hf _ (by omega) (by omega)]; exact hM.1, fun g hg => ?_⟩, by rw [hf _ (by omega) (by omega)]; exact hh, by rw [hf _ (by omega) (by omega)]; exact hd⟩, ⟨m6, m1, by rw [hf _ (by omega) (by omega)]; exact m2, fun i hi j hj => by rw [hf _ (by omega) (by omega)]; exact m3 i hi j hj⟩, hU⟩
  rw [hf _ (by omega) (by omega), hf _ (by omega) (by omega), hf _ (by omega) (by omega), hf _ (by omega) (by omega), hf _ (by omega) (by omega)]; exact hM.2 g hg
def Tw (T : Nat → Nat → Int32) (n : Nat) (p : Int32) (w : Nat) : Nat → Nat → Int32 := fun o => if o = 2 then upd (T 2) n (nI w) else if o = 3 then upd (T 3) n p else T o
abbrev tkP (T : Nat → Nat → Int32) (n : Nat) (p : Int32) (w : Nat) : Bool := clo (n + 1) (Tw T n p w) 127
theorem C_tki {B : gMem} {n : Nat} {T : Nat → Nat → Int32} (p : Int32) (hn : n < 7) (h13 : B.1 1 0 13 = nI (n + 1)) (h2 : ∀ g, g < n → B.1 1 2 g = T 2 g) (h3 : ∀ g, g < n + 1 → B.1 1 3 g = upd (T 3) n p g) : ∃ N, itr FU (fun s => s_X10_takeIn_61 (nI n) s.1 s.2.1 s.2.2) (0, 0, B) = some (wS (tkP T n p) 8, nI 8, N) ∧ fr (fun c o => (c = 1 ∧ o = 2) ∨ (c = 0 ∧ 38 ≤ o ∧ o < 50)) B N := by
  obtain ⟨⟨z1, z2, N⟩, hr, q1, q2, q3⟩ := itr_inv (step := fun s => s_X10_takeIn_61 (nI n) s.1 s.2.1 s.2.2) (s := (0, 0, B)) (fun i s => i ≤ 8 ∧ ∃ N, s = (wS (tkP T n p) i, nI i, N) ∧ fr (fun c o => (c = 1 ∧ o = 2) ∨ (c = 0 ∧ 38 ≤ o ∧ o < 50)) B N ∧ ∀ g, g ≠ n → N.1 1 2 g = B.1 1 2 g) (fun s => s.1 = wS (tkP T n p) 8 ∧ s.2.1 = nI 8 ∧ fr (fun c o => (c = 1 ∧ o = 2) ∨ (c = 0 ∧ 38 ≤ o ∧ o < 50)) B s.2.2) 8 (by omega) ⟨by omega, B, rfl, fr.rf, fun _ _ => rfl⟩ (by
    rintro i s ⟨hi, N, rfl, hf, hg⟩
    dsimp only at *
    unfold s_X10_takeIn_61 j_X10_takeIn_61_99
    by_cases e : i = 8
    · subst e
      rw [if_pos (by decide)]
      exact Or.inl ⟨_, rfl, rfl, rfl, hf⟩
    · have p1 : ¬ (8 : Int32) ≤ nI i := show ¬ nI 8 ≤ nI i from by rw [nI_leI (by omega) (by omega)]; omega
      rw [if_neg p1, gd_i (gin_n (by omega) (by omega)), nI_clamp (by omega), nI_1]
      have hK : HCw (gwr N 1 2 n (nI i)) 1 (n + 1) (Tw T n p i) := by
        refine ⟨by rw [gwr_o (by omega), hf.2 1 0 (by omega)]; exact h13, fun g hgn => ⟨?_, ?_⟩⟩
        · show _ = upd (T 2) n (nI i) g
          by_cases eg : g = n
          · subst eg; rw [gwr_j, pk_us]
          · rw [gwr_k _ _ _ _ eg, pk_un eg, hg g eg]; exact h2 g (by omega)
        · show _ = upd (T 3) n p g
          rw [gwr_o (by omega), hf.2 1 3 (by omega)]; exact h3 g hgn
      obtain ⟨N', n1, n2⟩ := C_clo hK (by omega) (a := 127) (by omega)
      have n1' : x_X10_closes (gwr N 1 2 n (nI i)) 1 127 = some (b2i (tkP T n p i), N') := n1
      refine Or.inr ⟨by omega, (wS (tkP T n p) (i + 1), nI (i + 1), N'), ?_, by omega, N', rfl, (hf.wr (Or.inl ⟨rfl, rfl⟩)).tr (n2.mono (fun c o q => Or.inr q)), fun g eg => ?_⟩
      · rw [bindS n1']
        show _ = some (Sum.inl ((if tkP T n p i = true then wS (tkP T n p) i ||| (1 <<< (nI i &&& 31)) else wS (tkP T n p) i), nI (i + 1), N'))
        cases tkP T n p i
        · rw [if_pos (b2i_0.mpr rfl), if_neg (by decide)]
        · rw [if_neg (show ¬ b2i true = 0 by decide), if_pos rfl]
      · rw [n2.2 1 2 (by omega), gwr_k _ _ _ _ eg]; exact hg g eg)
  dsimp only at *
  subst q1; subst q2
  exact ⟨N, hr, q3⟩
theorem M_tki {B : gMem} {n : Nat} {T : Nat → Nat → Int32} (p : Int32) (hn : n < 7) (h13 : B.1 0 60 16 = nI (n + 1)) (h2 : ∀ g, g < n → B.1 0 60 (24 + g) = T 2 g) (h3 : ∀ g, g < n + 1 → B.1 0 60 (31 + g) = upd (T 3) n p g) : ∃ N, itr FU (fun s => s_X11_takeIn_68 (nI n) s.1 s.2.1 s.2.2) (0, 0, B) = some (wS (tkP T n p) 8, nI 8, N) ∧ (∀ j, j ≠ 24 + n → N.1 0 60 j = B.1 0 60 j) ∧ (∀ j, j ≠ 16 → N.1 0 59 j = B.1 0 59 j) ∧ fr (fun c o => c = 0 ∧ (o = 59 ∨ o = 60 ∨ o = 65 ∨ o = 66)) B N := by
  obtain ⟨⟨z1, z2, N⟩, hr, q1, q2, q3, q4, q5⟩ := itr_inv (step := fun s => s_X11_takeIn_68 (nI n) s.1 s.2.1 s.2.2) (s := (0, 0, B)) (fun i s => i ≤ 8 ∧ ∃ N, s = (wS (tkP T n p) i, nI i, N) ∧ (∀ j, j ≠ 24 + n → N.1 0 60 j = B.1 0 60 j) ∧ (∀ j, j ≠ 16 → N.1 0 59 j = B.1 0 59 j) ∧ fr (fun c o => c = 0 ∧ (o = 59 ∨ o = 60 ∨ o = 65 ∨ o = 66)) B N) (fun s => s.1 = wS (tkP T n p) 8 ∧ s.2.1 = nI 8 ∧ (∀ j, j ≠ 24 + n → s.2.2.1 0 60 j = B.1 0 60 j) ∧ (∀ j, j ≠ 16 → s.2.2.1 0 59 j = B.1 0 59 j) ∧ fr (fun c o => c = 0 ∧ (o = 59 ∨ o = 60 ∨ o = 65 ∨ o = 66)) B s.2.2) 8 (by omega) ⟨by omega, B, rfl, fun _ _ => rfl, fun _ _ => rfl, fr.rf⟩ (by
    rintro i s ⟨hi, N, rfl, hg, h59, hf⟩
    dsimp only at *
    unfold s_X11_takeIn_68 j_X11_takeIn_68_106
    by_cases e : i = 8
    · subst e
      rw [if_pos (by decide)]
      exact Or.inl ⟨_, rfl, rfl, rfl, hg, h59, hf⟩
    · have p1 : ¬ (8 : Int32) ≤ nI i := show ¬ nI 8 ≤ nI i from by rw [nI_leI (by omega) (by omega)]; omega
      rw [if_neg p1, show (24 : Int32) + nI n = nI (24 + n) from nI_add 24 n, gd_i (gin_n (by omega) (by omega)), nI_clamp (by omega), nI_1]
      have hK : HMw (gwr N 0 60 (24 + n) (nI i)) (n + 1) (Tw T n p i) := by
        refine ⟨by rw [gwr_k _ _ _ _ (by omega), hg _ (by omega)]; exact h13, fun g hgn => ⟨?_, ?_⟩⟩
        · show _ = upd (T 2) n (nI i) g
          by_cases eg : g = n
          · subst eg; rw [gwr_j, pk_us]
          · rw [gwr_k _ _ _ _ (by omega), pk_un eg, hg _ (by omega)]; exact h2 g (by omega)
        · show _ = upd (T 3) n p g
          rw [gwr_k _ _ _ _ (by omega), hg _ (by omega)]; exact h3 g hgn
      have hp : 0 < 2 ^ (n + 1) := Nat.two_pow_pos _
      obtain ⟨N', n1, n2, n3⟩ := M_clo2 hK (by omega) (a := 2 ^ (n + 1) - 1) (by omega)
      rw [clo_127 (by omega)] at n1
      have ev : x_X11_everybody (gwr N 0 60 (24 + n) (nI i)) = some (nI (2 ^ (n + 1) - 1)) := by unfold x_X11_everybody; rw [hK.1, (bf_full (n + 1) (by omega)).2.2.1]
      refine Or.inr ⟨by omega, (wS (tkP T n p) (i + 1), nI (i + 1), N'), ?_, by omega, N', rfl, fun j hj => ?_, fun j hj => ?_, (hf.wr ⟨rfl, by omega⟩).tr (n3.mono (fun c o q => ⟨q.1, by omega⟩))⟩
      · rw [bindS ev, bindS n1]
        show _ = some (Sum.inl ((if tkP T n p i = true then wS (tkP T n p) i ||| (1 <<< (nI i &&& 31)) else wS (tkP T n p) i), nI (i + 1), N'))
        show (if b2i (tkP T n p i) = 0 then _ else _) = _
        cases tkP T n p i
        · rw [if_pos (b2i_0.mpr rfl), if_neg (by decide), Int32.or_zero]
        · rw [if_neg (show ¬ b2i true = 0 by decide), if_pos rfl]
      · rw [n3.2 0 60 (by omega), gwr_k _ _ _ _ hj]; exact hg j hj
      · rw [n2 j hj, gwr_o (by omega)]; exact h59 j hj)
  dsimp only at *
  subst q1; subst q2
  exact ⟨N, hr, q3, q4, q5⟩
theorem st_takeIn {M} (h : INV M) (a1 : Int32) : ∃ r1 r2, x_X10_takeIn M a1 = some r1 ∧ x_X11_takeIn r1.2 a1 = some r2 ∧ r1.1 = r2.1 ∧ INV r2.2 := by
  obtain ⟨⟨n, T, m, u, sl, ⟨hW, hC, hM, hh, hd⟩, hN, hU⟩, _⟩ := id h
  have hn := hW.1
  have hC1 : M.1 0 0 13 = nI n := hC.1
  have hM1 : M.1 0 60 16 = nI n := hM.1
  have one0 : ¬ (1 : Int32) = 0 := by decide
  rcases below_e a1 256 255 256 (b := 255) (by decide) rfl rfl rfl rfl with ⟨k, hk, hak, d1, d2⟩ | ⟨d1, d2⟩
  · by_cases e7 : n = 7
    · subst e7
      refine rfB h (x2 := fun N => x_X11_takeIn N _) 1 (by decide) (-3) ?_ ?_
      · unfold x_X10_takeIn
        refine (bindS d1).trans ?_
        rw [if_neg one0, hC1, if_neg (by decide)]
        rfl
      · show x_X11_takeIn _ _ = _
        unfold x_X11_takeIn
        refine (bindS d2).trans ?_
        rw [if_neg one0, rb60, hM1, if_pos (by decide)]
        rfl
    · have hn7 : n < 7 := by omega
      obtain ⟨A, x1, ⟨y0, y1, _, _, _⟩, x3⟩ := C_copy (M := M) (c := 1) (d := 0) (by decide)
      have hCA : HC A 1 n T := by
        refine ⟨by rw [y0 13 (by omega) (by omega)]; exact hC1, fun i hi => ?_⟩
        rw [y1 1 i (by omega) (by omega), y1 2 i (by omega) (by omega), y1 3 i (by omega) (by omega), y1 4 i (by omega) (by omega), y1 5 i (by omega) (by omega)]
        exact hC.2 i hi
      obtain ⟨B, b1, b2, b3, b4⟩ := C_adm hCA hn7 0 0 a1
      obtain ⟨C, c1, c2⟩ := C_tki (B := B) (n := n) (T := T) a1 hn7 b2.1 (fun g hg => by
        rw [(b2.2 g (by omega)).2.1]
        show upd (T 2) n _ g = _
        rw [pk_un (by omega)]) (fun g hg => (b2.2 g hg).2.2.1)
      have f0 : fr (fun c o => (c = 1 ∧ o < 34) ∨ (c = 0 ∧ 38 ≤ o ∧ o < 50)) M C := ((x3.mono (fun c o q => Or.inl q)).tr (b4.mono (fun c o q => Or.inl ⟨q.1, by omega⟩))).tr (c2.mono (fun c o q => by omega))
      have C60 : C.1 0 60 = M.1 0 60 := f0.2 0 60 (by omega)
      have C16 : C.1 0 60 16 = nI n := by rw [C60]; exact hM1
      obtain ⟨D, hD⟩ : ∃ D, D = gwr (gwr C 0 60 (31 + n) a1) 0 60 16 (nI (n + 1)) := ⟨_, rfl⟩
      have D60 : ∀ j, j ≠ 16 → j ≠ 31 + n → D.1 0 60 j = M.1 0 60 j := fun j h1 h2 => by rw [hD, gwr_k _ _ _ _ h1, gwr_k _ _ _ _ h2, C60]
      have Do : ∀ c o, ¬ (c = 0 ∧ o = 60) → D.1 c o = C.1 c o := fun c o q => by rw [hD, gwr_o q, gwr_o q]
      obtain ⟨E, e1, e2, e3, e4⟩ := M_tki (B := D) (n := n) (T := T) a1 hn7 (by rw [hD, gwr_j]) (fun g hg => by
        rw [D60 _ (by omega) (by omega)]
        exact (hM.2 g hg).2.1) (fun g hg => by
        by_cases eg : g = n
        · subst eg; rw [hD, gwr_k _ _ _ _ (by omega), gwr_j, pk_us]
        · rw [D60 _ (by omega) (by omega), pk_un eg]; exact (hM.2 g (by omega)).2.2.1)
      obtain ⟨F, hF⟩ : ∃ F, F = gwr (gwr (gwr E 0 60 (31 + n) 0) 0 60 (24 + n) 0) 0 60 16 (nI n) := ⟨_, rfl⟩
      have Fo : ∀ c o, ¬ (c = 0 ∧ o = 60) → F.1 c o = E.1 c o := fun c o q => by rw [hF, gwr_o q, gwr_o q, gwr_o q]
      refine ⟨(wS (tkP T n a1) 8, C), (wS (tkP T n a1) 8, F), ?_, ?_, rfl, ?_⟩
      · unfold x_X10_takeIn
        refine (bindS d1).trans ?_
        have p7 : nI n < 7 := show nI n < nI 7 from by rw [nI_ltI (by omega) (by omega)]; omega
        rw [if_neg one0, hC1, if_pos p7]
        exact (bindS x1).trans ((bindS b1).trans ((bindS c1).trans rfl))
      · show x_X11_takeIn C _ = _
        unfold x_X11_takeIn
        refine (bindS d2).trans ?_
        have p7 : ¬ nI n = 7 := show ¬ nI n = nI 7 from nI_ne (by omega) (by omega) e7
        have v16 : (gwr C 0 60 (31 + n) a1).1 0 60 16 = nI n := by rw [gwr_k _ _ _ _ (by omega)]; exact C16
        have g31 : gin (nI (31 + n)) 70 := gin_n (by omega) (by omega)
        have g24 : gin (nI (24 + n)) 70 := gin_n (by omega) (by omega)
        have c31 : (nI (31 + n)).toNatClampNeg = 31 + n := nI_clamp (by omega)
        have c24 : (nI (24 + n)).toNatClampNeg = 24 + n := nI_clamp (by omega)
        rw [if_neg one0, C16, if_neg p7, show (31 : Int32) + nI n = nI (31 + n) from nI_add 31 n, show (24 : Int32) + nI n = nI (24 + n) from nI_add 24 n]
        simp only [gd_i g31, gd_i g24, c31, c24, v16, nI_1]
        rw [← hD]
        exact (bindS e1).trans (by rw [hF])
      · show INV F
        have fF : fr (fun c o => (c = 1 ∧ o < 34) ∨ HP c o) M F := by
          refine ⟨?_, fun c o hp => ?_⟩
          · rw [hF]; show E.2 = M.2; rw [e4.1, hD]; exact f0.1
          · unfold HP at hp
            rw [Fo c o (by omega), e4.2 c o (by omega), Do c o (by omega), f0.2 c o (by omega)]
        have F0 : ∀ o, o < 34 → F.1 0 o = M.1 0 o := fun o ho => by rw [Fo 0 o (by omega), e4.2 0 o (by omega), Do 0 o (by omega), f0.2 0 o (by omega)]
        have F59 : ∀ j, j ≠ 16 → F.1 0 59 j = M.1 0 59 j := fun j hj => by rw [Fo 0 59 (by omega), e3 j hj, Do 0 59 (by omega), f0.2 0 59 (by omega)]
        have F64 : F.1 0 64 = M.1 0 64 := by rw [Fo 0 64 (by omega), e4.2 0 64 (by omega), Do 0 64 (by omega), f0.2 0 64 (by omega)]
        refine h.gen fF (F59 5 (by decide)) ⟨sl, hU.2.1, ?_⟩ ?_
        · rw [Fo 1 0 (by omega), e4.2 1 0 (by omega), Do 1 0 (by omega), c2.2 1 0 (by omega), b3, pk_un (by decide), pk_un (by decide), y0 11 (by omega) (by omega)]
          exact hU.2.2.2.2.1
        · have H2 : HRel (M.1 0) (F.1 0 60) (M.1 0 64) (M.1 0 59 14) := h.1.row hC1 hn7 (fun j h1 h2 => by
            by_cases ej : j = 16
            · rw [ej, hF, gwr_j]; exact hM1.symm
            · rw [hF, gwr_k _ _ _ _ ej, gwr_k _ _ _ _ h1, gwr_k _ _ _ _ h2, e2 j h1]; exact D60 j ej h2)
          exact H2.congr F0 rfl F64 (F59 14 (by decide))
  · refine rfB h (x2 := fun N => x_X11_takeIn N _) 0 (by decide) (-2) ?_ ?_
    · unfold x_X10_takeIn; rw [d1]; rfl
    · show x_X11_takeIn _ _ = _
      unfold x_X11_takeIn; rw [d2]; rfl
end RW7
