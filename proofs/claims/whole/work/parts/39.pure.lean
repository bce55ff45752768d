section ST15
abbrev P1 (c o : Nat) : Prop := c = 1 ∧ o < 34
abbrev P6 (c o : Nat) : Prop := c = 0 ∧ o = 60
def HT (n : Nat) (A B : gMem) : Prop := ∃ T, WFT n T ∧ HC A 1 n T ∧ HM B n T ∧ A.1 1 0 14 = B.1 0 60 0 ∧ A.1 1 0 15 = B.1 0 60 1
theorem HT.pass {n : Nat} {A B : gMem} (H : HT n A B) : ∃ A' B', x_X1_passHour A 1 = some A' ∧ x_X11_oneHour B = some B' ∧ HT n A' B' ∧ fr P1 A A' ∧ A'.1 1 0 11 = A.1 1 0 11 ∧ fr P6 B B' ∧ ∀ k, 17 ≤ k → B'.1 0 60 k = B.1 0 60 k := by
  obtain ⟨T, hW, hC, hM, hh, hd⟩ := H
  obtain ⟨A', a1, a2, a3, a4, a5, a5', a6⟩ := C_pass hC hW
  obtain ⟨B', b1, b2, b3, b4, b5, b6⟩ := M_pass hM hW
  exact ⟨A', B', a1, b1, ⟨_, TT_WFT hW, a2, b2, by rw [a3, b3, hh], by rw [a4, b4, hh, hd]⟩, a6.mono (fun c o r => ⟨r.1, by omega⟩), a5, b6, b5⟩
theorem TRUN {n : Nat} {A B : gMem} (H : HT n A B) (p : Int32) {k : Nat} (hk : k ≤ 60) : ∃ r1 r2, itr FU (fun s => s_X10_tips_40 p (nI k) s.1 s.2) (0, A) = some r1 ∧ itr FU (fun s => s_X11_tips_31 p (nI k) s.1 s.2) (0, B) = some r2 ∧ HT n r1.2 r2.2 ∧ fr P1 A r1.2 ∧ r1.2.1 1 0 11 = A.1 1 0 11 ∧ fr P6 B r2.2 ∧ ∀ k, 17 ≤ k → r2.2.1 0 60 k = B.1 0 60 k := by
  refine itr_rel (s1 := fun s : Int32 × gMem => s_X10_tips_40 p (nI k) s.1 s.2) (s2 := fun s : Int32 × gMem => s_X11_tips_31 p (nI k) s.1 s.2) (fun i (x : Int32 × gMem) (y : Int32 × gMem) => i ≤ k ∧ x.1 = nI i ∧ y.1 = nI i ∧ HT n x.2 y.2 ∧ fr P1 A x.2 ∧ x.2.1 1 0 11 = A.1 1 0 11 ∧ fr P6 B y.2 ∧ ∀ k, 17 ≤ k → y.2.1 0 60 k = B.1 0 60 k) (fun (r1 : Int32 × gMem) (r2 : Int32 × gMem) => HT n r1.2 r2.2 ∧ fr P1 A r1.2 ∧ r1.2.1 1 0 11 = A.1 1 0 11 ∧ fr P6 B r2.2 ∧ ∀ k, 17 ≤ k → r2.2.1 0 60 k = B.1 0 60 k) k (by omega) ⟨by omega, rfl, rfl, H, fr.rf, rfl, fr.rf, fun _ _ => rfl⟩ ?_
  rintro i ⟨x1, X⟩ ⟨y1, Y⟩ ⟨hi, rfl, rfl, h1, h2, h3, h4, h5⟩
  dsimp only at *
  unfold s_X10_tips_40 s_X11_tips_31
  by_cases e : i = k
  · subst e
    rw [if_pos (by rw [nI_leI (by omega) (by omega)]; omega), if_pos (by rw [nI_leI (by omega) (by omega)]; omega)]
    exact Or.inl ⟨_, _, rfl, rfl, h1, h2, h3, h4, h5⟩
  · rw [if_neg (by rw [nI_leI (by omega) (by omega)]; omega), if_neg (by rw [nI_leI (by omega) (by omega)]; omega)]
    obtain ⟨X1, Y1, q1, q2, q3, q4, q5, q6, q7⟩ := h1.pass
    rw [q1, q2]
    exact Or.inr ⟨by omega, _, _, rfl, rfl, by omega, nI_1 i, nI_1 i, q3, h2.tr q4, q5.trans h3, h4.tr q6, fun j hj => (q7 j hj).trans (h5 j hj)⟩
theorem INV.c1 {M A : gMem} (h : INV M) (f : fr P1 M A) (hs : ∃ sl, sl < 8 ∧ A.1 1 0 11 = nI sl) : INV A := by
  obtain ⟨hh, ⟨i0, i1⟩, t, r, l, s⟩ := h
  have q : ∀ c o, c ≠ 1 → A.1 c o = M.1 c o := fun c o hc => f.2 c o (by omega)
  have q0 : A.1 0 = M.1 0 := funext (fun o => q 0 o (by omega))
  refine ⟨by rw [q0]; exact hh, ⟨i0.congr (fun o _ => q _ _ (by omega)) (q _ _ (by omega)) (q _ _ (by omega)) (q _ _ (by omega)) (q _ _ (by omega)) (q _ _ (by omega)), i1.congr (fun o _ => q _ _ (by omega)) (q _ _ (by omega)) (q _ _ (by omega)) (q _ _ (by omega)) (q _ _ (by omega)) (q _ _ (by omega))⟩, t.congr (q _ _ (by omega)) (by rw [q0]) (q _ _ (by omega)) (q _ _ (by omega)), ?_, ?_, hs⟩
  · unfold RFR; rw [q0]; exact r
  · unfold LNR; rw [f.1]; exact l
theorem M_put (M : gMem) : ∃ N, x_X11_putAside M = some N ∧ (∀ i, i < 16 → N.1 0 69 i = M.1 0 60 i) ∧ fr (fun c o => c = 0 ∧ o = 69) M N := by
  obtain ⟨N, n1, n2, n3, n4⟩ := cpl (M := M) (step := fun s => s_X11_putAside_2 s.1 s.2) 60 69 0 0 16 (by decide) (by decide) (fun k N hk => by
    dsimp only
    unfold s_X11_putAside_2
    have p1 : ¬ (16 : Int32) ≤ nI k := show ¬ nI 16 ≤ nI k from by rw [nI_leI (by omega) (by omega)]; omega
    rw [if_neg p1, gd_i (gin_n (by omega) (by omega)), gd_i (gin_n (by omega) (by omega)), nI_clamp (by omega), Nat.zero_add]) (fun N => rfl)
  refine ⟨N, (bindS n1).trans rfl, fun i hi => ?_, n4⟩
  have := n2 i hi
  rw [Nat.zero_add] at this
  exact this
theorem M_tak (M : gMem) : ∃ N, x_X11_takeBack M = some N ∧ (∀ i, i < 16 → N.1 0 60 i = M.1 0 69 i) ∧ (∀ i, 16 ≤ i → N.1 0 60 i = M.1 0 60 i) ∧ fr P6 M N := by
  obtain ⟨N, n1, n2, n3, n4⟩ := cpl (M := M) (step := fun s => s_X11_takeBack_2 s.1 s.2) 69 60 0 0 16 (by decide) (by decide) (fun k N hk => by
    dsimp only
    unfold s_X11_takeBack_2
    have p1 : ¬ (16 : Int32) ≤ nI k := show ¬ nI 16 ≤ nI k from by rw [nI_leI (by omega) (by omega)]; omega
    rw [if_neg p1, gd_i (gin_n (by omega) (by omega)), gd_i (gin_n (by omega) (by omega)), nI_clamp (by omega), Nat.zero_add]) (fun N => rfl)
  refine ⟨N, (bindS n1).trans rfl, fun i hi => ?_, fun i hi => n3 i (by omega), n4⟩
  have := n2 i hi
  rw [Nat.zero_add] at this
  exact this
theorem st_tips {M} (h : INV M) (a1 a2 : Int32) : ∃ r1 r2, x_X10_tips M a1 a2 = some r1 ∧ x_X11_tips r1.2 a1 a2 = some r2 ∧ r1.1 = r2.1 ∧ INV r2.2 := by
  obtain ⟨⟨n, T, m, u, sl, ⟨hW, hC, hM, hh, hd⟩, hN, hU⟩, _⟩ := id h
  have hn := hW.1
  have hB : (rbM M 0).1 0 60 16 = nI n := by rw [rb60]; exact hM.1
  have hC1 : M.1 0 0 13 = nI n := hC.1
  have one0 : ¬ (1 : Int32) = 0 := by decide
  rcases guest_e a1 hn with ⟨g, hg, rfl, c1, c2⟩ | ⟨c1, c2⟩
  · rcases below_e a2 61 60 61 (b := 60) (by decide) rfl rfl rfl rfl with ⟨k, hk, rfl, d1, d2⟩ | ⟨d1, d2⟩
    · obtain ⟨A, x1, ⟨y0, y1, _, _, _⟩, x3⟩ := C_copy (M := M) (c := 1) (d := 0) (by decide)
      have hCA : HC A 1 n T := by
        refine ⟨by rw [y0 13 (by omega) (by omega)]; exact hC1, fun i hi => ?_⟩
        rw [y1 1 i (by omega) (by omega), y1 2 i (by omega) (by omega), y1 3 i (by omega) (by omega), y1 4 i (by omega) (by omega), y1 5 i (by omega) (by omega)]
        exact hC.2 i hi
      have H0 : ∀ B : gMem, B.1 0 60 = M.1 0 60 → HT n A B := fun B hB => ⟨T, hW, hCA, by unfold HM; rw [hB]; exact hM, by rw [y0 14 (by omega) (by omega), hB]; exact hh, by rw [y0 15 (by omega) (by omega), hB]; exact hd⟩
      obtain ⟨r1, _, e1, _, _, f1, s1, _, _⟩ := TRUN (H0 M rfl) (nI g) (k := k) (by omega)
      have fA : fr P1 M r1.2 := (show fr P1 M A from x3).tr f1
      have r60 : r1.2.1 0 60 = M.1 0 60 := fA.2 0 60 (by omega)
      obtain ⟨K, k1, k2, k3⟩ := M_put r1.2
      have K60 : K.1 0 60 = M.1 0 60 := by rw [k3.2 0 60 (by omega)]; exact r60
      obtain ⟨r1', r2, e1', e2, H, _, _, f2, f3⟩ := TRUN (H0 K K60) (nI g) (k := k) (by omega)
      rw [e1] at e1'
      have ee := Option.some.inj e1'
      subst ee
      obtain ⟨L, l1, l2, l3, l4⟩ := M_tak r2.2
      obtain ⟨T', hW', hC', hM', _, _⟩ := H
      have g1 : gin (nI g) 7 := gin_n (by omega) (by omega)
      have q1 : (nI g).toNatClampNeg = g := nI_clamp (by omega)
      have a9 : (9 : Int32) + nI g = nI (9 + g) := nI_add 9 g
      have g9 : gin (nI (9 + g)) 70 := gin_n (by omega) (by omega)
      have q9 : (nI (9 + g)).toNatClampNeg = 9 + g := nI_clamp (by omega)
      have L60 : L.1 0 60 = r1.2.1 0 60 := by
        funext j
        rw [r60]
        by_cases hj : j < 16
        · rw [l2 j hj, f2.2 0 69 (by omega), k2 j hj, r60]
        · rw [l3 j (by omega)]
          by_cases hj2 : j = 16
          · subst hj2; rw [hM'.1]; exact hM.1.symm
          · rw [f3 j (by omega), K60]
      refine ⟨(r1.2.1 1 5 g, r1.2), (r2.2.1 0 60 (9 + g), L), ?_, ?_, ?_, ?_⟩
      · unfold x_X10_tips
        refine (bindS (c1 M 0 hC1)).trans ?_
        rw [if_neg one0]
        refine (bindS d1).trans ?_
        rw [if_neg one0]
        refine (bindS x1).trans ((bindS e1).trans ?_)
        rw [gd_i g1, q1]
      · show x_X11_tips r1.2 _ _ = _
        unfold x_X11_tips
        refine (bindS (c2 r1.2 (by rw [r60]; exact hM.1))).trans ?_
        rw [if_neg one0]
        refine (bindS d2).trans ?_
        rw [if_neg one0]
        refine (bindS k1).trans ((bindS e2).trans ?_)
        rw [a9, gd_i g9, q9]
        exact (bindS l1).trans rfl
      · show r1.2.1 1 5 g = r2.2.1 0 60 (9 + g)
        rw [(hC'.2 g hg).2.2.2.2, (hM'.2 g hg).2.2.2.2]
      · show INV L
        have hI : INV r1.2 := h.c1 fA ⟨sl, hU.2.1, by rw [s1, y0 11 (by omega) (by omega)]; exact hU.2.2.2.2.1⟩
        have fL : fr (fun c o => c = 0 ∧ (o = 60 ∨ o = 69)) r1.2 L := ((k3.mono (fun c o r => ⟨r.1, by omega⟩)).tr (f2.mono (fun c o r => ⟨r.1, by omega⟩))).tr (l4.mono (fun c o r => ⟨r.1, by omega⟩))
        have fS : fr SP r1.2 L := ⟨fL.1, fun c o hp => by
          by_cases e : c = 0 ∧ o = 60
          · rw [e.1, e.2]; exact L60
          · exact fL.2 c o (fun q => hp ⟨q.1, by omega⟩)⟩
        exact hI.sc fS (by rw [fL.2 0 59 (by omega)]) (by rw [fL.2 0 59 (by omega)])
    · refine rfB h (x2 := fun N => x_X11_tips N _ _) 0 (by decide) (-2) ?_ ?_
      · unfold x_X10_tips; rw [c1 M 0 hC1, d1]; rfl
      · show x_X11_tips _ _ _ = _
        unfold x_X11_tips; rw [c2 _ hB, d2]; rfl
  · refine rfB h (x2 := fun N => x_X11_tips N _ _) 0 (by decide) (-2) ?_ ?_
    · unfold x_X10_tips; rw [c1 M 0 hC1]; rfl
    · show x_X11_tips _ _ _ = _
      unfold x_X11_tips; rw [c2 _ hB]; rfl
end ST15
