section ST14
theorem st_from {M} (h : INV M) (a1 : Int32) : ∃ r1 r2, x_X10_from M a1 = some r1 ∧ x_X11_from r1.2 a1 = some r2 ∧ r1.1 = r2.1 ∧ INV r2.2 := by
  rcases below_e a1 2 1 2 (b := 1) (by decide) rfl rfl rfl rfl with ⟨i, hi, rfl, d1, d2⟩ | ⟨d1, d2⟩
  · have g1 : gin (nI i) 2 := gin_n hi (by omega)
    have e1 : (nI i).toNatClampNeg = i := nI_clamp (by omega)
    have hI : IMR M i := by
      have : i = 0 ∨ i = 1 := by omega
      rcases this with rfl | rfl
      · exact h.2.1.1
      · exact h.2.1.2
    rcases hI with ⟨z1, z2⟩ | ⟨z1, z2, H⟩
    · refine rfB h (x2 := fun N => x_X11_from N _) 1 (by decide) (-3) ?_ ?_
      · unfold x_X10_from; rw [d1]; simp only [gd_i g1, e1, z1]; rfl
      · show x_X11_from _ _ = _
        have z2' : (rbM M 1).1 0 70 i = 0 := by rw [gwr_o (by omega)]; exact z2
        unfold x_X11_from; rw [d2]; simp only [gd_i g1, e1, z2']; rfl
    · obtain ⟨A, a1, a2, a3⟩ := C_copy (M := M) (c := 0) (d := 2 + i) (by omega)
      have fA : fr PC M A := a3
      obtain ⟨B, b1, b2, b3, b4⟩ := cpl (M := A) (step := fun s => s_X11_from_31 (nI i) s.1 s.2) 71 60 (70 * i) 0 70 (by decide) (by decide) (fun k N hk => by
        dsimp only
        unfold s_X11_from_31
        have p1 : ¬ (70 : Int32) ≤ nI k := show ¬ nI 70 ≤ nI k from by rw [nI_leI (by omega) (by omega)]; omega
        rw [if_neg p1, ml70 hi, gd_i (gin_n (by omega) (by omega)), gd_i (gin_n (by omega) (by omega)), nI_clamp (by omega), nI_clamp (by omega), Nat.zero_add]) (fun N => rfl)
      obtain ⟨C, c1, c2, c3, c4⟩ := cpl (M := B) (step := fun s => s_X11_from_62 (nI i) s.1 s.2) 72 64 (128 * i) 0 128 (by decide) (by decide) (fun k N hk => by
        dsimp only
        unfold s_X11_from_62
        have p1 : ¬ (128 : Int32) ≤ nI k := show ¬ nI 128 ≤ nI k from by rw [nI_leI (by omega) (by omega)]; omega
        rw [if_neg p1, ml128 hi, gd_i (gin_n (by omega) (by omega)), gd_i (gin_n (by omega) (by omega)), nI_clamp (by omega), nI_clamp (by omega), Nat.zero_add]) (fun N => rfl)
      have A70 : A.1 0 70 i = 1 := by rw [a3.2 0 70 (by omega)]; exact z2
      have C73 : C.1 0 73 i = M.1 0 73 i := by rw [c4.2 0 73 (by omega), b4.2 0 73 (by omega), a3.2 0 73 (by omega)]
      have m71 : A.1 0 71 = M.1 0 71 := a3.2 0 71 (by omega)
      have m72 : B.1 0 72 = M.1 0 72 := by rw [b4.2 0 72 (by omega), a3.2 0 72 (by omega)]
      refine ⟨(1, A), (1, gwr C 0 59 14 (M.1 0 73 i)), ?_, ?_, rfl, ?_⟩
      · unfold x_X10_from; rw [d1]
        simp only [gd_i g1, e1, z1]
        show Option.bind (x_X1_copy M 0 (2 + i)) (fun v8 => some ((1 : Int32), v8)) = _
        exact (bindS a1).trans rfl
      · show x_X11_from A _ = _
        unfold x_X11_from; rw [d2]
        simp only [gd_i g1, e1, A70]
        show Option.bind (itr FU (fun s : Int32 × gMem => s_X11_from_31 (nI i) s.1 s.2) (0, A)) (fun e10 => Option.bind (itr FU (fun s : Int32 × gMem => s_X11_from_62 (nI i) s.1 s.2) (0, e10.2)) (fun e14 => some ((1 : Int32), gwr e14.2 0 59 14 (e14.2.1 0 73 i)))) = _
        refine (bindS b1).trans ((bindS c1).trans ?_)
        rw [C73]
      · show INV (gwr C 0 59 14 (M.1 0 73 i))
        refine h.two fA (((b4.mono (fun c o r => ⟨r.1, by omega⟩)).tr (c4.mono (fun c o r => ⟨r.1, by omega⟩))).wr ⟨rfl, by omega⟩) ?_ ?_
        · rw [gwr_k _ _ _ _ (by decide), c4.2 0 59 (by omega), b4.2 0 59 (by omega)]
        · show HRel (A.1 0) ((gwr C 0 59 14 (M.1 0 73 i)).1 0 60) ((gwr C 0 59 14 (M.1 0 73 i)).1 0 64) ((gwr C 0 59 14 (M.1 0 73 i)).1 0 59 14)
          rw [gwr_j, gwr_o (by omega), gwr_o (by omega)]
          refine (H.cpy a2).lim (fun k hk => ?_) (fun k hk => ?_)
          · have := b2 k hk
            rw [Nat.zero_add] at this
            rw [c4.2 0 60 (by omega), this, m71]
          · have := c2 k hk
            rw [Nat.zero_add] at this
            rw [this, m72]
  · refine rfB h (x2 := fun N => x_X11_from N _) 0 (by decide) (-2) ?_ ?_
    · unfold x_X10_from; rw [d1]; rfl
    · show x_X11_from _ _ = _
      unfold x_X11_from; rw [d2]; rfl
end ST14
