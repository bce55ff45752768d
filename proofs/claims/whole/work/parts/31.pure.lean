section ST7
variable {M : gMem}
/-! the ahead rows: remember and noteStep -/
theorem cpy7 (f g : Nat → Int32) {k : Nat} (hk : k < 7) : va_cpy f g 0 0 7 k = f k := by
  unfold va_cpy
  simp
  omega
theorem C_cr (M : gMem) (c o0 o1 : Nat) : ∃ A, x_X1_copyRow M c o0 c o1 = some A ∧ (∀ g, g < 7 → A.1 c o1 g = M.1 c o0 g) ∧ fr (fun c' o => c' = c ∧ o = o1) M A :=
  ⟨_, rfl, fun g hg => by rw [gup_at, cpy7 _ _ hg], fr.rf.up ⟨rfl, rfl⟩⟩
theorem C_rem {c sl u : Nat} (hs : sl < 8) (h11 : M.1 c 0 11 = nI sl) (hu : u ≤ 8) (h12 : M.1 c 0 12 = nI u) : ∃ N, x_X1_remember M c = some N ∧ N.1 c 0 = upd (upd (M.1 c 0) 11 (nI ((sl + 1) % 8))) 12 (nI (if u = 8 then 8 else u + 1)) ∧ (∀ g, g < 7 → N.1 c (15 + sl) g = M.1 c 4 g) ∧ (∀ g, g < 7 → N.1 c (24 + sl) g = M.1 c 5 g) ∧ N.1 c 32 = upd (M.1 c 32) sl (M.1 c 0 15) ∧ N.1 c 33 = upd (M.1 c 33) sl (M.1 c 0 14) ∧ fr (fun c' o => c' = c ∧ (o = 0 ∨ o = 15 + sl ∨ o = 24 + sl ∨ o = 32 ∨ o = 33)) M N := by
  have g1 : gin (nI sl) 8 := gin_n (by omega) (by omega)
  have c1 : (nI sl).toNatClampNeg = sl := nI_clamp (by omega)
  obtain ⟨A, hA, A1, A2⟩ := C_cr M c 4 (15 + sl)
  obtain ⟨B, hB, B1, B2⟩ := C_cr A c 5 (24 + sl)
  have A0 : A.1 c 0 = M.1 c 0 := A2.2 c 0 (by omega)
  have B0 : B.1 c 0 = M.1 c 0 := (B2.2 c 0 (by omega)).trans A0
  obtain ⟨D, hD⟩ : ∃ D, D = gwr B c 32 sl (M.1 c 0 15) := ⟨_, rfl⟩
  have D0 : D.1 c 0 = M.1 c 0 := by rw [hD, gwr_o (by omega), B0]
  obtain ⟨E, hE⟩ : ∃ E, E = gwr D c 33 sl (M.1 c 0 14) := ⟨_, rfl⟩
  have E0 : E.1 c 0 = M.1 c 0 := by rw [hE, gwr_o (by omega), D0]
  have hmod : nI (sl + 1) - nI (sl + 1) / 8 * 8 = nI ((sl + 1) % 8) := by
    have : ∀ s, s < 8 → nI (s + 1) - nI (s + 1) / 8 * 8 = nI ((s + 1) % 8) := by decide +kernel
    exact this sl hs
  obtain ⟨F, hF⟩ : ∃ F, F = gwr E c 0 11 (nI ((sl + 1) % 8)) := ⟨_, rfl⟩
  have F12 : F.1 c 0 12 = nI u := by rw [hF, gwr_k _ _ _ _ (by decide), E0]; exact h12
  have hmin : (if (8 : Int32) < nI u + 1 then 8 else nI u + 1) = nI (if u = 8 then 8 else u + 1) := by
    have : ∀ u, u < 9 → (if (8 : Int32) < nI u + 1 then 8 else nI u + 1) = nI (if u = 8 then 8 else u + 1) := by decide +kernel
    exact this u (by omega)
  have A11 : A.1 c 0 11 = nI sl := by rw [A0]; exact h11
  have B11 : B.1 c 0 11 = nI sl := by rw [B0]; exact h11
  have B15 : B.1 c 0 15 = M.1 c 0 15 := by rw [B0]
  have D11 : D.1 c 0 11 = nI sl := by rw [D0]; exact h11
  have D14 : D.1 c 0 14 = M.1 c 0 14 := by rw [D0]
  have E11 : E.1 c 0 11 = nI sl := by rw [E0]; exact h11
  have hx : x_X1_remember M c = some (gwr F c 0 12 (nI (if u = 8 then 8 else u + 1))) := by
    unfold x_X1_remember
    rw [h11, gd_i g1, c1]
    refine (bindS hA).trans ?_
    rw [A11, gd_i g1, c1]
    refine (bindS hB).trans ?_
    rw [B11, gd_i g1, c1, B15, ← hD, D11, gd_i g1, c1, D14, ← hE, E11, nI_1, hmod, ← hF, F12, hmin]
  refine ⟨_, hx, ?_, fun g hg => ?_, fun g hg => ?_, ?_, ?_, ?_⟩
  · rw [gwr_s, hF, gwr_s, E0]
  · rw [gwr_o (by omega), hF, gwr_o (by omega), hE, gwr_o (by omega), hD, gwr_o (by omega), B2.2 c _ (by omega), A1 g hg]
  · rw [gwr_o (by omega), hF, gwr_o (by omega), hE, gwr_o (by omega), hD, gwr_o (by omega), B1 g hg, A2.2 c _ (by omega)]
  · rw [gwr_o (by omega), hF, gwr_o (by omega), hE, gwr_o (by omega), hD, gwr_s, B2.2 c _ (by omega), A2.2 c _ (by omega)]
  · rw [gwr_o (by omega), hF, gwr_o (by omega), hE, gwr_s, hD, gwr_o (by omega), B2.2 c _ (by omega), A2.2 c _ (by omega)]
  · rw [hF, hE, hD]
    exact (((((A2.mono (fun c' o r => ⟨r.1, by omega⟩)).tr (B2.mono (fun c' o r => ⟨r.1, by omega⟩))).wr ⟨rfl, by omega⟩).wr ⟨rfl, by omega⟩).wr ⟨rfl, by omega⟩).wr ⟨rfl, by omega⟩
theorem M_ns {u : Nat} (hu : u ≤ 8) (h14 : M.1 0 59 14 = nI u) : ∃ N, x_X11_noteStep M = some N ∧ N.1 0 59 = upd (M.1 0 59) 14 (nI (if u = 8 then 8 else u + 1)) ∧ (∀ k j, j < 16 → k < (if u = 8 then 7 else u) → N.1 0 64 (16 * k + j) = M.1 0 64 (16 * (if u = 8 then k + 1 else k) + j)) ∧ (∀ j, j < 16 → N.1 0 64 (16 * (if u = 8 then 7 else u) + j) = M.1 0 60 j) ∧ fr (fun c' o => c' = 0 ∧ (o = 59 ∨ o = 64)) M N := by
  -- the copy of st to place v
  have put : ∀ (K : gMem) (v : Nat), v < 8 → K.1 0 59 14 = nI v → ∃ N, j_X11_noteStep_48 M K = some N ∧ N.1 0 59 = upd (K.1 0 59) 14 (nI (v + 1)) ∧ (∀ j, j < 16 → N.1 0 64 (16 * v + j) = K.1 0 60 j) ∧ (∀ x, x < 16 * v → N.1 0 64 x = K.1 0 64 x) ∧ fr (fun c' o => c' = 0 ∧ (o = 59 ∨ o = 64)) K N := by
    intro K v hv hK
    obtain ⟨e, he, q1, q2, q3, q4⟩ := itr_inv (step := fun s => s_X11_noteStep_50 s.1 s.2) (s := (0, K)) (fun i s => i ≤ 16 ∧ s.1 = nI i ∧ (∀ j, j < i → s.2.1 0 64 (16 * v + j) = K.1 0 60 j) ∧ (∀ x, x < 16 * v → s.2.1 0 64 x = K.1 0 64 x) ∧ fr (fun c' o => c' = 0 ∧ o = 64) K s.2) (fun r => (∀ j, j < 16 → r.2.1 0 64 (16 * v + j) = K.1 0 60 j) ∧ (∀ x, x < 16 * v → r.2.1 0 64 x = K.1 0 64 x) ∧ fr (fun c' o => c' = 0 ∧ o = 64) K r.2 ∧ r.2.1 0 59 = K.1 0 59) 16 (by omega) ⟨by omega, rfl, fun j hj => absurd hj (Nat.not_lt_zero j), fun _ _ => rfl, fr.rf⟩ (by
      rintro i ⟨b1, N⟩ ⟨hi, rfl, i1, i2, i3⟩
      dsimp only at *
      unfold s_X11_noteStep_50
      have n59 : N.1 0 59 = K.1 0 59 := i3.2 0 59 (by omega)
      have n60 : N.1 0 60 = K.1 0 60 := i3.2 0 60 (by omega)
      by_cases e : i = 16
      · subst e
        exact Or.inl ⟨(nI 16, N), rfl, i1, i2, i3, n59⟩
      · have p1 : ¬ (16 : Int32) ≤ nI i := show ¬ nI 16 ≤ nI i from by rw [nI_leI (by omega) (by omega)]; omega
        have a1 : (16 : Int32) * nI v = nI (16 * v) := by
          have : ∀ v, v < 8 → (16 : Int32) * nI v = nI (16 * v) := by decide +kernel
          exact this v hv
        have ga : gin (nI i) 70 := gin_n (by omega) (by omega)
        have gb : gin (nI (16 * v + i)) 128 := gin_n (by omega) (by omega)
        have ca : (nI i).toNatClampNeg = i := nI_clamp (by omega)
        have cb : (nI (16 * v + i)).toNatClampNeg = 16 * v + i := nI_clamp (by omega)
        rw [if_neg p1, n59, hK, a1, nI_add, gd_i ga, gd_i gb, ca, cb, n60]
        refine Or.inr ⟨by omega, _, rfl, by omega, nI_1 i, fun j hj => ?_, fun x hx => ?_, i3.wr ⟨rfl, rfl⟩⟩
        · dsimp only
          by_cases ej : j = i
          · subst ej; rw [gwr_j]
          · rw [gwr_k _ _ _ _ (by omega)]; exact i1 j (by omega)
        · dsimp only
          rw [gwr_k _ _ _ _ (by omega)]; exact i2 x hx)
    have hb : j_X11_noteStep_48 M K = some (gwr e.2 0 59 14 (e.2.1 0 59 14 + 1)) := (bindS he).trans rfl
    refine ⟨_, hb, ?_, fun j hj => ?_, fun x hx => ?_, (q3.mono (fun c o r => ⟨r.1, Or.inr r.2⟩)).wr ⟨rfl, Or.inl rfl⟩⟩
    · rw [gwr_s, q4, hK, nI_1]
    · rw [gwr_o (by omega)]; exact q1 j hj
    · rw [gwr_o (by omega)]; exact q2 x hx
  unfold x_X11_noteStep
  by_cases e8 : u = 8
  · subst e8
    obtain ⟨e, he, q1, q2⟩ := itr_inv (step := fun s => s_X11_noteStep_11 s.1 s.2) (s := (0, M)) (fun i s => i ≤ 112 ∧ s.1 = nI i ∧ (∀ x, x < i → s.2.1 0 64 x = M.1 0 64 (x + 16)) ∧ (∀ x, i ≤ x → s.2.1 0 64 x = M.1 0 64 x) ∧ fr (fun c' o => c' = 0 ∧ o = 64) M s.2) (fun r => (∀ x, x < 112 → r.2.1 0 64 x = M.1 0 64 (x + 16)) ∧ fr (fun c' o => c' = 0 ∧ o = 64) M r.2) 112 (by omega) ⟨by omega, rfl, fun j hj => absurd hj (Nat.not_lt_zero j), fun _ _ => rfl, fr.rf⟩ (by
      rintro i ⟨b1, N⟩ ⟨hi, rfl, i1, i2, i3⟩
      dsimp only at *
      unfold s_X11_noteStep_11
      by_cases e : i = 112
      · subst e
        exact Or.inl ⟨(nI 112, N), rfl, i1, i3⟩
      · have p1 : ¬ (112 : Int32) ≤ nI i := show ¬ nI 112 ≤ nI i from by rw [nI_leI (by omega) (by omega)]; omega
        have a1 : nI i + 16 = nI (i + 16) := nI_add i 16
        rw [if_neg p1, a1, gd_i (gin_n (by omega) (by omega)), gd_i (gin_n (by omega) (by omega)), nI_clamp (by omega), nI_clamp (by omega)]
        refine Or.inr ⟨by omega, _, rfl, by omega, nI_1 i, fun x hx => ?_, fun x hx => ?_, i3.wr ⟨rfl, rfl⟩⟩
        · dsimp only
          by_cases ej : x = i
          · subst ej; rw [gwr_j]; exact i2 _ (by omega)
          · rw [gwr_k _ _ _ _ (by omega)]; exact i1 x (by omega)
        · dsimp only
          rw [gwr_k _ _ _ _ (by omega)]; exact i2 x (by omega))
    have e59 : e.2.1 0 59 = M.1 0 59 := q2.2 0 59 (by omega)
    have k14 : (gwr e.2 0 59 14 (e.2.1 0 59 14 - 1)).1 0 59 14 = nI 7 := by rw [gwr_j, e59, h14]; rfl
    obtain ⟨N, n1, n2, n3, n4, n5⟩ := put (gwr e.2 0 59 14 (e.2.1 0 59 14 - 1)) 7 (by omega) k14
    have p8 : nI 8 = (8 : Int32) := rfl
    rw [h14, if_pos p8]
    refine ⟨N, (bindS he).trans n1, ?_, fun k j hj hk => ?_, fun j hj => ?_, ?_⟩
    · rw [n2, gwr_s, e59]
      funext x
      by_cases ex : x = 14
      · subst ex; rw [pk_us, pk_us]; rfl
      · rw [pk_un ex, pk_un ex, pk_un ex]
    · rw [if_pos rfl] at hk ⊢
      rw [n4 _ (by omega), gwr_o (by omega), q1 _ (by omega)]
      exact congrArg _ (by omega)
    · rw [if_pos rfl, n3 j hj, gwr_o (by omega), q2.2 0 60 (by omega)]
    · exact ((q2.mono (fun c o r => ⟨r.1, Or.inr r.2⟩)).wr ⟨rfl, Or.inl rfl⟩).tr n5
  · obtain ⟨N, n1, n2, n3, n4, n5⟩ := put M u (by omega) h14
    have p1 : ¬ nI u = 8 := show ¬ nI u = nI 8 from nI_ne (by omega) (by omega) e8
    rw [h14, if_neg p1]
    refine ⟨N, n1, ?_, fun k j hj hk => ?_, fun j hj => ?_, n5⟩
    · rw [n2, if_neg e8]
    · rw [if_neg e8] at hk ⊢
      exact n4 _ (by omega)
    · rw [if_neg e8]; exact n3 j hj
end ST7
