section ST13
theorem HRel.lim {h : Nat → Nat → Int32} {f f' a a' : Nat → Int32} {um : Int32} (H : HRel h f a um) (hf : ∀ k, k < 70 → f' k = f k) (ha : ∀ k, k < 128 → a' k = a k) : HRel h f' a' um := by
  obtain ⟨n, T, m, u, sl, ⟨hW, hC, hM, hh, hd⟩, ⟨m6, m1, m2, m3⟩, ⟨hu, hsl, u1, u2, u3, hP⟩⟩ := H
  have hn := hW.1
  refine ⟨n, T, m, u, sl, ⟨hW, hC, ⟨by rw [hf _ (by omega)]; exact hM.1, fun g hg => ?_⟩, by rw [hf _ (by omega)]; exact hh, by rw [hf _ (by omega)]; exact hd⟩, ⟨m6, m1, by rw [hf _ (by omega)]; exact m2, fun i hi j hj => by rw [hf _ (by omega)]; exact m3 i hi j hj⟩, ⟨hu, hsl, u1, u2, u3, fun k hk => ?_⟩⟩
  · rw [hf _ (by omega), hf _ (by omega), hf _ (by omega), hf _ (by omega), hf _ (by omega)]; exact hM.2 g hg
  · obtain ⟨p1, p2, p3⟩ := hP k hk
    refine ⟨by rw [ha _ (by omega)]; exact p1, by rw [ha _ (by omega)]; exact p2, fun g hg => ?_⟩
    rw [ha _ (by omega), ha _ (by omega)]
    exact p3 g hg
/-- a loop that copies n cells of the row os, from bs on, to the row od, from bd on -/
theorem cpl {M : gMem} {step : Int32 × gMem → Option ((Int32 × gMem) ⊕ (Int32 × gMem))} (os od bs bd n : Nat) (hne : os ≠ od) (hn : n ≤ 128) (h1 : ∀ i N, i < n → step (nI i, N) = some (.inl (nI i + 1, gwr N 0 od (bd + i) (N.1 0 os (bs + i))))) (h2 : ∀ N, step (nI n, N) = some (.inr (nI n, N))) : ∃ N, itr FU step (0, M) = some (nI n, N) ∧ (∀ i, i < n → N.1 0 od (bd + i) = M.1 0 os (bs + i)) ∧ (∀ x, (x < bd ∨ bd + n ≤ x) → N.1 0 od x = M.1 0 od x) ∧ fr (fun c o => c = 0 ∧ o = od) M N := by
  obtain ⟨r, hr, q0, q1, q2, q3⟩ := itr_inv (step := step) (s := (0, M)) (fun i s => i ≤ n ∧ s.1 = nI i ∧ (∀ k, k < i → s.2.1 0 od (bd + k) = M.1 0 os (bs + k)) ∧ (∀ x, (x < bd ∨ bd + n ≤ x) → s.2.1 0 od x = M.1 0 od x) ∧ fr (fun c o => c = 0 ∧ o = od) M s.2) (fun r => r.1 = nI n ∧ (∀ k, k < n → r.2.1 0 od (bd + k) = M.1 0 os (bs + k)) ∧ (∀ x, (x < bd ∨ bd + n ≤ x) → r.2.1 0 od x = M.1 0 od x) ∧ fr (fun c o => c = 0 ∧ o = od) M r.2) n (by omega) ⟨by omega, rfl, fun k hk => absurd hk (Nat.not_lt_zero k), fun _ _ => rfl, fr.rf⟩ (by
    rintro i ⟨b1, N⟩ ⟨hi, rfl, i1, i2, i3⟩
    dsimp only at *
    by_cases e : i = n
    · subst e
      exact Or.inl ⟨_, h2 N, rfl, i1, i2, i3⟩
    · refine Or.inr ⟨by omega, _, h1 i N (by omega), by omega, nI_1 i, fun k hk => ?_, fun x hx => ?_, i3.wr ⟨rfl, rfl⟩⟩
      · dsimp only
        by_cases ek : k = i
        · subst ek; rw [gwr_j, i3.2 0 os (by omega)]
        · rw [gwr_k _ _ _ _ (by omega)]; exact i1 k (by omega)
      · dsimp only
        rw [gwr_k _ _ _ _ (by omega)]; exact i2 x hx)
  obtain ⟨r1, N⟩ := r
  dsimp only at *
  subst q0
  exact ⟨N, hr, q1, q2, q3⟩
theorem IMR.lim {M N : gMem} {i : Nat} (h : IMR M i) (h1 : ∀ o, o < 34 → N.1 (2 + i) o = M.1 (2 + i) o) (h2 : N.1 0 35 i = M.1 0 35 i) (h3 : N.1 0 70 i = M.1 0 70 i) (h4 : ∀ k, k < 70 → N.1 0 71 (70 * i + k) = M.1 0 71 (70 * i + k)) (h5 : ∀ k, k < 128 → N.1 0 72 (128 * i + k) = M.1 0 72 (128 * i + k)) (h6 : N.1 0 73 i = M.1 0 73 i) : IMR N i := by
  unfold IMR
  rw [h2, h3, h6]
  rcases h with h | ⟨a, b, c⟩
  · exact Or.inl h
  · exact Or.inr ⟨a, b, (c.congr h1 rfl rfl rfl).lim h4 h5⟩
theorem ml70 {i k : Nat} (hi : i < 2) : (70 : Int32) * nI i + nI k = nI (70 * i + k) := by
  have : ∀ v, v < 2 → (70 : Int32) * nI v = nI (70 * v) := by decide +kernel
  rw [this i hi, nI_add]
theorem ml128 {i k : Nat} (hi : i < 2) : (128 : Int32) * nI i + nI k = nI (128 * i + k) := by
  have : ∀ v, v < 2 → (128 : Int32) * nI v = nI (128 * v) := by decide +kernel
  rw [this i hi, nI_add]
theorem st_image {M} (h : INV M) (a1 : Int32) : ∃ r1 r2, x_X10_image M a1 = some r1 ∧ x_X11_image r1.2 a1 = some r2 ∧ r1.1 = r2.1 ∧ INV r2.2 := by
  rcases below_e a1 2 1 2 (b := 1) (by decide) rfl rfl rfl rfl with ⟨i, hi, rfl, d1, d2⟩ | ⟨d1, d2⟩
  · have g1 : gin (nI i) 2 := gin_n hi (by omega)
    have e1 : (nI i).toNatClampNeg = i := nI_clamp (by omega)
    obtain ⟨A, a1, a2, a3⟩ := C_copy (M := M) (c := 2 + i) (d := 0) (by omega)
    obtain ⟨A2, hA2⟩ : ∃ A2, A2 = gwr A 0 35 i 1 := ⟨_, rfl⟩
    obtain ⟨B, b1, b2, b3, b4⟩ := cpl (M := A2) (step := fun s => s_X11_image_17 (nI i) s.1 s.2) 60 71 0 (70 * i) 70 (by decide) (by decide) (fun k N hk => by
      dsimp only
      unfold s_X11_image_17
      have p1 : ¬ (70 : Int32) ≤ nI k := show ¬ nI 70 ≤ nI k from by rw [nI_leI (by omega) (by omega)]; omega
      rw [if_neg p1, ml70 hi, gd_i (gin_n (by omega) (by omega)), gd_i (gin_n (by omega) (by omega)), nI_clamp (by omega), nI_clamp (by omega), Nat.zero_add]) (fun N => rfl)
    obtain ⟨C, c1, c2, c3, c4⟩ := cpl (M := B) (step := fun s => s_X11_image_48 (nI i) s.1 s.2) 64 72 0 (128 * i) 128 (by decide) (by decide) (fun k N hk => by
      dsimp only
      unfold s_X11_image_48
      have p1 : ¬ (128 : Int32) ≤ nI k := show ¬ nI 128 ≤ nI k from by rw [nI_leI (by omega) (by omega)]; omega
      rw [if_neg p1, ml128 hi, gd_i (gin_n (by omega) (by omega)), gd_i (gin_n (by omega) (by omega)), nI_clamp (by omega), nI_clamp (by omega), Nat.zero_add]) (fun N => rfl)
    have q : ∀ c o, ¬ (c = 0 ∧ (o = 35 ∨ o = 70 ∨ o = 71 ∨ o = 72 ∨ o = 73)) → (gwr (gwr C 0 73 i (C.1 0 59 14)) 0 70 i 1).1 c o = A.1 c o := fun c o r => by
      rw [gwr_o (by omega), gwr_o (by omega), c4.2 c o (by omega), b4.2 c o (by omega), hA2, gwr_o (by omega)]
    have q0 : ∀ o, ¬ (o = 35 ∨ o = 70 ∨ o = 71 ∨ o = 72 ∨ o = 73) → (gwr (gwr C 0 73 i (C.1 0 59 14)) 0 70 i 1).1 0 o = M.1 0 o := fun o r => by rw [q 0 o (by omega), a3.2 0 o (by omega)]
    have k35 : (gwr (gwr C 0 73 i (C.1 0 59 14)) 0 70 i 1).1 0 35 = upd (M.1 0 35) i 1 := by rw [gwr_o (by omega), gwr_o (by omega), c4.2 0 35 (by omega), b4.2 0 35 (by omega), hA2, gwr_s, a3.2 0 35 (by omega)]
    have k70 : (gwr (gwr C 0 73 i (C.1 0 59 14)) 0 70 i 1).1 0 70 = upd (M.1 0 70) i 1 := by rw [gwr_s, gwr_o (by omega), c4.2 0 70 (by omega), b4.2 0 70 (by omega), hA2, gwr_o (by omega), a3.2 0 70 (by omega)]
    have k73 : (gwr (gwr C 0 73 i (C.1 0 59 14)) 0 70 i 1).1 0 73 = upd (M.1 0 73) i (M.1 0 59 14) := by
      have t1 : C.1 0 59 14 = M.1 0 59 14 := by rw [c4.2 0 59 (by omega), b4.2 0 59 (by omega), hA2, gwr_o (by omega), a3.2 0 59 (by omega)]
      rw [gwr_o (by omega), gwr_s, t1, c4.2 0 73 (by omega), b4.2 0 73 (by omega), hA2, gwr_o (by omega), a3.2 0 73 (by omega)]
    have k71 : (gwr (gwr C 0 73 i (C.1 0 59 14)) 0 70 i 1).1 0 71 = B.1 0 71 := by rw [gwr_o (by omega), gwr_o (by omega), c4.2 0 71 (by omega)]
    have k72 : (gwr (gwr C 0 73 i (C.1 0 59 14)) 0 70 i 1).1 0 72 = C.1 0 72 := by rw [gwr_o (by omega), gwr_o (by omega)]
    have m60 : A2.1 0 60 = M.1 0 60 := by rw [hA2, gwr_o (by omega), a3.2 0 60 (by omega)]
    have m64 : B.1 0 64 = M.1 0 64 := by rw [b4.2 0 64 (by omega), hA2, gwr_o (by omega), a3.2 0 64 (by omega)]
    have m71 : A2.1 0 71 = M.1 0 71 := by rw [hA2, gwr_o (by omega), a3.2 0 71 (by omega)]
    have m72 : B.1 0 72 = M.1 0 72 := by rw [b4.2 0 72 (by omega), hA2, gwr_o (by omega), a3.2 0 72 (by omega)]
    refine ⟨(1, A2), (1, gwr (gwr C 0 73 i (C.1 0 59 14)) 0 70 i 1), ?_, ?_, rfl, ?_⟩
    · unfold x_X10_image; rw [d1]
      show gd (gin (nI i) 2) (Option.bind (x_X1_copy M (2 + (nI i).toNatClampNeg) 0) _) = _
      simp only [gd_i g1, e1]
      exact (bindS a1).trans (by rw [hA2])
    · show x_X11_image A2 _ = _
      unfold x_X11_image; rw [d2]
      refine (bindS b1).trans ((bindS c1).trans ?_)
      rw [gd_i g1, gd_i g1, e1]
    · obtain ⟨hh, ⟨i0, i1⟩, t, r, l, s⟩ := h
      have self : IMR (gwr (gwr C 0 73 i (C.1 0 59 14)) 0 70 i 1) i := by
        refine Or.inr ⟨by rw [k35, pk_us], by rw [k70, pk_us], ?_⟩
        rw [k73, pk_us]
        refine HRel.congr (h := A.1 (2 + i)) ((hh.cpy a2).lim (fun k hk => ?_) (fun k hk => ?_)) (fun o ho => q (2 + i) o (by omega)) rfl rfl rfl
        · show (gwr (gwr C 0 73 i (C.1 0 59 14)) 0 70 i 1).1 0 71 (70 * i + k) = _
          rw [k71, b2 k hk, m60, Nat.zero_add]
        · show (gwr (gwr C 0 73 i (C.1 0 59 14)) 0 70 i 1).1 0 72 (128 * i + k) = _
          rw [k72, c2 k hk, m64, Nat.zero_add]
      have other : ∀ j, j < 2 → j ≠ i → IMR M j → IMR (gwr (gwr C 0 73 i (C.1 0 59 14)) 0 70 i 1) j := by
        intro j hj hji hI
        refine hI.lim (fun o ho => ?_) ?_ ?_ (fun k hk => ?_) (fun k hk => ?_) ?_
        · rw [q (2 + j) o (by omega), a3.2 (2 + j) o (by omega)]
        · rw [k35, pk_un hji]
        · rw [k70, pk_un hji]
        · rw [k71, b3 _ (by omega), m71]
        · rw [k72, c3 _ (by omega), m72]
        · rw [k73, pk_un hji]
      refine ⟨hh.congr (fun o _ => q0 o (by omega)) (q0 60 (by omega)) (q0 64 (by omega)) (by rw [q0 59 (by omega)]), ⟨?_, ?_⟩, t.congr (q0 36 (by omega)) (by rw [q0 59 (by omega)]) (q0 37 (by omega)) (q0 62 (by omega)), ?_, ?_, ?_⟩
      · by_cases e : i = 0
        · subst e; exact self
        · exact other 0 (by omega) (by omega) i0
      · by_cases e : i = 1
        · subst e; exact self
        · exact other 1 (by omega) (by omega) i1
      · unfold RFR; rw [q0 50 (by omega), q0 61 (by omega)]; exact r
      · have e2 : (gwr (gwr C 0 73 i (C.1 0 59 14)) 0 70 i 1).2 = M.2 := by show C.2 = M.2; rw [c4.1, b4.1, hA2]; exact a3.1
        unfold LNR; rw [e2]; exact l
      · unfold SLR; rw [q 1 0 (by omega), a3.2 1 0 (by omega)]; exact s
  · refine rfB h (x2 := fun N => x_X11_image N _) 0 (by decide) (-2) ?_ ?_
    · unfold x_X10_image; rw [d1]; rfl
    · show x_X11_image _ _ = _
      unfold x_X11_image; rw [d2]; rfl
end ST13
