section ST12
def CPY (h' h : Nat → Nat → Int32) : Prop := (∀ j, 11 ≤ j → j < 16 → h' 0 j = h 0 j) ∧ (∀ o g, g < 7 → ((1 ≤ o ∧ o < 6) ∨ (15 ≤ o ∧ o < 23) ∨ (24 ≤ o ∧ o < 32)) → h' o g = h o g) ∧ h' 6 1 = h 6 1 ∧ (∀ i j, i < 6 → j < 5 → h' (8 + i) j = h (8 + i) j) ∧ ∀ x, x < 8 → h' 32 x = h 32 x ∧ h' 33 x = h 33 x
theorem HRel.cpy {h h' : Nat → Nat → Int32} {f a : Nat → Int32} {um : Int32} (H : HRel h f a um) (hc : CPY h' h) : HRel h' f a um := by
  obtain ⟨n, T, m, u, sl, ⟨hW, hC, hM, hh, hd⟩, ⟨m6, m1, m2, m3⟩, ⟨hu, hsl, u1, u2, u3, hP⟩⟩ := H
  obtain ⟨c0, c1, c6, c8, c3⟩ := hc
  have hn := hW.1
  refine ⟨n, T, m, u, sl, ⟨hW, ⟨by rw [c0 13 (by omega) (by omega)]; exact hC.1, fun g hg => ?_⟩, hM, by rw [c0 14 (by omega) (by omega)]; exact hh, by rw [c0 15 (by omega) (by omega)]; exact hd⟩, ⟨m6, by rw [c6]; exact m1, m2, fun i hi j hj => by rw [c8 i j (by omega) hj]; exact m3 i hi j hj⟩, ⟨hu, hsl, by rw [c0 12 (by omega) (by omega)]; exact u1, u2, by rw [c0 11 (by omega) (by omega)]; exact u3, fun k hk => ?_⟩⟩
  · rw [c1 1 g (by omega) (by omega), c1 2 g (by omega) (by omega), c1 3 g (by omega) (by omega), c1 4 g (by omega) (by omega), c1 5 g (by omega) (by omega)]; exact hC.2 g hg
  · obtain ⟨p1, p2, p3⟩ := hP k hk
    have hx : (sl + 8 - u + k) % 8 < 8 := Nat.mod_lt _ (by omega)
    refine ⟨by rw [(c3 _ hx).2]; exact p1, by rw [(c3 _ hx).1]; exact p2, fun g hg => ?_⟩
    rw [c1 (15 + (sl + 8 - u + k) % 8) g (by omega) (by omega), c1 (24 + (sl + 8 - u + k) % 8) g (by omega) (by omega)]
    exact p3 g hg
theorem C_crd (M : gMem) (d o0 c o1 : Nat) : ∃ A, x_X1_copyRow M d o0 c o1 = some A ∧ (∀ g, g < 7 → A.1 c o1 g = M.1 d o0 g) ∧ fr (fun c' o => c' = c ∧ o = o1) M A :=
  ⟨_, rfl, fun g hg => by rw [gup_at, cpy7 _ _ hg], fr.rf.up ⟨rfl, rfl⟩⟩
theorem cpyN (f g : Nat → Int32) {k n : Nat} (hk : k < n) : va_cpy f g 0 0 n k = f k := by
  unfold va_cpy
  simp
  omega
theorem C_ncp {M : gMem} {c d : Nat} (hcd : c ≠ d) : ∃ N, x_X3_copy M c d = some N ∧ N.1 c 6 1 = M.1 d 6 1 ∧ (∀ i j, i < 6 → j < 5 → N.1 c (8 + i) j = M.1 d (8 + i) j) ∧ fr (fun c' o => c' = c ∧ (o = 6 ∨ (8 ≤ o ∧ o < 14))) M N := by
  obtain ⟨K, hK⟩ : ∃ K, K = gwr M c 6 1 (M.1 d 6 1) := ⟨_, rfl⟩
  have fK : fr (fun c' o => c' = c ∧ (o = 6 ∨ (8 ≤ o ∧ o < 14))) M K := by rw [hK]; exact fr.rf.wr ⟨rfl, Or.inl rfl⟩
  have K6 : K.1 c 6 1 = M.1 d 6 1 := by rw [hK, gwr_j]
  obtain ⟨e, he, q1, q2, q3⟩ := itr_inv (step := fun s : Int32 × gMem => s_X3_copy_10 c d s.1 s.2) (s := (0, K)) (fun i s => i ≤ 6 ∧ s.1 = nI i ∧ (∀ k j, k < i → j < 5 → s.2.1 c (8 + k) j = M.1 d (8 + k) j) ∧ s.2.1 c 6 1 = M.1 d 6 1 ∧ fr (fun c' o => c' = c ∧ (o = 6 ∨ (8 ≤ o ∧ o < 14))) M s.2) (fun r => (∀ k j, k < 6 → j < 5 → r.2.1 c (8 + k) j = M.1 d (8 + k) j) ∧ r.2.1 c 6 1 = M.1 d 6 1 ∧ fr (fun c' o => c' = c ∧ (o = 6 ∨ (8 ≤ o ∧ o < 14))) M r.2) 6 (by omega) ⟨by omega, rfl, fun k j hk => absurd hk (Nat.not_lt_zero k), K6, fK⟩ (by
    rintro i ⟨b1, N⟩ ⟨hi, rfl, i1, i2, i3⟩
    dsimp only at *
    unfold s_X3_copy_10
    by_cases e : i = 6
    · subst e
      exact Or.inl ⟨(nI 6, N), rfl, i1, i2, i3⟩
    · have p1 : ¬ (6 : Int32) ≤ nI i := show ¬ nI 6 ≤ nI i from by rw [nI_leI (by omega) (by omega)]; omega
      have ga : gin (nI i) 6 := gin_n (by omega) (by omega)
      have ca : (nI i).toNatClampNeg = i := nI_clamp (by omega)
      rw [if_neg p1, gd_i ga, gd_i ga, ca]
      refine Or.inr ⟨by omega, _, rfl, by omega, nI_1 i, fun k j hk hj => ?_, ?_, i3.up ⟨rfl, by omega⟩⟩
      · dsimp only
        by_cases ek : k = i
        · subst ek; rw [gup_at, cpyN _ _ hj, i3.2 d _ (by omega)]
        · rw [gup_o (by omega)]; exact i1 k j (by omega) hj
      · dsimp only
        rw [gup_o (by omega)]; exact i2)
  refine ⟨e.2, ?_, q2, q1, q3⟩
  unfold x_X3_copy
  rw [← hK]
  exact (bindS he).trans rfl
theorem C_copy {M : gMem} {c d : Nat} (hcd : c ≠ d) : ∃ N, x_X1_copy M c d = some N ∧ CPY (N.1 c) (M.1 d) ∧ fr (fun c' o => c' = c ∧ o < 34) M N := by
  obtain ⟨D, hD⟩ : ∃ D, D = gwr (gwr (gwr M c 0 13 (M.1 d 0 13)) c 0 14 (M.1 d 0 14)) c 0 15 (M.1 d 0 15) := ⟨_, rfl⟩
  have D0 : D.1 c 0 = upd (upd (upd (M.1 c 0) 13 (M.1 d 0 13)) 14 (M.1 d 0 14)) 15 (M.1 d 0 15) := by rw [hD, gwr_s, gwr_s, gwr_s]
  have fD : fr (fun c' o => c' = c ∧ o < 34) M D := by rw [hD]; exact ((fr.rf.wr ⟨rfl, by omega⟩).wr ⟨rfl, by omega⟩).wr ⟨rfl, by omega⟩
  obtain ⟨E1, h1, x1, f1⟩ := C_crd D d 1 c 1
  obtain ⟨E2, h2, x2, f2⟩ := C_crd E1 d 2 c 2
  obtain ⟨E3, h3, x3, f3⟩ := C_crd E2 d 3 c 3
  obtain ⟨E4, h4, x4, f4⟩ := C_crd E3 d 4 c 4
  obtain ⟨E5, h5, x5, f5⟩ := C_crd E4 d 5 c 5
  obtain ⟨E6, h6, y1, y2, f6⟩ := C_ncp (M := E5) hcd
  have dD : ∀ o, D.1 d o = M.1 d o := fun o => fD.2 d o (by omega)
  have d1 : ∀ o, E1.1 d o = M.1 d o := fun o => (f1.2 d o (by omega)).trans (dD o)
  have d2 : ∀ o, E2.1 d o = M.1 d o := fun o => (f2.2 d o (by omega)).trans (d1 o)
  have d3 : ∀ o, E3.1 d o = M.1 d o := fun o => (f3.2 d o (by omega)).trans (d2 o)
  have d4 : ∀ o, E4.1 d o = M.1 d o := fun o => (f4.2 d o (by omega)).trans (d3 o)
  have d5 : ∀ o, E5.1 d o = M.1 d o := fun o => (f5.2 d o (by omega)).trans (d4 o)
  have d6 : ∀ o, E6.1 d o = M.1 d o := fun o => (f6.2 d o (by omega)).trans (d5 o)
  have z0 : E6.1 c 0 = D.1 c 0 := (f6.2 c 0 (by omega)).trans ((f5.2 c 0 (by omega)).trans ((f4.2 c 0 (by omega)).trans ((f3.2 c 0 (by omega)).trans ((f2.2 c 0 (by omega)).trans (f1.2 c 0 (by omega))))))
  have w1 : ∀ o g, g < 7 → 1 ≤ o → o < 6 → E6.1 c o g = M.1 d o g := by
    intro o g hg h1 h2
    rw [f6.2 c o (by omega)]
    have ho : o = 1 ∨ o = 2 ∨ o = 3 ∨ o = 4 ∨ o = 5 := by omega
    rcases ho with rfl | rfl | rfl | rfl | rfl
    · rw [f5.2 c 1 (by omega), f4.2 c 1 (by omega), f3.2 c 1 (by omega), f2.2 c 1 (by omega), x1 g hg, dD]
    · rw [f5.2 c 2 (by omega), f4.2 c 2 (by omega), f3.2 c 2 (by omega), x2 g hg, d1]
    · rw [f5.2 c 3 (by omega), f4.2 c 3 (by omega), x3 g hg, d2]
    · rw [f5.2 c 4 (by omega), x4 g hg, d3]
    · rw [x5 g hg, d4]
  have fE : fr (fun c' o => c' = c ∧ o < 34) M E6 := (((((fD.tr (f1.mono (fun c o r => ⟨r.1, by omega⟩))).tr (f2.mono (fun c o r => ⟨r.1, by omega⟩))).tr (f3.mono (fun c o r => ⟨r.1, by omega⟩))).tr (f4.mono (fun c o r => ⟨r.1, by omega⟩))).tr (f5.mono (fun c o r => ⟨r.1, by omega⟩))).tr (f6.mono (fun c o r => ⟨r.1, by omega⟩))
  obtain ⟨G, hG⟩ : ∃ G, G = gwr (gwr E6 c 0 11 (M.1 d 0 11)) c 0 12 (M.1 d 0 12) := ⟨_, rfl⟩
  have dG : ∀ o, G.1 d o = M.1 d o := fun o => by rw [hG, gwr_o (by omega), gwr_o (by omega)]; exact d6 o
  obtain ⟨I, hI⟩ : ∃ I, I = gup G c 32 (va_cpy (M.1 d 32) (G.1 c 32) 0 0 8) := ⟨_, rfl⟩
  have dI : ∀ o, I.1 d o = M.1 d o := fun o => by rw [hI, gup_o (by omega)]; exact dG o
  obtain ⟨J, hJ⟩ : ∃ J, J = gup I c 33 (va_cpy (M.1 d 33) (I.1 c 33) 0 0 8) := ⟨_, rfl⟩
  have dJ : ∀ o, J.1 d o = M.1 d o := fun o => by rw [hJ, gup_o (by omega)]; exact dI o
  have J0 : J.1 c 0 = upd (upd (D.1 c 0) 11 (M.1 d 0 11)) 12 (M.1 d 0 12) := by rw [hJ, gup_o (by omega), hI, gup_o (by omega), hG, gwr_s, gwr_s, z0]
  have Jo : ∀ o, o ≠ 0 → o < 32 → J.1 c o = E6.1 c o := fun o h1 h2 => by rw [hJ, gup_o (by omega), hI, gup_o (by omega), hG, gwr_o (by omega), gwr_o (by omega)]
  have J32 : ∀ x, x < 8 → J.1 c 32 x = M.1 d 32 x := fun x hx => by rw [hJ, gup_o (by omega), hI, gup_at, cpyN _ _ hx]
  have J33 : ∀ x, x < 8 → J.1 c 33 x = M.1 d 33 x := fun x hx => by rw [hJ, gup_at, cpyN _ _ hx]
  have fJ : fr (fun c' o => c' = c ∧ o < 34) M J := by rw [hJ, hI, hG]; exact (((fE.wr ⟨rfl, by omega⟩).wr ⟨rfl, by omega⟩).up ⟨rfl, by omega⟩).up ⟨rfl, by omega⟩
  obtain ⟨e, he, q1, q2⟩ := itr_inv (step := fun s : Int32 × gMem => s_X1_copy_138 c d s.1 s.2) (s := (0, J)) (fun i s => i ≤ 8 ∧ s.1 = nI i ∧ (∀ k g, k < i → g < 7 → s.2.1 c (15 + k) g = M.1 d (15 + k) g ∧ s.2.1 c (24 + k) g = M.1 d (24 + k) g) ∧ fr (fun c' o => c' = c ∧ ((15 ≤ o ∧ o < 23) ∨ (24 ≤ o ∧ o < 32))) J s.2) (fun r => (∀ k g, k < 8 → g < 7 → r.2.1 c (15 + k) g = M.1 d (15 + k) g ∧ r.2.1 c (24 + k) g = M.1 d (24 + k) g) ∧ fr (fun c' o => c' = c ∧ ((15 ≤ o ∧ o < 23) ∨ (24 ≤ o ∧ o < 32))) J r.2) 8 (by omega) ⟨by omega, rfl, fun k j hk => absurd hk (Nat.not_lt_zero k), fr.rf⟩ (by
    rintro i ⟨b1, N⟩ ⟨hi, rfl, i1, i2⟩
    dsimp only at *
    by_cases e : i = 8
    · subst e
      exact Or.inl ⟨(nI 8, N), rfl, i1, i2⟩
    · have p1 : ¬ (8 : Int32) ≤ nI i := show ¬ nI 8 ≤ nI i from by rw [nI_leI (by omega) (by omega)]; omega
      have ga : gin (nI i) 8 := gin_n (by omega) (by omega)
      have ca : (nI i).toNatClampNeg = i := nI_clamp (by omega)
      obtain ⟨A, hA, a1, a2⟩ := C_crd N d (15 + i) c (15 + i)
      obtain ⟨B, hB, b1, b2⟩ := C_crd A d (24 + i) c (24 + i)
      have st : s_X1_copy_138 c d (nI i) N = some (.inl (nI i + 1, B)) := by
        unfold s_X1_copy_138
        rw [if_neg p1]
        simp only [gd_i ga, ca]
        exact (bindS hA).trans ((bindS hB).trans rfl)
      refine Or.inr ⟨by omega, _, st, by omega, nI_1 i, fun k g hk hg => ?_, (i2.tr (a2.mono (fun c o r => ⟨r.1, by omega⟩))).tr (b2.mono (fun c o r => ⟨r.1, by omega⟩))⟩
      dsimp only
      have dN : ∀ o, N.1 d o = M.1 d o := fun o => (i2.2 d o (by omega)).trans (dJ o)
      by_cases ek : k = i
      · subst ek
        rw [b2.2 c (15 + k) (by omega), a1 g hg, b1 g hg, a2.2 d (24 + k) (by omega), dN, dN]
        exact ⟨rfl, rfl⟩
      · rw [b2.2 c (15 + k) (by omega), a2.2 c (15 + k) (by omega), b2.2 c (24 + k) (by omega), a2.2 c (24 + k) (by omega)]
        exact i1 k g (by omega) hg)
  refine ⟨e.2, ?_, ⟨fun j ja jb => ?_, fun o g hg ho => ?_, ?_, fun i j hi hj => ?_, fun x hx => ?_⟩, fJ.tr (q2.mono (fun c o r => ⟨r.1, by omega⟩))⟩
  · unfold x_X1_copy
    have t1 : (gwr M c 0 13 (M.1 d 0 13)).1 d 0 14 = M.1 d 0 14 := by rw [gwr_o (by omega)]
    have t2 : (gwr (gwr M c 0 13 (M.1 d 0 13)) c 0 14 (M.1 d 0 14)).1 d 0 15 = M.1 d 0 15 := by rw [gwr_o (by omega), gwr_o (by omega)]
    rw [t1, t2, ← hD]
    refine (bindS h1).trans ((bindS h2).trans ((bindS h3).trans ((bindS h4).trans ((bindS h5).trans ((bindS h6).trans ?_)))))
    have t3 : (gwr E6 c 0 11 (M.1 d 0 11)).1 d 0 12 = M.1 d 0 12 := by rw [gwr_o (by omega), d6]
    rw [d6 0, t3, ← hG, dG 32, ← hI, dI 33, ← hJ]
    exact (bindS he).trans rfl
  · rw [q2.2 c 0 (by omega), J0, D0]
    have hj : j = 11 ∨ j = 12 ∨ j = 13 ∨ j = 14 ∨ j = 15 := by omega
    rcases hj with rfl | rfl | rfl | rfl | rfl
    · rw [pk_un (by decide), pk_us]
    · rw [pk_us]
    · rw [pk_un (by decide), pk_un (by decide), pk_un (by decide), pk_un (by decide), pk_us]
    · rw [pk_un (by decide), pk_un (by decide), pk_un (by decide), pk_us]
    · rw [pk_un (by decide), pk_un (by decide), pk_us]
  · rcases ho with ho | ho | ho
    · rw [q2.2 c o (by omega), Jo o (by omega) (by omega)]; exact w1 o g hg ho.1 ho.2
    · have := (q1 (o - 15) g (by omega) hg).1
      rw [show 15 + (o - 15) = o by omega] at this; exact this
    · have := (q1 (o - 24) g (by omega) hg).2
      rw [show 24 + (o - 24) = o by omega] at this; exact this
  · rw [q2.2 c 6 (by omega), Jo 6 (by omega) (by omega), y1, d5]
  · rw [q2.2 c (8 + i) (by omega), Jo (8 + i) (by omega) (by omega), y2 i j hi hj, d5]
  · rw [q2.2 c 32 (by omega), q2.2 c 33 (by omega)]; exact ⟨J32 x hx, J33 x hx⟩
end ST12
