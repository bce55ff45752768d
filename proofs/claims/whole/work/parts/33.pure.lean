section ST9
def TD (T : Nat → Nat → Int32) (d : Nat → Int32) : Nat → Nat → Int32 := fun o => if o = 4 then d else T o
theorem HR2.duty {A B : gMem} (H : HR2 A B) {g n : Nat} {p : Int32} (h13 : A.1 0 0 13 = nI n) (hn : n ≤ 7) (hg : g < n) (hp : p = -1 ∨ ∃ d, d < n ∧ d ≠ g ∧ p = nI d) : HR2 (gwr A 0 4 g p) (gwr B 0 60 (2 + g) p) := by
  obtain ⟨n', T, m, u, sl, ⟨hW, hC, hM, hh, hd⟩, hN, hU⟩ := H
  have hn' := hW.1
  have e : n = n' := (nI_eq (by omega) (by omega)).mp (h13.symm.trans hC.1)
  subst e
  have ao : ∀ o, o ≠ 4 → (gwr A 0 4 g p).1 0 o = A.1 0 o := fun o ho => gwr_o (by omega)
  have b6 : ∀ j, j ≠ 2 + g → (gwr B 0 60 (2 + g) p).1 0 60 j = B.1 0 60 j := fun j hj => gwr_k _ _ _ _ hj
  refine ⟨n, TD T (upd (T 4) g p), m, u, sl, ⟨⟨hn, fun i hi => ⟨(hW.2 i hi).1, (hW.2 i hi).2.1, ?_⟩⟩, ⟨?_, fun i hi => ?_⟩, ⟨?_, fun i hi => ?_⟩, ?_, ?_⟩, hN.congr (fun o h1 h2 => ao o (by omega)) (fun j hj => b6 j (by omega)), hU.congr hn (fun o h1 h2 => ao o (by omega)) ?_ ?_ ?_ ?_⟩
  · show upd (T 4) g p i = -1 ∨ ∃ d, d < n ∧ d ≠ i ∧ upd (T 4) g p i = nI d
    by_cases ei : i = g
    · subst ei; rw [pk_us]; exact hp
    · rw [pk_un ei]; exact (hW.2 i hi).2.2
  · rw [ao 0 (by decide)]; exact hC.1
  · rw [ao 1 (by decide), ao 2 (by decide), ao 3 (by decide), ao 5 (by decide), gwr_s]
    obtain ⟨x1, x2, x3, x4, x5⟩ := hC.2 i hi
    refine ⟨x1, x2, x3, ?_, x5⟩
    show _ = upd (T 4) g p i
    by_cases ei : i = g
    · subst ei; rw [pk_us, pk_us]
    · rw [pk_un ei, pk_un ei]; exact x4
  · rw [b6 _ (by omega)]; exact hM.1
  · rw [b6 _ (by omega), b6 _ (by omega), b6 _ (by omega), b6 (9 + i) (by omega)]
    obtain ⟨x1, x2, x3, x4, x5⟩ := hM.2 i hi
    refine ⟨x1, x2, x3, ?_, x5⟩
    show _ = upd (T 4) g p i
    by_cases ei : i = g
    · subst ei; rw [pk_us, gwr_j]
    · rw [pk_un ei, b6 _ (by omega)]; exact x4
  · rw [ao 0 (by decide), b6 _ (by omega)]; exact hh
  · rw [ao 0 (by decide), b6 _ (by omega)]; exact hd
  · rw [ao 0 (by decide)]
  · rw [ao 0 (by decide)]
  · intro j; rw [gwr_o (by omega)]
  · rw [gwr_o (by omega)]
theorem st_duty {M} (h : INV M) (a1 a2 : Int32) : ∃ r1 r2, x_X10_duty M a1 a2 = some r1 ∧ x_X11_duty r1.2 a1 a2 = some r2 ∧ r1.1 = r2.1 ∧ INV r2.2 := by
  obtain ⟨⟨n, T, m, u, sl, ⟨hW, hC, hM, hh, hd⟩, hN, hU⟩, _⟩ := id h
  have hn := hW.1
  have hB : (rbM M 0).1 0 60 16 = nI n := by rw [rb60]; exact hM.1
  have h13 : M.1 0 0 13 = nI n := hC.1
  rcases guest_e a1 hn with ⟨g, hg, rfl, c1, c2⟩ | ⟨c1, c2⟩
  · have good : (a2 = -1 ∨ ∃ d, d < n ∧ d ≠ g ∧ a2 = nI d) → ∃ r1 r2, j_X10_duty_39 M (nI g) a2 M = some r1 ∧ j_X11_duty_31 r1.2 (nI g) a2 r1.2 = some r2 ∧ r1.1 = r2.1 ∧ INV r2.2 ∧ r1.2.1 0 60 = M.1 0 60 := by
      intro hp
      have g1 : gin (nI g) 7 := gin_n (by omega) (by omega)
      have e1 : (nI g).toNatClampNeg = g := nI_clamp (by omega)
      have g2 : gin (nI (2 + g)) 70 := gin_n (by omega) (by omega)
      have e2 : (nI (2 + g)).toNatClampNeg = 2 + g := nI_clamp (by omega)
      have a2g : (2 : Int32) + nI g = nI (2 + g) := nI_add 2 g
      obtain ⟨A, _, p1, _, _, p4, _, _, p7, p8, _⟩ := STEP (A := M) (B := M) h.1
      have fA : fr PC M (gwr A 0 4 g a2) := p4.wr ⟨rfl, by omega⟩
      obtain ⟨A', B, p1', q2, q3, _, q5, q6, _, _, q9⟩ := STEP (A := M) (B := gwr A 0 4 g a2) (h.on fA)
      rw [p1] at p1'
      have ee := Option.some.inj p1'
      subst ee
      have n60 : (gwr A 0 4 g a2).1 0 60 = M.1 0 60 := fA.2 0 60 (by omega)
      refine ⟨(M.1 0 4 g, gwr A 0 4 g a2), (B.1 0 60 (2 + g), gwr B 0 60 (2 + g) a2), ?_, ?_, ?_, ?_, n60⟩
      · unfold j_X10_duty_39; rw [gd_i g1, p1]
        show gd (gin (nI g) 7) (some (M.1 0 4 (nI g).toNatClampNeg, gwr A 0 4 (nI g).toNatClampNeg a2)) = _
        rw [gd_i g1, e1]
      · show j_X11_duty_31 (gwr A 0 4 g a2) (nI g) a2 (gwr A 0 4 g a2) = _
        unfold j_X11_duty_31
        refine (bindS q2).trans ?_
        rw [a2g, gd_i g2, gd_i g2, e2]
      · show M.1 0 4 g = B.1 0 60 (2 + g)
        rw [q9, n60, show M.1 0 4 g = T 4 g from (hC.2 g hg).2.2.2.1]; exact (hM.2 g hg).2.2.2.1.symm
      · show INV (gwr B 0 60 (2 + g) a2)
        refine h.two fA (q5.wr ⟨rfl, by omega⟩) (by rw [gwr_o (by omega)]; exact q6) ?_
        exact HR2.duty q3 (by rw [p8 13 (by decide) (by decide)]; exact h13) hn hg hp
    by_cases e : a2 = nI g
    · refine rfB h (x2 := fun N => x_X11_duty N _ _) 0 (by decide) (-10) ?_ ?_
      · unfold x_X10_duty; rw [c1 M 0 h13]; show (if a2 = nI g then _ else _) = _; rw [if_pos e]; rfl
      · show x_X11_duty _ _ _ = _
        unfold x_X11_duty; rw [c2 _ hB]; show (if nI g = a2 then _ else _) = _; rw [if_pos e.symm]; rfl
    · have e' : ¬ nI g = a2 := fun z => e z.symm
      by_cases em : a2 = -1
      · obtain ⟨r1, r2, x1, x2, x3, x4, x5⟩ := good (Or.inl em)
        refine ⟨r1, r2, ?_, ?_, x3, x4⟩
        · unfold x_X10_duty; rw [c1 M 0 h13]; show (if a2 = nI g then _ else _) = _; rw [if_neg e, if_pos em]; exact x1
        · unfold x_X11_duty; rw [c2 r1.2 (by rw [x5]; exact hM.1)]; show (if nI g = a2 then _ else _) = _; rw [if_neg e', if_pos em]; exact x2
      · rcases guest_e a2 hn with ⟨d, hd', ed, d1, d2⟩ | ⟨d1, d2⟩
        · obtain ⟨r1, r2, x1, x2, x3, x4, x5⟩ := good (Or.inr ⟨d, hd', fun z => e (by rw [ed, z]), ed⟩)
          refine ⟨r1, r2, ?_, ?_, x3, x4⟩
          · unfold x_X10_duty; rw [c1 M 0 h13]; show (if a2 = nI g then _ else _) = _; rw [if_neg e, if_neg em, d1 M 0 h13]; exact x1
          · unfold x_X11_duty; rw [c2 r1.2 (by rw [x5]; exact hM.1)]; show (if nI g = a2 then _ else _) = _; rw [if_neg e', if_neg em, d2 r1.2 (by rw [x5]; exact hM.1)]; exact x2
        · refine rfB h (x2 := fun N => x_X11_duty N _ _) 0 (by decide) (-10) ?_ ?_
          · unfold x_X10_duty; rw [c1 M 0 h13]; show (if a2 = nI g then _ else _) = _; rw [if_neg e, if_neg em, d1 M 0 h13]; rfl
          · show x_X11_duty _ _ _ = _
            unfold x_X11_duty; rw [c2 _ hB]; show (if nI g = a2 then _ else _) = _; rw [if_neg e', if_neg em, d2 _ hB]; rfl
  · refine rfB h (x2 := fun N => x_X11_duty N _ _) 0 (by decide) (-10) ?_ ?_
    · unfold x_X10_duty; rw [c1 M 0 h13]; rfl
    · show x_X11_duty _ _ _ = _
      unfold x_X11_duty; rw [c2 _ hB]; rfl
theorem C_rec {M : gMem} {c sl v : Nat} (hs : sl < 8) (h11 : M.1 c 0 11 = nI sl) (h12 : M.1 c 0 12 = nI (v + 1)) : ∃ N, x_X1_recall M c = some N ∧ N.1 c 0 = upd (upd (upd (upd (M.1 c 0) 11 (nI ((sl + 7) % 8))) 12 (nI v)) 15 (M.1 c 32 ((sl + 7) % 8))) 14 (M.1 c 33 ((sl + 7) % 8)) ∧ (∀ g, g < 7 → N.1 c 4 g = M.1 c (15 + (sl + 7) % 8) g) ∧ (∀ g, g < 7 → N.1 c 5 g = M.1 c (24 + (sl + 7) % 8) g) ∧ fr (fun c' o => c' = c ∧ (o = 0 ∨ o = 4 ∨ o = 5)) M N := by
  have hmod : nI sl + 8 - 1 - (nI sl + 8 - 1) / 8 * 8 = nI ((sl + 7) % 8) := by
    have : ∀ s, s < 8 → nI s + 8 - 1 - (nI s + 8 - 1) / 8 * 8 = nI ((s + 7) % 8) := by decide +kernel
    exact this sl hs
  generalize ht : (sl + 7) % 8 = t at *
  have ht8 : t < 8 := by omega
  have g1 : gin (nI t) 8 := gin_n (by omega) (by omega)
  have c1 : (nI t).toNatClampNeg = t := nI_clamp (by omega)
  obtain ⟨D, hD⟩ : ∃ D, D = gwr M c 0 11 (nI t) := ⟨_, rfl⟩
  have D12 : D.1 c 0 12 = nI (v + 1) := by rw [hD, gwr_k _ _ _ _ (by decide)]; exact h12
  obtain ⟨E, hE⟩ : ∃ E, E = gwr D c 0 12 (nI v) := ⟨_, rfl⟩
  have E0 : E.1 c 0 = upd (upd (M.1 c 0) 11 (nI t)) 12 (nI v) := by rw [hE, gwr_s, hD, gwr_s]
  have E11 : E.1 c 0 11 = nI t := by rw [E0, pk_un (by decide), pk_us]
  have Eo : ∀ o, o ≠ 0 → E.1 c o = M.1 c o := fun o ho => by rw [hE, gwr_o (by omega), hD, gwr_o (by omega)]
  obtain ⟨A, hA, A1, A2⟩ := C_cr E c (15 + t) 4
  obtain ⟨B, hB, B1, B2⟩ := C_cr A c (24 + t) 5
  have A11 : A.1 c 0 11 = nI t := by rw [A2.2 c 0 (by omega)]; exact E11
  have B0 : B.1 c 0 = E.1 c 0 := (B2.2 c 0 (by omega)).trans (A2.2 c 0 (by omega))
  have B11 : B.1 c 0 11 = nI t := by rw [B0]; exact E11
  have B32 : B.1 c 32 t = M.1 c 32 t := by rw [B2.2 c 32 (by omega), A2.2 c 32 (by omega), Eo 32 (by decide)]
  obtain ⟨F, hF⟩ : ∃ F, F = gwr B c 0 15 (M.1 c 32 t) := ⟨_, rfl⟩
  have F11 : F.1 c 0 11 = nI t := by rw [hF, gwr_k _ _ _ _ (by decide)]; exact B11
  have F33 : F.1 c 33 t = M.1 c 33 t := by rw [hF, gwr_o (by omega), B2.2 c 33 (by omega), A2.2 c 33 (by omega), Eo 33 (by decide)]
  have hx : x_X1_recall M c = some (gwr F c 0 14 (M.1 c 33 t)) := by
    unfold x_X1_recall
    rw [h11, hmod, ← hD, D12, nI_pred, ← hE, E11, gd_i g1, c1]
    refine (bindS hA).trans ?_
    rw [A11, gd_i g1, c1]
    refine (bindS hB).trans ?_
    rw [B11, gd_i g1, c1, B32, ← hF, F11, gd_i g1, c1, F33]
  refine ⟨_, hx, ?_, fun g hg => ?_, fun g hg => ?_, ?_⟩
  · rw [gwr_s, hF, gwr_s, B0, E0]
  · rw [gwr_o (by omega), hF, gwr_o (by omega), B2.2 c 4 (by omega), A1 g hg, Eo _ (by omega)]
  · rw [gwr_o (by omega), hF, gwr_o (by omega), B1 g hg, A2.2 c _ (by omega), Eo _ (by omega)]
  · have f1 : fr (fun c' o => c' = c ∧ (o = 0 ∨ o = 4 ∨ o = 5)) M E := by rw [hE, hD]; exact (fr.rf.wr ⟨rfl, by omega⟩).wr ⟨rfl, by omega⟩
    rw [hF]
    exact (((f1.tr (A2.mono (fun c' o r => ⟨r.1, by omega⟩))).tr (B2.mono (fun c' o r => ⟨r.1, by omega⟩))).wr ⟨rfl, by omega⟩).wr ⟨rfl, by omega⟩
theorem M_und {K : gMem} {v : Nat} (hv : v < 8) (hK : K.1 0 59 14 = nI v) : ∃ r, itr FU (fun s => s_X11_undo_24 s.1 s.2) (0, K) = some r ∧ (∀ j, j < 16 → r.2.1 0 60 j = K.1 0 64 (16 * v + j)) ∧ (∀ j, 16 ≤ j → r.2.1 0 60 j = K.1 0 60 j) ∧ fr (fun c' o => c' = 0 ∧ o = 60) K r.2 := by
  refine itr_inv (step := fun s : Int32 × gMem => s_X11_undo_24 s.1 s.2) (fun i s => i ≤ 16 ∧ s.1 = nI i ∧ (∀ j, j < i → s.2.1 0 60 j = K.1 0 64 (16 * v + j)) ∧ (∀ j, 16 ≤ j → s.2.1 0 60 j = K.1 0 60 j) ∧ fr (fun c' o => c' = 0 ∧ o = 60) K s.2) (fun r => (∀ j, j < 16 → r.2.1 0 60 j = K.1 0 64 (16 * v + j)) ∧ (∀ j, 16 ≤ j → r.2.1 0 60 j = K.1 0 60 j) ∧ fr (fun c' o => c' = 0 ∧ o = 60) K r.2) 16 (by omega) ⟨by omega, rfl, fun j hj => absurd hj (Nat.not_lt_zero j), fun _ _ => rfl, fr.rf⟩ ?_
  rintro i ⟨b1, N⟩ ⟨hi, rfl, i1, i2, i3⟩
  dsimp only at *
  unfold s_X11_undo_24
  have n59 : N.1 0 59 = K.1 0 59 := i3.2 0 59 (by omega)
  have n64 : N.1 0 64 = K.1 0 64 := i3.2 0 64 (by omega)
  by_cases e : i = 16
  · subst e
    exact Or.inl ⟨(nI 16, N), rfl, i1, i2, i3⟩
  · have p1 : ¬ (16 : Int32) ≤ nI i := show ¬ nI 16 ≤ nI i from by rw [nI_leI (by omega) (by omega)]; omega
    have a1 : (16 : Int32) * nI v = nI (16 * v) := by
      have : ∀ v, v < 8 → (16 : Int32) * nI v = nI (16 * v) := by decide +kernel
      exact this v hv
    have ga : gin (nI i) 70 := gin_n (by omega) (by omega)
    have gb : gin (nI (16 * v + i)) 128 := gin_n (by omega) (by omega)
    have ca : (nI i).toNatClampNeg = i := nI_clamp (by omega)
    have cb : (nI (16 * v + i)).toNatClampNeg = 16 * v + i := nI_clamp (by omega)
    rw [if_neg p1, n59, hK, a1, nI_add, gd_i gb, gd_i ga, ca, cb, n64]
    refine Or.inr ⟨by omega, _, rfl, by omega, nI_1 i, fun j hj => ?_, fun j hj => ?_, i3.wr ⟨rfl, rfl⟩⟩
    · dsimp only
      by_cases ej : j = i
      · subst ej; rw [gwr_j]
      · rw [gwr_k _ _ _ _ (by omega)]; exact i1 j (by omega)
    · dsimp only
      rw [gwr_k _ _ _ _ (by omega)]; exact i2 j hj
theorem st_undo {M} (h : INV M) : ∃ r1 r2, x_X10_undo M = some r1 ∧ x_X11_undo r1.2 = some r2 ∧ r1.1 = r2.1 ∧ INV r2.2 := by
  obtain ⟨⟨n, T, m, u, sl, ⟨hW, hC, hM, hh, hd⟩, hN, ⟨hu, hsl, u1, u2, u3, hP⟩⟩, _⟩ := id h
  have hn := hW.1
  cases u with
  | zero =>
    refine rfB h (x2 := fun N => x_X11_undo N) 1 (by decide) (-3) ?_ ?_
    · unfold x_X10_undo; rw [u1, if_pos (show nI 0 = 0 from rfl)]; rfl
    · show x_X11_undo _ = _
      have u2' : (rbM M 1).1 0 59 14 = nI 0 := by rw [gwr_o (by omega)]; exact u2
      unfold x_X11_undo; rw [u2', if_pos (show nI 0 = 0 from rfl)]; rfl
  | succ v =>
    obtain ⟨A, a1, a2, a3, a4, a5⟩ := C_rec (M := M) (c := 0) hsl u3 u1
    have fA : fr PC M A := a5.mono (fun c o r => ⟨r.1, by omega⟩)
    have A59 : A.1 0 59 14 = nI (v + 1) := by rw [a5.2 0 59 (by omega)]; exact u2
    obtain ⟨r, b1, b2, b3, b4⟩ := M_und (K := gwr A 0 59 14 (nI v)) (v := v) (by omega) (gwr_j _ _ _ _ _)
    have nz : ¬ nI (v + 1) = 0 := nI_ne0 (by omega) (by omega)
    have K64 : (gwr A 0 59 14 (nI v)).1 0 64 = M.1 0 64 := by rw [gwr_o (by omega), a5.2 0 64 (by omega)]
    have K60 : (gwr A 0 59 14 (nI v)).1 0 60 = M.1 0 60 := by rw [gwr_o (by omega), a5.2 0 60 (by omega)]
    rw [K64] at b2
    rw [K60] at b3
    have fB : fr PM A r.2 := (fr.rf.wr ⟨rfl, by omega⟩).tr (b4.mono (fun c o q => ⟨q.1, by omega⟩))
    have r59 : r.2.1 0 59 = upd (A.1 0 59) 14 (nI v) := by rw [b4.2 0 59 (by omega), gwr_s]
    have ex : (sl + 8 - (v + 1) + v) % 8 = (sl + 7) % 8 := by omega
    obtain ⟨p1, p2, p3⟩ := hP v (by omega)
    rw [ex] at p1 p2 p3
    have A14 : A.1 0 0 14 = M.1 0 33 ((sl + 7) % 8) := by rw [a2, pk_us]
    have A15 : A.1 0 0 15 = M.1 0 32 ((sl + 7) % 8) := by rw [a2, pk_un (by decide), pk_us]
    have R0 : r.2.1 0 60 0 = A.1 0 0 14 := by rw [b2 0 (by omega), A14, Nat.add_zero]; exact p1
    have R1 : r.2.1 0 60 1 = A.1 0 0 15 := by rw [b2 1 (by omega), A15]; exact p2
    have ao : ∀ o, 5 < o → A.1 0 o = M.1 0 o := fun o ho => a5.2 0 o (by omega)
    refine ⟨(A.1 0 0 14, A), (r.2.1 0 60 0, r.2), ?_, ?_, R0.symm, ?_⟩
    · unfold x_X10_undo; rw [u1, if_neg nz]
      exact (bindS a1).trans rfl
    · show x_X11_undo A = _
      unfold x_X11_undo; rw [A59, if_neg nz, nI_pred]
      exact (bindS b1).trans rfl
    · refine h.two fA fB (by rw [r59, pk_un (by decide)]) ?_
      let d4 : Nat → Int32 := M.1 0 (15 + (sl + 7) % 8)
      let d5 : Nat → Int32 := M.1 0 (24 + (sl + 7) % 8)
      refine ⟨n, TT (TD T d4) d5, m, v, (sl + 7) % 8, ⟨⟨hn, fun g hg => ⟨(hW.2 g hg).1, (hW.2 g hg).2.1, (p3 g hg).2.2⟩⟩, ⟨?_, fun g hg => ?_⟩, ⟨?_, fun g hg => ?_⟩, R0.symm, R1.symm⟩, hN.congr (fun o h1 h2 => ao o (by omega)) (fun j hj => b3 j (by omega)), ⟨by omega, by omega, ?_, ?_, ?_, fun k hk => ?_⟩⟩
      · rw [a2, pk_un (by decide), pk_un (by decide), pk_un (by decide), pk_un (by decide)]; exact hC.1
      · rw [a5.2 0 1 (by omega), a5.2 0 2 (by omega), a5.2 0 3 (by omega), a3 g (by omega), a4 g (by omega)]
        obtain ⟨x1, x2, x3, x4, x5⟩ := hC.2 g hg
        exact ⟨x1, x2, x3, rfl, rfl⟩
      · rw [b3 16 (by omega)]; exact hM.1
      · rw [b3 _ (by omega), b3 _ (by omega), b3 _ (by omega), b2 _ (by omega), b2 _ (by omega)]
        obtain ⟨x1, x2, x3, x4, x5⟩ := hM.2 g hg
        exact ⟨x1, x2, x3, (p3 g hg).1, (p3 g hg).2.1⟩
      · rw [a2, pk_un (by decide), pk_un (by decide), pk_us]
      · rw [r59, pk_us]
      · rw [a2, pk_un (by decide), pk_un (by decide), pk_un (by decide), pk_us]
      · have ek : ((sl + 7) % 8 + 8 - v + k) % 8 = (sl + 8 - (v + 1) + k) % 8 := by omega
        rw [ek]
        exact (hP k (by omega)).congr (Nat.mod_lt _ (by omega)) (fun o h1 h2 => ao o (by omega)) (fun j hj => by rw [b4.2 0 64 (by omega), K64]) hn
end ST9
