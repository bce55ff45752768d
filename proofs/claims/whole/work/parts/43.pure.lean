section ST19
def lcg (b : Int64) : Int64 := ((b * 1103515245) + 12345) - ((b * 1103515245) + 12345) / 2147483648 * 2147483648
def lch (x : Int64) : Int32 := Int64.toInt32 ((x / 65536) - (x / 65536) / 8 * 8)
theorem C_h51 (a2 a5 : Int32) (b3 : Int64) (b6 : Int32) (N : gMem) : s_X10_hours_51 a2 a5 b3 b6 N = (if N.1 1 0 13 ≤ b6 then some (.inr (b3, b6, N)) else if lch (lcg b3) = b6 then gd (gin b6 7) (some (.inl (lcg b3, b6 + 1, gwr N 1 4 b6.toNatClampNeg (-1)))) else Option.bind (x_X1_isGuest N 1 (lch (lcg b3))) (fun v => if v = 0 then gd (gin b6 7) (some (.inl (lcg b3, b6 + 1, gwr N 1 4 b6.toNatClampNeg (-1)))) else gd (gin b6 7) (some (.inl (lcg b3, b6 + 1, gwr N 1 4 b6.toNatClampNeg (lch (lcg b3))))))) := rfl
theorem M_h48 (a2 a5 : Int32) (b3 : Int64) (b6 : Int32) (N : gMem) : s_X11_hours_48 a2 a5 b3 b6 N = (if N.1 0 60 16 ≤ b6 then some (.inr (b3, b6, N)) else if lch (lcg b3) = b6 then gd (gin (2 + b6) 70) (some (.inl (lcg b3, b6 + 1, gwr N 0 60 (2 + b6).toNatClampNeg (-1)))) else Option.bind (x_X11_isGuest N (lch (lcg b3))) (fun v => if v = 0 then gd (gin (2 + b6) 70) (some (.inl (lcg b3, b6 + 1, gwr N 0 60 (2 + b6).toNatClampNeg (-1)))) else gd (gin (2 + b6) 70) (some (.inl (lcg b3, b6 + 1, gwr N 0 60 (2 + b6).toNatClampNeg (lch (lcg b3))))))) := rfl
theorem HT.duty {n : Nat} {A B : gMem} (H : HT n A B) {g : Nat} {p : Int32} (hg : g < n) (hp : p = -1 ∨ ∃ d, d < n ∧ d ≠ g ∧ p = nI d) : HT n (gwr A 1 4 g p) (gwr B 0 60 (2 + g) p) := by
  obtain ⟨T, hW, hC, hM, hh, hd⟩ := H
  have hn := hW.1
  refine ⟨TD T (upd (T 4) g p), ⟨hn, fun i hi => ?_⟩, ⟨?_, fun i hi => ?_⟩, ⟨?_, fun i hi => ?_⟩, ?_, ?_⟩
  · refine ⟨(hW.2 i hi).1, (hW.2 i hi).2.1, ?_⟩
    show upd (T 4) g p i = -1 ∨ ∃ d, d < n ∧ d ≠ i ∧ upd (T 4) g p i = nI d
    by_cases e : i = g
    · subst e; rw [pk_us]; exact hp
    · rw [pk_un e]; exact (hW.2 i hi).2.2
  · rw [gwr_o (by omega)]; exact hC.1
  · rw [gwr_o (by omega), gwr_o (by omega), gwr_o (by omega), gwr_s, gwr_o (by omega)]
    have h5 := hC.2 i hi
    refine ⟨h5.1, h5.2.1, h5.2.2.1, ?_, h5.2.2.2.2⟩
    show upd (A.1 1 4) g p i = upd (T 4) g p i
    by_cases e : i = g
    · subst e; rw [pk_us, pk_us]
    · rw [pk_un e, pk_un e]; exact h5.2.2.2.1
  · rw [gwr_k _ _ _ _ (by omega)]; exact hM.1
  · have h5 := hM.2 i hi
    rw [gwr_k _ _ _ _ (by omega), gwr_k _ _ _ _ (by omega), gwr_k _ _ _ _ (by omega)]
    refine ⟨h5.1, h5.2.1, h5.2.2.1, ?_, ?_⟩
    · show _ = upd (T 4) g p i
      by_cases e : i = g
      · subst e; rw [gwr_j, pk_us]
      · rw [gwr_k _ _ _ _ (by omega), pk_un e]; exact h5.2.2.2.1
    · rw [gwr_k _ _ _ _ (by omega)]; exact h5.2.2.2.2
  · rw [gwr_o (by omega), gwr_k _ _ _ _ (by omega)]; exact hh
  · rw [gwr_o (by omega), gwr_k _ _ _ _ (by omega)]; exact hd
theorem DRUN {n : Nat} {A B : gMem} (H : HT n A B) (p q : Int32) (x : Int64) : ∃ r1 r2, itr FU (fun s => s_X10_hours_51 p q s.1 s.2.1 s.2.2) (x, 0, A) = some r1 ∧ itr FU (fun s => s_X11_hours_48 p q s.1 s.2.1 s.2.2) (x, 0, B) = some r2 ∧ r1.1 = r2.1 ∧ HT n r1.2.2 r2.2.2 ∧ fr P1 A r1.2.2 ∧ r1.2.2.1 1 0 = A.1 1 0 ∧ fr P6 B r2.2.2 ∧ ∀ k, 16 ≤ k → r2.2.2.1 0 60 k = B.1 0 60 k := by
  have hn : n ≤ 7 := by obtain ⟨T, hW, _⟩ := H; exact hW.1
  refine itr_rel (s1 := fun s : Int64 × Int32 × gMem => s_X10_hours_51 p q s.1 s.2.1 s.2.2) (s2 := fun s : Int64 × Int32 × gMem => s_X11_hours_48 p q s.1 s.2.1 s.2.2) (fun i (x : Int64 × Int32 × gMem) (y : Int64 × Int32 × gMem) => i ≤ n ∧ x.2.1 = nI i ∧ y.2.1 = nI i ∧ x.1 = y.1 ∧ HT n x.2.2 y.2.2 ∧ fr P1 A x.2.2 ∧ x.2.2.1 1 0 = A.1 1 0 ∧ fr P6 B y.2.2 ∧ ∀ k, 16 ≤ k → y.2.2.1 0 60 k = B.1 0 60 k) (fun (r1 : Int64 × Int32 × gMem) (r2 : Int64 × Int32 × gMem) => r1.1 = r2.1 ∧ HT n r1.2.2 r2.2.2 ∧ fr P1 A r1.2.2 ∧ r1.2.2.1 1 0 = A.1 1 0 ∧ fr P6 B r2.2.2 ∧ ∀ k, 16 ≤ k → r2.2.2.1 0 60 k = B.1 0 60 k) n (by omega) ⟨by omega, rfl, rfl, rfl, H, fr.rf, rfl, fr.rf, fun _ _ => rfl⟩ ?_
  rintro i ⟨x0, x1, X⟩ ⟨y0, y1, Y⟩ ⟨hi, rfl, rfl, rfl, h1, h2, h3, h4, h5⟩
  dsimp only at *
  have hX : X.1 1 0 13 = nI n := by obtain ⟨T, _, hC, _⟩ := h1; exact hC.1
  have hY : Y.1 0 60 16 = nI n := by obtain ⟨T, _, _, hM, _⟩ := h1; exact hM.1
  rw [C_h51, M_h48, hX, hY]
  by_cases e : i = n
  · subst e
    rw [if_pos (by rw [nI_leI (by omega) (by omega)]; omega), if_pos (by rw [nI_leI (by omega) (by omega)]; omega)]
    exact Or.inl ⟨_, _, rfl, rfl, rfl, h1, h2, h3, h4, h5⟩
  · have hin : i < n := by omega
    have pn : ¬ nI n ≤ nI i := by rw [nI_leI (by omega) (by omega)]; omega
    rw [if_neg pn, if_neg pn]
    have g1 : gin (nI i) 7 := gin_n (by omega) (by omega)
    have a2 : (2 : Int32) + nI i = nI (2 + i) := nI_add 2 i
    have g2 : gin (nI (2 + i)) 70 := gin_n (by omega) (by omega)
    have c1 : (nI i).toNatClampNeg = i := nI_clamp (by omega)
    have c2 : (nI (2 + i)).toNatClampNeg = 2 + i := nI_clamp (by omega)
    simp only [a2, gd_i g1, gd_i g2, c1, c2]
    have fin : ∀ v : Int32, (v = -1 ∨ ∃ d, d < n ∧ d ≠ i ∧ v = nI d) → (i + 1 ≤ n ∧ nI i + 1 = nI (i + 1) ∧ nI i + 1 = nI (i + 1) ∧ lcg x0 = lcg x0 ∧ HT n (gwr X 1 4 i v) (gwr Y 0 60 (2 + i) v) ∧ fr P1 A (gwr X 1 4 i v) ∧ (gwr X 1 4 i v).1 1 0 = A.1 1 0 ∧ fr P6 B (gwr Y 0 60 (2 + i) v) ∧ ∀ k, 16 ≤ k → (gwr Y 0 60 (2 + i) v).1 0 60 k = B.1 0 60 k) := fun v hv => ⟨by omega, nI_1 i, nI_1 i, rfl, h1.duty hin hv, h2.wr ⟨rfl, by omega⟩, by rw [gwr_o (by omega)]; exact h3, h4.wr ⟨rfl, rfl⟩, fun k hk => by rw [gwr_k _ _ _ _ (by omega)]; exact h5 k hk⟩
    generalize lch (lcg x0) = v
    by_cases ev : v = nI i
    · rw [if_pos ev, if_pos ev]
      exact Or.inr ⟨by omega, _, _, rfl, rfl, fin (-1) (Or.inl rfl)⟩
    · rw [if_neg ev, if_neg ev]
      rcases guest_e v hn with ⟨d, hd, rfl, d1, d2⟩ | ⟨d1, d2⟩
      · rw [d1 X 1 hX, d2 Y hY]
        exact Or.inr ⟨by omega, _, _, rfl, rfl, fin (nI d) (Or.inr ⟨d, hd, fun q => ev (by rw [q]), rfl⟩)⟩
      · rw [d1 X 1 hX, d2 Y hY]
        exact Or.inr ⟨by omega, _, _, rfl, rfl, fin (-1) (Or.inl rfl)⟩
theorem ORUN {n : Nat} {A B : gMem} (H : HT n A B) (x : Int64) {k : Nat} (hk : k ≤ 60) : ∃ r1 r2, itr FU (fun s => s_X10_hours_42 (nI k) s.1 s.2.1 s.2.2) (x, 0, A) = some r1 ∧ itr FU (fun s => s_X11_hours_39 (nI k) s.1 s.2.1 s.2.2) (x, 0, B) = some r2 ∧ HT n r1.2.2 r2.2.2 ∧ fr P1 A r1.2.2 ∧ r1.2.2.1 1 0 11 = A.1 1 0 11 ∧ fr P6 B r2.2.2 ∧ ∀ k, 17 ≤ k → r2.2.2.1 0 60 k = B.1 0 60 k := by
  refine itr_rel (s1 := fun s : Int64 × Int32 × gMem => s_X10_hours_42 (nI k) s.1 s.2.1 s.2.2) (s2 := fun s : Int64 × Int32 × gMem => s_X11_hours_39 (nI k) s.1 s.2.1 s.2.2) (fun i (x : Int64 × Int32 × gMem) (y : Int64 × Int32 × gMem) => i ≤ k ∧ x.2.1 = nI i ∧ y.2.1 = nI i ∧ x.1 = y.1 ∧ HT n x.2.2 y.2.2 ∧ fr P1 A x.2.2 ∧ x.2.2.1 1 0 11 = A.1 1 0 11 ∧ fr P6 B y.2.2 ∧ ∀ k, 17 ≤ k → y.2.2.1 0 60 k = B.1 0 60 k) (fun (r1 : Int64 × Int32 × gMem) (r2 : Int64 × Int32 × gMem) => HT n r1.2.2 r2.2.2 ∧ fr P1 A r1.2.2 ∧ r1.2.2.1 1 0 11 = A.1 1 0 11 ∧ fr P6 B r2.2.2 ∧ ∀ k, 17 ≤ k → r2.2.2.1 0 60 k = B.1 0 60 k) k (by omega) ⟨by omega, rfl, rfl, rfl, H, fr.rf, rfl, fr.rf, fun _ _ => rfl⟩ ?_
  rintro i ⟨x0, x1, X⟩ ⟨y0, y1, Y⟩ ⟨hi, rfl, rfl, rfl, h1, h2, h3, h4, h5⟩
  dsimp only at *
  unfold s_X10_hours_42 s_X11_hours_39
  by_cases e : i = k
  · subst e
    rw [if_pos (by rw [nI_leI (by omega) (by omega)]; omega), if_pos (by rw [nI_leI (by omega) (by omega)]; omega)]
    exact Or.inl ⟨_, _, rfl, rfl, h1, h2, h3, h4, h5⟩
  · rw [if_neg (by rw [nI_leI (by omega) (by omega)]; omega), if_neg (by rw [nI_leI (by omega) (by omega)]; omega)]
    obtain ⟨⟨u0, u1, U⟩, ⟨w0, w1, V⟩, e1, e2, e3, e4, e5, e6, e7, e8⟩ := DRUN h1 (nI k) (nI i) x0
    dsimp only at *
    subst e3
    obtain ⟨X1, Y1, q1, q2, q3, q4, q5, q6, q7⟩ := e4.pass
    refine Or.inr ⟨by omega, (u0, nI i + 1, X1), (u0, nI i + 1, Y1), ?_, ?_, by omega, nI_1 i, nI_1 i, rfl, q3, (h2.tr e5).tr q4, ?_, (h4.tr e7).tr q6, fun j hj => ?_⟩
    · exact (bindS e1).trans ((bindS q1).trans rfl)
    · exact (bindS e2).trans ((bindS q2).trans rfl)
    · show X1.1 1 0 11 = _
      rw [q5, e6]; exact h3
    · show Y1.1 0 60 j = _
      rw [q7 j hj, e8 j (by omega)]; exact h5 j hj
theorem st_hours {M} (h : INV M) (a1 a2 : Int32) : ∃ r1 r2, x_X10_hours M a1 a2 = some r1 ∧ x_X11_hours r1.2 a1 a2 = some r2 ∧ r1.1 = r2.1 ∧ INV r2.2 := by
  obtain ⟨⟨n, T, m, u, sl, ⟨hW, hC, hM, hh, hd⟩, hN, hU⟩, _⟩ := id h
  have hn := hW.1
  have hC1 : M.1 0 0 13 = nI n := hC.1
  have one0 : ¬ (1 : Int32) = 0 := by decide
  rcases below_e a1 1000000 999999 1000000 (b := 999999) (by decide) rfl rfl rfl rfl with ⟨g, hg, rfl, c1, c2⟩ | ⟨c1, c2⟩
  · rcases below_e a2 61 60 61 (b := 60) (by decide) rfl rfl rfl rfl with ⟨k, hk, rfl, d1, d2⟩ | ⟨d1, d2⟩
    · obtain ⟨A, x1, ⟨y0, y1, _, _, _⟩, x3⟩ := C_copy (M := M) (c := 1) (d := 0) (by decide)
      have hCA : HC A 1 n T := by
        refine ⟨by rw [y0 13 (by omega) (by omega)]; exact hC1, fun i hi => ?_⟩
        rw [y1 1 i (by omega) (by omega), y1 2 i (by omega) (by omega), y1 3 i (by omega) (by omega), y1 4 i (by omega) (by omega), y1 5 i (by omega) (by omega)]
        exact hC.2 i hi
      have H0 : ∀ B : gMem, B.1 0 60 = M.1 0 60 → HT n A B := fun B hB => ⟨T, hW, hCA, by unfold HM; rw [hB]; exact hM, by rw [y0 14 (by omega) (by omega), hB]; exact hh, by rw [y0 15 (by omega) (by omega), hB]; exact hd⟩
      obtain ⟨r1, _, e1, _, _, f1, s1, _, _⟩ := ORUN (H0 M rfl) (nI g).toInt64 (k := k) (by omega)
      have fA : fr P1 M r1.2.2 := (show fr P1 M A from x3).tr f1
      have r60 : r1.2.2.1 0 60 = M.1 0 60 := fA.2 0 60 (by omega)
      have r00 : r1.2.2.1 0 0 = M.1 0 0 := fA.2 0 0 (by omega)
      obtain ⟨K, k1, k2, k3⟩ := M_put r1.2.2
      have K60 : K.1 0 60 = M.1 0 60 := by rw [k3.2 0 60 (by omega)]; exact r60
      obtain ⟨r1', r2, e1', e2, H, _, _, f2, f3⟩ := ORUN (H0 K K60) (nI g).toInt64 (k := k) (by omega)
      rw [e1] at e1'
      have ee := Option.some.inj e1'
      subst ee
      obtain ⟨L, l1, l2, l3, l4⟩ := M_tak r2.2.2
      obtain ⟨T', hW', hC', hM', _, hmd⟩ := H
      have L60 : L.1 0 60 = r1.2.2.1 0 60 := by
        funext j
        rw [r60]
        by_cases hj : j < 16
        · rw [l2 j hj, f2.2 0 69 (by omega), k2 j hj, r60]
        · rw [l3 j (by omega)]
          by_cases hj2 : j = 16
          · subst hj2; rw [hM'.1]; exact hM.1.symm
          · rw [f3 j (by omega), K60]
      refine ⟨(r1.2.2.1 1 0 15 - r1.2.2.1 0 0 15, r1.2.2), (r2.2.2.1 0 60 1 - r2.2.2.1 0 69 1, L), ?_, ?_, ?_, ?_⟩
      · unfold x_X10_hours
        refine (bindS c1).trans ?_
        rw [if_neg one0]
        refine (bindS d1).trans ?_
        rw [if_neg one0]
        exact (bindS x1).trans ((bindS e1).trans rfl)
      · show x_X11_hours r1.2.2 _ _ = _
        unfold x_X11_hours
        refine (bindS c2).trans ?_
        rw [if_neg one0]
        refine (bindS d2).trans ?_
        rw [if_neg one0]
        exact (bindS k1).trans ((bindS e2).trans ((bindS l1).trans rfl))
      · show r1.2.2.1 1 0 15 - r1.2.2.1 0 0 15 = r2.2.2.1 0 60 1 - r2.2.2.1 0 69 1
        rw [hmd, r00, hd, f2.2 0 69 (by omega), k2 1 (by omega), r60]
      · show INV L
        have hI : INV r1.2.2 := h.c1 fA ⟨sl, hU.2.1, by rw [s1, y0 11 (by omega) (by omega)]; exact hU.2.2.2.2.1⟩
        have fL : fr (fun c o => c = 0 ∧ (o = 60 ∨ o = 69)) r1.2.2 L := ((k3.mono (fun c o r => ⟨r.1, by omega⟩)).tr (f2.mono (fun c o r => ⟨r.1, by omega⟩))).tr (l4.mono (fun c o r => ⟨r.1, by omega⟩))
        have fS : fr SP r1.2.2 L := ⟨fL.1, fun c o hp => by
          by_cases e : c = 0 ∧ o = 60
          · rw [e.1, e.2]; exact L60
          · exact fL.2 c o (fun q => hp ⟨q.1, by omega⟩)⟩
        exact hI.sc fS (by rw [fL.2 0 59 (by omega)]) (by rw [fL.2 0 59 (by omega)])
    · refine rfB h (x2 := fun N => x_X11_hours N _ _) 0 (by decide) (-2) ?_ ?_
      · unfold x_X10_hours; rw [c1, d1]; rfl
      · show x_X11_hours _ _ _ = _
        unfold x_X11_hours; rw [c2, d2]; rfl
  · refine rfB h (x2 := fun N => x_X11_hours N _ _) 0 (by decide) (-2) ?_ ?_
    · unfold x_X10_hours; rw [c1]; rfl
    · show x_X11_hours _ _ _ = _
      unfold x_X11_hours; rw [c2]; rfl
end ST19
