section ST4
variable {M : gMem}
theorem st_guest {M} (h : INV M) (a1 a2 a3 : Int32) : ∃ r1 r2, x_X10_guest M a1 a2 a3 = some r1 ∧ x_X11_guest r1.2 a1 a2 a3 = some r2 ∧ r1.1 = r2.1 ∧ INV r2.2 := by
  obtain ⟨⟨n, T, m, u, sl, ⟨hW, hC, hM, hh, hd⟩, hN, hU⟩, _⟩ := id h
  have hn := hW.1
  rcases below_e a1 6 5 6 (b := 5) (by decide) rfl rfl rfl rfl with ⟨k, hk, rfl, c1, c2⟩ | ⟨c1, c2⟩
  · rcases below_e a2 8 7 8 (b := 7) (by decide) rfl rfl rfl rfl with ⟨w, hw, rfl, d1, d2⟩ | ⟨d1, d2⟩
    · rcases below_e a3 256 255 256 (b := 255) (by decide) rfl rfl rfl rfl with ⟨s, hs, rfl, e1, e2⟩ | ⟨e1, e2⟩
      · by_cases en : n = 7
        · subst en
          refine rfB h (x2 := fun N => x_X11_guest N _ _ _) 2 (by decide) (-4) ?_ ?_
          · have hC1 : M.1 0 0 13 = nI 7 := hC.1
            unfold x_X10_guest; rw [c1, d1, e1, hC1]; rfl
          · show x_X11_guest _ _ _ _ = _
            have hB : (rbM M 2).1 0 60 16 = nI 7 := by rw [rb60]; exact hM.1
            unfold x_X11_guest; rw [c2, d2, e2, hB]; rfl
        · obtain ⟨N, n1, n2, n3, n4⟩ := C_adm (M := M) (c := 0) hC (by omega) (nI k) (nI w) (nI s)
          have hM' : HM N n T := by unfold HM; rw [n4.2 0 60 (by omega)]; exact hM
          obtain ⟨K, k1, k2, k3, k4⟩ := M_adm hM' (by omega) (nI k) (nI w) (nI s)
          have p1 : nI n < 7 := show nI n < nI 7 from by rw [nI_ltI (by omega) (by omega)]; omega
          have p2 : ¬ nI n = 7 := show ¬ nI n = nI 7 from nI_ne (by omega) (by omega) en
          have hC1 : M.1 0 0 13 = nI n := hC.1
          refine ⟨(nI n, N), (nI n, gwr K 0 59 14 0), ?_, ?_, rfl, ?_⟩
          · unfold x_X10_guest; rw [c1, d1, e1]
            show (if M.1 0 0 13 < 7 then Option.bind (x_X1_admit M 0 (nI k) (nI w) (nI s)) _ else _) = _
            rw [hC1, if_pos p1, n1]; rfl
          · show x_X11_guest N _ _ _ = _
            unfold x_X11_guest; rw [c2, d2, e2]
            show (if N.1 0 60 16 = 7 then _ else Option.bind (x_X11_add N (nI k) (nI w) (nI s)) _) = _
            rw [hM'.1, if_neg p2, k1]
            show some ((gwr K 0 59 14 0).1 0 60 16 - 1, gwr K 0 59 14 0) = _
            rw [gwr_o (by omega), k2.1, nI_pred]
          · show INV (gwr K 0 59 14 0)
            have q : ∀ c o, ¬ (c = 0 ∧ (o < 6 ∨ o = 59 ∨ o = 60)) → (gwr K 0 59 14 0).1 c o = M.1 c o := fun c o r => (gwr_o (by omega)).trans ((k4.2 c o (by omega)).trans (n4.2 c o (by omega)))
            have qN : ∀ o, o < 6 → (gwr K 0 59 14 0).1 0 o = N.1 0 o := fun o ho => (gwr_o (by omega)).trans (k4.2 0 o (by omega))
            have q60 : ∀ j, (j < 2 ∨ 38 ≤ j) → (gwr K 0 59 14 0).1 0 60 j = M.1 0 60 j := fun j hj => by rw [gwr_o (by omega), k3 j hj, n4.2 0 60 (by omega)]
            refine h.mv (((n4.mono (fun c o r => ⟨r.1, by omega⟩)).tr (k4.mono (fun c o r => ⟨r.1, by omega⟩))).wr ⟨rfl, by omega⟩) ?_ ⟨n + 1, TA T n (nI k) (nI w) (nI s), m, 0, sl, ⟨TA_W hW (by omega) hk hw, ?_, ?_, ?_, ?_⟩, hN.congr (fun o _ _ => q 0 o (by omega)) (fun j hj => q60 j (by omega)), ⟨by omega, hU.2.1, ?_, ?_, ?_, fun g hg => absurd hg (Nat.not_lt_zero g)⟩⟩
            · rw [gwr_k _ _ _ _ (by decide), k4.2 0 59 (by omega), n4.2 0 59 (by omega)]
            · rw [qN 0 (by omega), qN 1 (by omega), qN 2 (by omega), qN 3 (by omega), qN 4 (by omega), qN 5 (by omega)]; exact n2
            · rw [gwr_o (by omega)]; exact k2
            · rw [qN 0 (by omega), n3, pk_un (by decide), pk_un (by decide), q60 0 (by omega)]; exact hh
            · rw [qN 0 (by omega), n3, pk_un (by decide), pk_un (by decide), q60 1 (by omega)]; exact hd
            · rw [qN 0 (by omega), n3, pk_us]; rfl
            · rw [gwr_j]; rfl
            · rw [qN 0 (by omega), n3, pk_un (by decide), pk_un (by decide)]; exact hU.2.2.2.2.1
      · refine rfB h (x2 := fun N => x_X11_guest N _ _ _) 0 (by decide) (-2) ?_ ?_
        · unfold x_X10_guest; rw [c1, d1, e1]; rfl
        · show x_X11_guest _ _ _ _ = _
          unfold x_X11_guest; rw [c2, d2, e2]; rfl
    · refine rfB h (x2 := fun N => x_X11_guest N _ _ _) 0 (by decide) (-2) ?_ ?_
      · unfold x_X10_guest; rw [c1, d1]; rfl
      · show x_X11_guest _ _ _ _ = _
        unfold x_X11_guest; rw [c2, d2]; rfl
  · refine rfB h (x2 := fun N => x_X11_guest N _ _ _) 0 (by decide) (-2) ?_ ?_
    · unfold x_X10_guest; rw [c1]; rfl
    · show x_X11_guest _ _ _ _ = _
      unfold x_X11_guest; rw [c2]; rfl
theorem INV_0 : INV gM0 := by
  refine ⟨⟨0, fun _ _ => 0, 0, 0, 0, ⟨⟨by omega, fun g hg => absurd hg (Nat.not_lt_zero g)⟩, ⟨rfl, fun g hg => absurd hg (Nat.not_lt_zero g)⟩, ⟨rfl, fun g hg => absurd hg (Nat.not_lt_zero g)⟩, rfl, rfl⟩, ⟨by omega, rfl, rfl, fun g hg => absurd hg (Nat.not_lt_zero g)⟩, ⟨by omega, by omega, rfl, rfl, rfl, fun g hg => absurd hg (Nat.not_lt_zero g)⟩⟩, ⟨Or.inl ⟨rfl, rfl⟩, Or.inl ⟨rfl, rfl⟩⟩, ⟨0, by omega, rfl, rfl, fun g hg => absurd hg (Nat.not_lt_zero g)⟩, fun k hk => ?_, ⟨rfl, rfl⟩, ⟨0, by omega, rfl⟩⟩
  show (if (50 : Nat) = 36 ∧ k = 5 then (-1 : Int32) else 0) = if (61 : Nat) = 36 ∧ k = 5 then (-1 : Int32) else 0
  rw [if_neg (by omega), if_neg (by omega)]
theorem st_note {M} (h : INV M) (a1 a2 a3 a4 a5 : Int32) : ∃ r1 r2, x_X10_note M a1 a2 a3 a4 a5 = some r1 ∧ x_X11_note r1.2 a1 a2 a3 a4 a5 = some r2 ∧ r1.1 = r2.1 ∧ INV r2.2 := by
  obtain ⟨⟨n, T, m, u, sl, ⟨hW, hC, hM, hh, hd⟩, hN, hU⟩, _⟩ := id h
  have hn := hW.1
  have hB : ∀ k, (rbM M k).1 0 60 16 = nI n := fun k => by rw [rb60]; exact hM.1
  rcases guest_e a1 hn with ⟨g, hg, rfl, c1, c2⟩ | ⟨c1, c2⟩
  · rcases below_e a2 6 5 6 (b := 5) (by decide) rfl rfl rfl rfl with ⟨w2, hw2, rfl, d1, d2⟩ | ⟨d1, d2⟩
    · rcases below_e a3 8 7 8 (b := 7) (by decide) rfl rfl rfl rfl with ⟨w3, hw3, rfl, e1, e2⟩ | ⟨e1, e2⟩
      · rcases below_e a4 100 99 100 (b := 99) (by decide) rfl rfl rfl rfl with ⟨w4, hw4, rfl, f1, f2⟩ | ⟨f1, f2⟩
        · rcases below_e a5 31 30 31 (b := 30) (by decide) rfl rfl rfl rfl with ⟨w5, hw5, rfl, g1, g2⟩ | ⟨g1, g2⟩
          · obtain ⟨m6, m1, m2, m3⟩ := hN
            by_cases em : m = 6
            · subst em
              refine rfB h (x2 := fun N => x_X11_note N _ _ _ _ _) 2 (by decide) (-4) ?_ ?_
              · unfold x_X10_note; rw [c1 M 0 hC.1, d1, e1]; show j_X10_note_34 M _ _ _ _ _ M 1 = _; unfold j_X10_note_34; rw [f1, g1, m1]; rfl
              · show x_X11_note _ _ _ _ _ _ = _
                have m2' : (rbM M 2).1 0 60 38 = nI 6 := by rw [rb60]; exact m2
                unfold x_X11_note; rw [c2 _ (hB 2), d2, e2, f2, g2, m2']; rfl
            · have p1 : nI m < 6 := show nI m < nI 6 from by rw [nI_ltI (by omega) (by omega)]; omega
              have p2 : ¬ nI m = 6 := show ¬ nI m = nI 6 from nI_ne (by omega) (by omega) em
              have gm : gin (nI m) 6 := gin_n (by omega) (by omega)
              have cm : (nI m).toNatClampNeg = m := nI_clamp (by omega)
              have ge : ∀ j, j < 5 → gin (nI (39 + (5 * m + j))) 70 := fun j hj => gin_n (by omega) (by omega)
              have ce : ∀ j, j < 5 → (nI (39 + (5 * m + j))).toNatClampNeg = 39 + (5 * m + j) := fun j hj => nI_clamp (by omega)
              have q0 : (39 : Int32) + 5 * nI m = nI (39 + (5 * m + 0)) := by
                have : ∀ m, m < 6 → (39 : Int32) + 5 * nI m = nI (39 + (5 * m + 0)) := by decide +kernel
                exact this m (by omega)
              have q1 : nI (39 + (5 * m + 0)) + 1 = nI (39 + (5 * m + 1)) := nI_add _ 1
              have q2 : nI (39 + (5 * m + 0)) + 2 = nI (39 + (5 * m + 2)) := nI_add _ 2
              have q3 : nI (39 + (5 * m + 0)) + 3 = nI (39 + (5 * m + 3)) := nI_add _ 3
              have q4 : nI (39 + (5 * m + 0)) + 4 = nI (39 + (5 * m + 4)) := nI_add _ 4
              let N1 := gwr (gwr (gwr (gwr (gwr M 0 (8 + m) 0 (nI g)) 0 (8 + m) 1 (nI w2)) 0 (8 + m) 2 (nI w3)) 0 (8 + m) 3 (nI w4)) 0 (8 + m) 4 (nI w5)
              have z6 : N1.1 0 6 1 = nI m := by show (gwr _ _ _ _ _).1 0 6 1 = _; rw [gwr_o (by omega), gwr_o (by omega), gwr_o (by omega), gwr_o (by omega), gwr_o (by omega)]; exact m1
              let N := gwr N1 0 6 1 (nI (m + 1))
              have fN : fr (fun c o => c = 0 ∧ (o = 6 ∨ o = 8 + m)) M N := (((((fr.rf.wr ⟨rfl, Or.inr rfl⟩).wr ⟨rfl, Or.inr rfl⟩).wr ⟨rfl, Or.inr rfl⟩).wr ⟨rfl, Or.inr rfl⟩).wr ⟨rfl, Or.inr rfl⟩).wr ⟨rfl, Or.inl rfl⟩
              have y8 : N.1 0 (8 + m) = upd (upd (upd (upd (upd (M.1 0 (8 + m)) 0 (nI g)) 1 (nI w2)) 2 (nI w3)) 3 (nI w4)) 4 (nI w5) := by show (gwr _ _ _ _ _).1 0 (8 + m) = _; rw [gwr_o (by omega), gwr_s, gwr_s, gwr_s, gwr_s, gwr_s]
              have N60 : N.1 0 60 = M.1 0 60 := fN.2 0 60 (by omega)
              let K1 := gwr (gwr (gwr (gwr (gwr N 0 60 (39 + (5 * m + 0)) (nI g)) 0 60 (39 + (5 * m + 1)) (nI w2)) 0 60 (39 + (5 * m + 2)) (nI w3)) 0 60 (39 + (5 * m + 3)) (nI w4)) 0 60 (39 + (5 * m + 4)) (nI w5)
              have zK : K1.1 0 60 = upd (upd (upd (upd (upd (M.1 0 60) (39 + (5 * m + 0)) (nI g)) (39 + (5 * m + 1)) (nI w2)) (39 + (5 * m + 2)) (nI w3)) (39 + (5 * m + 3)) (nI w4)) (39 + (5 * m + 4)) (nI w5) := by show (gwr _ _ _ _ _).1 0 60 = _; rw [gwr_s, gwr_s, gwr_s, gwr_s, gwr_s, N60]
              have z38 : K1.1 0 60 38 = nI m := by rw [zK, pk_un (by omega), pk_un (by omega), pk_un (by omega), pk_un (by omega), pk_un (by omega)]; exact m2
              let K := gwr K1 0 60 38 (nI (m + 1))
              have fK : fr (fun c o => c = 0 ∧ o = 60) N K := (((((fr.rf.wr ⟨rfl, rfl⟩).wr ⟨rfl, rfl⟩).wr ⟨rfl, rfl⟩).wr ⟨rfl, rfl⟩).wr ⟨rfl, rfl⟩).wr ⟨rfl, rfl⟩
              have y60 : K.1 0 60 = upd (K1.1 0 60) 38 (nI (m + 1)) := gwr_s _ _ _ _ _
              refine ⟨(nI (m + 1), N), (nI (m + 1), K), ?_, ?_, rfl, ?_⟩
              · unfold x_X10_note; rw [c1 M 0 hC.1, d1, e1]; show j_X10_note_34 M _ _ _ _ _ M 1 = _; unfold j_X10_note_34; rw [f1, g1]
                show (if M.1 0 6 1 < 6 then Option.bind (x_X3_add M 0 _ _ _ _ _) _ else _) = _
                rw [m1, if_pos p1]
                unfold x_X3_add
                rw [m1]
                simp only [gd_i gm, cm]
                show some ((gwr N1 0 6 1 (N1.1 0 6 1 + 1)).1 0 6 1, gwr N1 0 6 1 (N1.1 0 6 1 + 1)) = _
                rw [z6, nI_1, gwr_j]
              · show x_X11_note N _ _ _ _ _ = _
                unfold x_X11_note; rw [c2 N (by rw [N60]; exact hM.1), d2, e2, f2, g2]
                show (if N.1 0 60 38 = 6 then _ else _) = _
                rw [N60, m2, if_neg p2]
                simp only [q0, q1, q2, q3, q4, gd_i (ge 0 (by decide)), gd_i (ge 1 (by decide)), gd_i (ge 2 (by decide)), gd_i (ge 3 (by decide)), gd_i (ge 4 (by decide)), ce 0 (by decide), ce 1 (by decide), ce 2 (by decide), ce 3 (by decide), ce 4 (by decide)]
                show some ((gwr K1 0 60 38 (K1.1 0 60 38 + 1)).1 0 60 38, gwr K1 0 60 38 (K1.1 0 60 38 + 1)) = _
                rw [z38, nI_1, gwr_j]
              · show INV K
                have q : ∀ c o, ¬ (c = 0 ∧ (o = 6 ∨ o = 8 + m ∨ o = 60)) → K.1 c o = M.1 c o := fun c o r => (fK.2 c o (by omega)).trans (fN.2 c o (by omega))
                have q60 : ∀ j, j < 38 → K.1 0 60 j = M.1 0 60 j := fun j hj => by rw [y60, pk_un (by omega), zK, pk_un (by omega), pk_un (by omega), pk_un (by omega), pk_un (by omega), pk_un (by omega)]
                refine h.mv ((fN.mono (fun c o r => ⟨r.1, by omega⟩)).tr (fK.mono (fun c o r => ⟨r.1, by omega⟩))) (by rw [q 0 59 (by omega)]) ⟨n, T, m + 1, u, sl, ⟨hW, ?_, ?_, ?_, ?_⟩, ⟨by omega, ?_, ?_, fun i hi j hj => ?_⟩, hU.congr hn (fun o _ _ => q 0 o (by omega)) ?_ ?_ ?_ ?_⟩
                · rw [q 0 0 (by omega), q 0 1 (by omega), q 0 2 (by omega), q 0 3 (by omega), q 0 4 (by omega), q 0 5 (by omega)]; exact hC
                · refine ⟨by rw [q60 _ (by omega)]; exact hM.1, fun g hg => ?_⟩
                  rw [q60 _ (by omega), q60 _ (by omega), q60 _ (by omega), q60 _ (by omega), q60 _ (by omega)]; exact hM.2 g hg
                · rw [q 0 0 (by omega), q60 _ (by omega)]; exact hh
                · rw [q 0 0 (by omega), q60 _ (by omega)]; exact hd
                · rw [fK.2 0 6 (by omega)]; exact gwr_j _ _ _ _ _
                · rw [y60, pk_us]
                · rw [y60, pk_un (by omega), zK]
                  by_cases ei : i = m
                  · subst ei
                    rw [fK.2 0 (8 + i) (by omega), y8]
                    have hj5 : j = 0 ∨ j = 1 ∨ j = 2 ∨ j = 3 ∨ j = 4 := by omega
                    rcases hj5 with rfl | rfl | rfl | rfl | rfl
                    · rw [pk_un (by decide), pk_un (by decide), pk_un (by decide), pk_un (by decide), pk_us, pk_un (by omega), pk_un (by omega), pk_un (by omega), pk_un (by omega), pk_us]
                    · rw [pk_un (by decide), pk_un (by decide), pk_un (by decide), pk_us, pk_un (by omega), pk_un (by omega), pk_un (by omega), pk_us]
                    · rw [pk_un (by decide), pk_un (by decide), pk_us, pk_un (by omega), pk_un (by omega), pk_us]
                    · rw [pk_un (by decide), pk_us, pk_un (by omega), pk_us]
                    · rw [pk_us, pk_us]
                  · rw [q 0 (8 + i) (by omega), pk_un (by omega), pk_un (by omega), pk_un (by omega), pk_un (by omega), pk_un (by omega)]
                    exact m3 i (by omega) j hj
                · rw [q 0 0 (by omega)]
                · rw [q 0 0 (by omega)]
                · intro j; rw [q 0 64 (by omega)]
                · rw [q 0 59 (by omega)]
          · refine rfB h (x2 := fun N => x_X11_note N _ _ _ _ _) 0 (by decide) (-2) ?_ ?_
            · unfold x_X10_note; rw [c1 M 0 hC.1, d1, e1]; show j_X10_note_34 M _ _ _ _ _ M 1 = _; unfold j_X10_note_34; rw [f1, g1]; rfl
            · show x_X11_note _ _ _ _ _ _ = _
              unfold x_X11_note; rw [c2 _ (hB 0), d2, e2, f2, g2]; rfl
        · refine rfB h (x2 := fun N => x_X11_note N _ _ _ _ _) 0 (by decide) (-2) ?_ ?_
          · unfold x_X10_note; rw [c1 M 0 hC.1, d1, e1]; show j_X10_note_34 M _ _ _ _ _ M 1 = _; unfold j_X10_note_34; rw [f1]; rfl
          · show x_X11_note _ _ _ _ _ _ = _
            unfold x_X11_note; rw [c2 _ (hB 0), d2, e2, f2]; rfl
      · refine rfB h (x2 := fun N => x_X11_note N _ _ _ _ _) 0 (by decide) (-2) ?_ ?_
        · unfold x_X10_note; rw [c1 M 0 hC.1, d1, e1]; rfl
        · show x_X11_note _ _ _ _ _ _ = _
          unfold x_X11_note; rw [c2 _ (hB 0), d2, e2]; rfl
    · refine rfB h (x2 := fun N => x_X11_note N _ _ _ _ _) 0 (by decide) (-2) ?_ ?_
      · unfold x_X10_note; rw [c1 M 0 hC.1, d1]; rfl
      · show x_X11_note _ _ _ _ _ _ = _
        unfold x_X11_note; rw [c2 _ (hB 0), d2]; rfl
  · refine rfB h (x2 := fun N => x_X11_note N _ _ _ _ _) 0 (by decide) (-2) ?_ ?_
    · unfold x_X10_note; rw [c1 M 0 hC.1]; rfl
    · show x_X11_note _ _ _ _ _ _ = _
      unfold x_X11_note; rw [c2 _ (hB 0)]; rfl
end ST4
