section ST2
variable {M : gMem}
theorem gwr_ap (M : gMem) (c o j : Nat) (v : Int32) (c' o' : Nat) : (gwr M c o j v).1 c' o' = if c' = c ∧ o' = o then upd (M.1 c o) j v else M.1 c' o' := rfl
theorem st_of {M} (h : INV M) (a1 a2 : Int32) : ∃ r1 r2, x_X10_of M a1 a2 = some r1 ∧ x_X11_of r1.2 a1 a2 = some r2 ∧ r1.1 = r2.1 ∧ INV r2.2 := by
  obtain ⟨⟨n, T, m, u, sl, ⟨hW, hC, hM, hh, hd⟩, hN, hU⟩, _⟩ := id h
  have hn := hW.1
  have hB : (rbM M 0).1 0 60 16 = nI n := by rw [rb60]; exact hM.1
  rcases guest_e a1 hn with ⟨g, hg, rfl, c1, c2⟩ | ⟨c1, c2⟩
  · have g1 : gin (nI g) 7 := gin_n (by omega) (by omega)
    have e1 : (nI g).toNatClampNeg = g := nI_clamp (by omega)
    have gk : ∀ k, k < 40 → gin (nI (k + g)) 70 := fun k hk => gin_n (by omega) (by omega)
    have ek : ∀ k, k < 40 → (nI (k + g)).toNatClampNeg = k + g := fun k hk => nI_clamp (by omega)
    rcases below_e a2 7 6 7 (b := 6) (by decide) rfl rfl rfl rfl with ⟨j, hj, rfl, d1, d2⟩ | ⟨d1, d2⟩
    · have hjj : j = 0 ∨ j = 1 ∨ j = 2 ∨ j = 3 ∨ j = 4 ∨ j = 5 ∨ j = 6 := by omega
      rcases hjj with rfl | rfl | rfl | rfl | rfl | rfl | rfl
      · refine smB h (x2 := fun N => x_X11_of N _ _) (T 1 g) ?_ ?_
        · unfold x_X10_of; rw [c1 M 0 hC.1]; show gd (gin (nI g) 7) (some (M.1 0 1 (nI g).toNatClampNeg, M)) = _; rw [gd_i g1, e1, (hC.2 g hg).1]
        · show x_X11_of _ _ _ = _
          unfold x_X11_of; rw [c2 M hM.1, d2]; show gd (gin (nI 17 + nI g) 70) (some (M.1 0 60 (nI 17 + nI g).toNatClampNeg, M)) = _; rw [nI_add, gd_i (gk 17 (by decide)), ek 17 (by decide), (hM.2 g hg).1]
      · refine smB h (x2 := fun N => x_X11_of N _ _) (T 2 g) ?_ ?_
        · unfold x_X10_of; rw [c1 M 0 hC.1]; show gd (gin (nI g) 7) (some (M.1 0 2 (nI g).toNatClampNeg, M)) = _; rw [gd_i g1, e1, (hC.2 g hg).2.1]
        · show x_X11_of _ _ _ = _
          unfold x_X11_of; rw [c2 M hM.1, d2]; show gd (gin (nI 24 + nI g) 70) (some (M.1 0 60 (nI 24 + nI g).toNatClampNeg, M)) = _; rw [nI_add, gd_i (gk 24 (by decide)), ek 24 (by decide), (hM.2 g hg).2.1]
      · refine smB h (x2 := fun N => x_X11_of N _ _) (T 3 g) ?_ ?_
        · unfold x_X10_of; rw [c1 M 0 hC.1]; show gd (gin (nI g) 7) (some (M.1 0 3 (nI g).toNatClampNeg, M)) = _; rw [gd_i g1, e1, (hC.2 g hg).2.2.1]
        · show x_X11_of _ _ _ = _
          unfold x_X11_of; rw [c2 M hM.1, d2]; show gd (gin (nI 31 + nI g) 70) (some (M.1 0 60 (nI 31 + nI g).toNatClampNeg, M)) = _; rw [nI_add, gd_i (gk 31 (by decide)), ek 31 (by decide), (hM.2 g hg).2.2.1]
      · refine smB h (x2 := fun N => x_X11_of N _ _) (T 4 g) ?_ ?_
        · unfold x_X10_of; rw [c1 M 0 hC.1]; show gd (gin (nI g) 7) (some (M.1 0 4 (nI g).toNatClampNeg, M)) = _; rw [gd_i g1, e1, (hC.2 g hg).2.2.2.1]
        · show x_X11_of _ _ _ = _
          unfold x_X11_of; rw [c2 M hM.1, d2]; show gd (gin (nI 2 + nI g) 70) (some (M.1 0 60 (nI 2 + nI g).toNatClampNeg, M)) = _; rw [nI_add, gd_i (gk 2 (by decide)), ek 2 (by decide), (hM.2 g hg).2.2.2.1]
      · refine smB h (x2 := fun N => x_X11_of N _ _) (T 5 g) ?_ ?_
        · unfold x_X10_of; rw [c1 M 0 hC.1]; show gd (gin (nI g) 7) (some (M.1 0 5 (nI g).toNatClampNeg, M)) = _; rw [gd_i g1, e1, (hC.2 g hg).2.2.2.2]
        · show x_X11_of _ _ _ = _
          unfold x_X11_of; rw [c2 M hM.1, d2]; show gd (gin (nI 9 + nI g) 70) (some (M.1 0 60 (nI 9 + nI g).toNatClampNeg, M)) = _; rw [nI_add, gd_i (gk 9 (by decide)), ek 9 (by decide), (hM.2 g hg).2.2.2.2]
      · refine smB h (x2 := fun N => x_X11_of N _ _) (srvI n T g) ?_ ?_
        · unfold x_X10_of; rw [c1 M 0 hC.1]; show Option.bind (x_X1_serverOf M 0 (nI g)) _ = _; rw [C_srv (M := M) (c := 0) hC hW hg]; rfl
        · show x_X11_of _ _ _ = _
          unfold x_X11_of; rw [c2 M hM.1, d2]; show Option.bind (x_X11_serverOf M (nI g)) _ = _; rw [M_srv (M := M) hM hW hg]; rfl
      · refine smB h (x2 := fun N => x_X11_of N _ _) (coT n T (M.1 0 0 14) g) ?_ ?_
        · unfold x_X10_of; rw [c1 M 0 hC.1]; show Option.bind (x_X1_contentOf M 0 (nI g)) _ = _; rw [C_co (M := M) (c := 0) hC hW hg]; rfl
        · show x_X11_of _ _ _ = _
          unfold x_X11_of; rw [c2 M hM.1, d2]; show Option.bind (x_X11_serverOf M (nI g)) _ = _; rw [M_srv (M := M) hM hW hg]
          show Option.bind (x_X11_contentOf M (nI g) (srvI n T g)) _ = _
          rw [M_co (M := M) hM hW hg, hh]; rfl
    · have ne : ∀ k : Int32, x_X10_isBelow k 7 = some 1 → ¬ a2 = k := fun k hk e => by rw [← e, d1] at hk; exact absurd hk (by decide)
      refine rfB h (x2 := fun N => x_X11_of N _ _) 0 (by decide) (-10) ?_ ?_
      · unfold x_X10_of; rw [c1 M 0 hC.1]
        show (if a2 = 0 then _ else _) = _
        rw [if_neg (ne 0 (by decide)), if_neg (ne 1 (by decide)), if_neg (ne 2 (by decide)), if_neg (ne 3 (by decide)), if_neg (ne 4 (by decide)), if_neg (ne 5 (by decide)), if_neg (ne 6 (by decide))]; rfl
      · show x_X11_of _ _ _ = _
        unfold x_X11_of; rw [c2 _ hB, d2]; rfl
  · refine rfB h (x2 := fun N => x_X11_of N _ _) 0 (by decide) (-10) ?_ ?_
    · unfold x_X10_of; rw [c1 M 0 hC.1]; rfl
    · show x_X11_of _ _ _ = _
      unfold x_X11_of; rw [c2 _ hB]; rfl
theorem st_count {M} (h : INV M) (a1 : Int32) : ∃ r1 r2, x_X10_count M a1 = some r1 ∧ x_X11_count r1.2 a1 = some r2 ∧ r1.1 = r2.1 ∧ INV r2.2 := by
  obtain ⟨⟨n, T, m, u, sl, ⟨hW, hC, hM, hh, hd⟩, hN, hU⟩, _, ⟨t, ht, t1, t2, t3⟩, _⟩ := id h
  rcases below_e a1 7 6 7 (b := 6) (by decide) rfl rfl rfl rfl with ⟨j, hj, rfl, d1, d2⟩ | ⟨d1, d2⟩
  · suffices hs : ∃ v, x_X10_countOf M (nI j) = some v ∧ x_X11_countOf M (nI j) = some v by
      obtain ⟨v, v1, v2⟩ := hs
      refine smB h (x2 := fun N => x_X11_count N _) v ?_ ?_
      · unfold x_X10_count; rw [d1]; show Option.bind (x_X10_countOf M (nI j)) _ = _; rw [v1]; rfl
      · show x_X11_count _ _ = _
        unfold x_X11_count; rw [d2]; show Option.bind (x_X11_countOf M (nI j)) _ = _; rw [v2]; rfl
    have hjj : j = 0 ∨ j = 1 ∨ j = 2 ∨ j = 3 ∨ j = 4 ∨ j = 5 ∨ j = 6 := by omega
    rcases hjj with rfl | rfl | rfl | rfl | rfl | rfl | rfl
    · exact ⟨M.1 0 0 13, rfl, by rw [hC.1, ← hM.1]; rfl⟩
    · exact ⟨M.1 0 0 14, rfl, by rw [hh]; rfl⟩
    · exact ⟨M.1 0 0 15, rfl, by rw [hd]; rfl⟩
    · refine ⟨nI (cN (isS n T) n), ?_, ?_⟩
      · show Option.bind (x_X1_servedCount M 0) _ = _; rw [C_sc (M := M) (c := 0) hC hW]; rfl
      · show Option.bind (x_X11_servedMany M) _ = _; rw [M_sc (M := M) hM hW]; rfl
    · exact ⟨M.1 0 6 1, rfl, by rw [hN.2.1, ← hN.2.2.1]; rfl⟩
    · exact ⟨M.1 0 0 12, rfl, by rw [hU.2.2.1, ← hU.2.2.2.1]; rfl⟩
    · exact ⟨M.1 0 36 1, rfl, by rw [t1, ← t2]; rfl⟩
  · refine rfB h (x2 := fun N => x_X11_count N _) 0 (by decide) (-2) ?_ ?_
    · unfold x_X10_count; rw [d1]; rfl
    · show x_X11_count _ _ = _
      unfold x_X11_count; rw [d2]; rfl
theorem st_forget {M} (h : INV M) : ∃ r1 r2, x_X10_forget M = some r1 ∧ x_X11_forget r1.2 = some r2 ∧ r1.1 = r2.1 ∧ INV r2.2 := by
  obtain ⟨⟨n, T, m, u, sl, ⟨hW, hC, hM, hh, hd⟩, hN, hU⟩, _⟩ := id h
  refine ⟨_, _, rfl, rfl, ?_, ?_⟩
  · show M.1 0 6 1 = (gwr M 0 6 1 0).1 0 60 38
    rw [gwr_o (by omega), hN.2.1, hN.2.2.1]
  show INV (gwr (gwr M 0 6 1 0) 0 60 38 0)
  have q : ∀ c o, ¬ (c = 0 ∧ (o = 6 ∨ o = 60)) → (gwr (gwr M 0 6 1 0) 0 60 38 0).1 c o = M.1 c o := fun c o n => (gwr_o (by omega)).trans (gwr_o (by omega))
  have q60 : ∀ j, j ≠ 38 → (gwr (gwr M 0 6 1 0) 0 60 38 0).1 0 60 j = M.1 0 60 j := fun j hj => by rw [gwr_k _ _ _ _ hj, gwr_o (by omega)]
  have hn := hW.1
  refine h.mv ((fr.rf.wr ⟨rfl, by omega⟩).wr ⟨rfl, by omega⟩) (by rw [q 0 59 (by omega)]) ⟨n, T, 0, u, sl, ⟨hW, ?_, ?_, ?_, ?_⟩, ⟨by omega, ?_, ?_, fun i hi => absurd hi (Nat.not_lt_zero i)⟩, hU.congr hn (fun o _ _ => q 0 o (by omega)) ?_ ?_ ?_ ?_⟩
  · rw [q 0 0 (by omega), q 0 1 (by omega), q 0 2 (by omega), q 0 3 (by omega), q 0 4 (by omega), q 0 5 (by omega)]; exact hC
  · refine ⟨by rw [q60 _ (by omega)]; exact hM.1, fun g hg => ?_⟩
    rw [q60 _ (by omega), q60 _ (by omega), q60 _ (by omega), q60 _ (by omega), q60 _ (by omega)]; exact hM.2 g hg
  · rw [q 0 0 (by omega), q60 _ (by omega)]; exact hh
  · rw [q 0 0 (by omega), q60 _ (by omega)]; exact hd
  · rw [gwr_o (by omega), gwr_j]; rfl
  · rw [gwr_j]; rfl
  · rw [q 0 0 (by omega)]
  · rw [q 0 0 (by omega)]
  · intro j; rw [q 0 64 (by omega)]
  · rw [q 0 59 (by omega)]
end ST2
