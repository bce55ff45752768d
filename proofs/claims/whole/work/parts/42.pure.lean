section ST18
def cR (T : Nat → Nat → Int32) : Nat → Int32
  | 0 => 0
  | i + 1 => if rng T i ≤ 0 then cR T i else cR T i + 1
theorem cR_s (T : Nat → Nat → Int32) (i : Nat) : cR T (i + 1) = if rng T i ≤ 0 then cR T i else cR T i + 1 := rfl
theorem st_rings {M} (h : INV M) (a1 : Int32) : ∃ r1 r2, x_X10_rings M a1 = some r1 ∧ x_X11_rings r1.2 a1 = some r2 ∧ r1.1 = r2.1 ∧ INV r2.2 := by
  obtain ⟨⟨n, T, m, u, sl, ⟨hW, hC, hM, hh, hd⟩, hN, hU⟩, _⟩ := id h
  have hn := hW.1
  have hB : (rbM M 0).1 0 60 16 = nI n := by rw [rb60]; exact hM.1
  have hC1 : M.1 0 0 13 = nI n := hC.1
  have hM1 : M.1 0 60 16 = nI n := hM.1
  have one0 : ¬ (1 : Int32) = 0 := by decide
  have ml : itr FU (fun s => s_X11_rings_17 M a1 s.1 s.2) (0, 0) = some (cR T n, nI n) := by
    refine itr_tr (fun i => (cR T i, nI i)) n (cR T n, nI n) rfl (by omega) (fun i hi => ?_) ?_
    · dsimp only
      unfold s_X11_rings_17 j_X11_rings_17_42
      rw [hM1, if_neg (by rw [nI_leI (by omega) (by omega)]; omega), cR_s]
      refine (bindS (M_ring (M := M) hM hW hi)).trans ?_
      by_cases q : rng T i ≤ 0
      · rw [if_pos q, if_pos q, Int32.add_zero, nI_1]
      · rw [if_neg q, if_neg q, nI_1]
    · dsimp only
      unfold s_X11_rings_17
      rw [hM1, if_pos (by rw [nI_leI (by omega) (by omega)]; omega)]
  by_cases em : a1 = -1
  · refine smB h (x2 := fun N => x_X11_rings N _) (cR T n) ?_ ?_
    · unfold x_X10_rings
      rw [if_pos em]
      refine (bindS (itr_tr (fun i => (cR T i, nI i)) n (cR T n, nI n) rfl (by omega) (fun i hi => ?_) ?_)).trans rfl
      · dsimp only
        unfold s_X10_rings_38 j_X10_rings_38_63
        rw [hC1, if_neg (by rw [nI_leI (by omega) (by omega)]; omega), cR_s]
        refine (bindS (C_ring (M := M) hC hW hi)).trans ?_
        by_cases q : rng T i ≤ 0
        · rw [if_pos q, if_pos q, nI_1]
        · rw [if_neg q, if_neg q, nI_1]
      · dsimp only
        unfold s_X10_rings_38
        rw [hC1, if_pos (by rw [nI_leI (by omega) (by omega)]; omega)]
    · show x_X11_rings _ _ = _
      unfold x_X11_rings
      have io : x_X11_isOne M a1 = some 1 := by unfold x_X11_isOne; rw [if_pos em]
      refine (bindS io).trans ?_
      rw [if_neg one0]
      refine (bindS ml).trans ?_
      rw [if_neg (by rw [em]; decide)]
  · rcases guest_e a1 hn with ⟨g, hg, rfl, c1, c2⟩ | ⟨c1, c2⟩
    · refine smB h (x2 := fun N => x_X11_rings N _) (rng T g) ?_ ?_
      · unfold x_X10_rings
        rw [if_neg em]
        refine (bindS (c1 M 0 hC1)).trans ?_
        rw [if_neg one0]
        exact (bindS (C_ring (M := M) hC hW hg)).trans rfl
      · show x_X11_rings _ _ = _
        unfold x_X11_rings
        have io : x_X11_isOne M (nI g) = some 1 := by unfold x_X11_isOne; rw [if_neg em, c2 M hM1]; rfl
        refine (bindS io).trans ?_
        rw [if_neg one0]
        refine (bindS ml).trans ?_
        rw [if_pos (nI_pos' (by omega))]
        exact (bindS (M_ring (M := M) hM hW hg)).trans rfl
    · refine rfB h (x2 := fun N => x_X11_rings N _) 0 (by decide) (-10) ?_ ?_
      · unfold x_X10_rings; rw [if_neg em, c1 M 0 hC1]; rfl
      · show x_X11_rings _ _ = _
        unfold x_X11_rings
        have io : x_X11_isOne (rbM M 0) a1 = some 0 := by unfold x_X11_isOne; rw [if_neg em, c2 _ hB]; rfl
        rw [io]; rfl
end ST18
