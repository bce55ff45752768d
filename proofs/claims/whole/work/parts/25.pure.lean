/-! the steps that look or only write a little -/
section ST
variable {M : gMem}
abbrev rbM (M : gMem) (k : Nat) : gMem := gwr M 0 50 k (M.1 0 50 k + 1)
abbrev rcM (M : gMem) (k : Nat) : gMem := gwr (rbM M k) 0 61 k ((rbM M k).1 0 61 k + 1)
theorem rfB (h : INV M) {α : Type} {x1 : Option (α × gMem)} {x2 : gMem → Option (α × gMem)} (k : Nat) (hk : k < 3) (v : α) (e1 : x1 = some (v, rbM M k)) (e2 : x2 (rbM M k) = some (v, rcM M k)) : ∃ r1 r2, x1 = some r1 ∧ x2 r1.2 = some r2 ∧ r1.1 = r2.1 ∧ INV r2.2 := ⟨_, _, e1, e2, rfl, h.rf hk⟩
theorem smB (h : INV M) {α : Type} {x1 : Option (α × gMem)} {x2 : gMem → Option (α × gMem)} (v : α) (e1 : x1 = some (v, M)) (e2 : x2 M = some (v, M)) : ∃ r1 r2, x1 = some r1 ∧ x2 r1.2 = some r2 ∧ r1.1 = r2.1 ∧ INV r2.2 := ⟨_, _, e1, e2, rfl, h⟩
theorem rb60 (M : gMem) (k : Nat) : (rbM M k).1 0 60 = M.1 0 60 := gwr_o (by omega)
theorem b2i_r (b : Bool) : (if b2i b = 0 then some ((0 : Int32), M) else some (1, M)) = some (b2i b, M) := by cases b <;> rfl
theorem st_can {M} (h : INV M) (a1 a2 : Int32) : ∃ r1 r2, x_X10_can M a1 a2 = some r1 ∧ x_X11_can r1.2 a1 a2 = some r2 ∧ r1.1 = r2.1 ∧ INV r2.2 := by
  obtain ⟨⟨n, T, m, u, sl, ⟨hW, hC, hM, hh, hd⟩, hN, hU⟩, _⟩ := id h
  have hn := hW.1
  have hB : (rbM M 0).1 0 60 16 = nI n := by rw [rb60]; exact hM.1
  rcases guest_e a1 hn with ⟨g, hg, rfl, c1, c2⟩ | ⟨c1, c2⟩
  · rcases guest_e a2 hn with ⟨w, hw, rfl, d1, d2⟩ | ⟨d1, d2⟩
    · by_cases e : g = w
      · subst e
        refine rfB h (x2 := fun N => x_X11_can N _ _) 0 (by decide) (-2) ?_ ?_
        · unfold x_X10_can; rw [c1 M 0 hC.1]; show (if nI g = nI g then _ else _) = _; rw [if_pos rfl]; rfl
        · show x_X11_can _ _ _ = _
          unfold x_X11_can; rw [c2 _ hB]; show (if nI g = nI g then _ else _) = _; rw [if_pos rfl]; rfl
      · have e' := nI_ne (a := g) (b := w) (by omega) (by omega) e
        refine smB h (x2 := fun N => x_X11_can N _ _) (b2i (csv T g w)) ?_ ?_
        · unfold x_X10_can; rw [c1 M 0 hC.1, d1 M 0 hC.1]; show (if nI g = nI w then _ else _) = _; rw [if_neg e', C_can (M := M) (c := 0) hC hW hg hw]; exact b2i_r _
        · show x_X11_can _ _ _ = _
          unfold x_X11_can; rw [c2 M hM.1, d2 M hM.1]; show (if nI g = nI w then _ else _) = _; rw [if_neg e', M_can (M := M) hM hW hg hw]; simp only [e, ne_eq, not_false_eq_true, decide_true, Bool.true_and]; exact b2i_r _
    · refine rfB h (x2 := fun N => x_X11_can N _ _) 0 (by decide) (-2) ?_ ?_
      · unfold x_X10_can; rw [c1 M 0 hC.1, d1 M 0 hC.1]; rfl
      · show x_X11_can _ _ _ = _
        unfold x_X11_can; rw [c2 _ hB, d2 _ hB]; rfl
  · refine rfB h (x2 := fun N => x_X11_can N _ _) 0 (by decide) (-2) ?_ ?_
    · unfold x_X10_can; rw [c1 M 0 hC.1]; rfl
    · show x_X11_can _ _ _ = _
      unfold x_X11_can; rw [c2 _ hB]; rfl
theorem st_work {M} (h : INV M) (a1 a2 : Int32) : ∃ r1 r2, x_X10_work M a1 a2 = some r1 ∧ x_X11_work r1.2 a1 a2 = some r2 ∧ r1.1 = r2.1 ∧ INV r2.2 := by
  obtain ⟨⟨n, T, m, u, sl, ⟨hW, hC, hM, hh, hd⟩, hN, hU⟩, _⟩ := id h
  have hn := hW.1
  have hB : (rbM M 0).1 0 60 16 = nI n := by rw [rb60]; exact hM.1
  rcases guest_e a1 hn with ⟨g, hg, rfl, c1, c2⟩ | ⟨c1, c2⟩
  · rcases below_e a2 8 7 8 (b := 7) (by decide) rfl rfl rfl rfl with ⟨w, hw, rfl, d1, d2⟩ | ⟨d1, d2⟩
    · refine smB h (x2 := fun N => x_X11_work N _ _) (wkT T g (nI w)) ?_ ?_
      · unfold x_X10_work; rw [c1 M 0 hC.1, d1]; show Option.bind (x_X1_workFor M 0 (nI g) (nI w)) _ = _; rw [C_wk (M := M) (c := 0) hC hW hg]; rfl
      · show x_X11_work _ _ _ = _
        unfold x_X11_work; rw [c2 M hM.1, d2]; show Option.bind (x_X11_workBy M (nI g) (nI w)) _ = _; rw [M_wk (M := M) hM hW hg]; rfl
    · refine rfB h (x2 := fun N => x_X11_work N _ _) 0 (by decide) (-2) ?_ ?_
      · unfold x_X10_work; rw [c1 M 0 hC.1, d1]; rfl
      · show x_X11_work _ _ _ = _
        unfold x_X11_work; rw [c2 _ hB, d2]; rfl
  · refine rfB h (x2 := fun N => x_X11_work N _ _) 0 (by decide) (-2) ?_ ?_
    · unfold x_X10_work; rw [c1 M 0 hC.1]; rfl
    · show x_X11_work _ _ _ = _
      unfold x_X11_work; rw [c2 _ hB]; rfl
theorem st_status {M} (h : INV M) (a1 : Int32) : ∃ r1 r2, x_X10_status M a1 = some r1 ∧ x_X11_status r1.2 a1 = some r2 ∧ r1.1 = r2.1 ∧ INV r2.2 := by
  rcases below_e a1 3 2 3 (b := 2) (by decide) rfl rfl rfl rfl with ⟨w, hw, rfl, d1, d2⟩ | ⟨d1, d2⟩
  · have g1 : gin (nI w) 3 := gin_n hw (by omega)
    have e1 : (nI w).toNatClampNeg = w := nI_clamp (by omega)
    refine smB h (x2 := fun N => x_X11_status N _) (M.1 0 50 w) ?_ ?_
    · unfold x_X10_status; rw [d1]; simp only [gd_i g1, e1]; rfl
    · show x_X11_status _ _ = _
      unfold x_X11_status; rw [d2]; simp only [gd_i g1, e1]; rw [h.2.2.2.1 w hw]; rfl
  · refine rfB h (x2 := fun N => x_X11_status N _) 0 (by decide) (-1) ?_ ?_
    · unfold x_X10_status; rw [d1]; rfl
    · show x_X11_status _ _ = _
      unfold x_X11_status; rw [d2]; rfl
theorem st_part {M} (h : INV M) (a1 : Int32) : ∃ r1 r2, x_X10_part M a1 = some r1 ∧ x_X11_part r1.2 a1 = some r2 ∧ r1.1 = r2.1 ∧ INV r2.2 := by
  by_cases e0 : a1 = 0
  · refine smB h (x2 := fun N => x_X11_part N _) (M.2 34 7) ?_ ?_
    · unfold x_X10_part; rw [if_pos e0]
    · show x_X11_part _ _ = _
      unfold x_X11_part; rw [if_pos e0, h.2.2.2.2.1.1]
  · by_cases e1 : a1 = 1
    · refine smB h (x2 := fun N => x_X11_part N _) (M.2 34 8) ?_ ?_
      · unfold x_X10_part; rw [if_neg e0, if_pos e1]
      · show x_X11_part _ _ = _
        unfold x_X11_part; rw [if_neg e0, if_pos e1, h.2.2.2.2.1.2]
    · refine rfB h (x2 := fun N => x_X11_part N _) 0 (by decide) (Int32.toInt64 (-2)) ?_ ?_
      · unfold x_X10_part; rw [if_neg e0, if_neg e1]; rfl
      · show x_X11_part _ _ = _
        unfold x_X11_part; rw [if_neg e0, if_neg e1]; rfl
theorem st_clear {M} (h : INV M) : ∃ r1 r2, x_X10_clear M = some r1 ∧ x_X11_clear r1.2 = some r2 ∧ r1.1 = r2.1 ∧ INV r2.2 := by
  obtain ⟨hh, ⟨i0, i1⟩, ⟨t, ht, t1, t2, t3⟩, r, l, s⟩ := h
  have q : ∀ c o, ¬ (c = 0 ∧ (o = 36 ∨ o = 59)) → (gwr (gwr M 0 36 1 0) 0 59 5 0).1 c o = M.1 c o := fun c o n => (gwr_o (by omega)).trans (gwr_o (by omega))
  refine ⟨_, _, rfl, rfl, ?_, ?_⟩
  · show M.1 0 36 1 = (gwr M 0 36 1 0).1 0 59 5
    rw [gwr_o (by omega), t1, t2]
  show INV (gwr (gwr M 0 36 1 0) 0 59 5 0)
  refine ⟨hh.congr (fun o _ => q _ _ ?_) (q _ _ ?_) (q _ _ ?_) ?_, ⟨i0.congr (fun o _ => q _ _ ?_) (q _ _ ?_) (q _ _ ?_) (q _ _ ?_) (q _ _ ?_) (q _ _ ?_), i1.congr (fun o _ => q _ _ ?_) (q _ _ ?_) (q _ _ ?_) (q _ _ ?_) (q _ _ ?_) (q _ _ ?_)⟩, ?_, ?_, ?_, ?_⟩
  all_goals try omega
  · rw [gwr_k _ _ _ _ (by decide), gwr_o (by omega)]
  · refine ⟨0, by omega, ?_, ?_, fun k hk => absurd hk (Nat.not_lt_zero k)⟩
    · rw [gwr_o (by omega), gwr_j]; rfl
    · rw [gwr_j]; rfl
  · unfold RFR; rw [q 0 50 (by omega), q 0 61 (by omega)]; exact r
  · exact l
  · unfold SLR; rw [q 1 0 (by omega)]; exact s
theorem st_type {M} (h : INV M) (a1 : Int32) : ∃ r1 r2, x_X10_type M a1 = some r1 ∧ x_X11_type r1.2 a1 = some r2 ∧ r1.1 = r2.1 ∧ INV r2.2 := by
  obtain ⟨hh, ⟨i0, i1⟩, ⟨t, ht, t1, t2, t3⟩, r, l, s⟩ := id h
  rcases below_e a1 128 127 128 (b := 127) (by decide) rfl rfl rfl rfl with ⟨w, hw, rfl, d1, d2⟩ | ⟨d1, d2⟩
  · by_cases e : t = 150
    · subst e
      refine rfB h (x2 := fun N => x_X11_type N _) 2 (by decide) (-4) ?_ ?_
      · unfold x_X10_type; rw [d1, t1]; rfl
      · show x_X11_type _ _ = _
        have t2' : (rbM M 2).1 0 59 5 = nI 150 := by rw [gwr_o (by omega)]; exact t2
        unfold x_X11_type; rw [d2, t2']; rfl
    · have g1 : gin (nI t) 150 := gin_n (by omega) (by omega)
      have c1 : (nI t).toNatClampNeg = t := nI_clamp (by omega)
      have t2' : (gwr (gwr M 0 37 t (nI w)) 0 36 1 (nI (t + 1))).1 0 59 5 = nI t := by rw [gwr_o (by omega), gwr_o (by omega)]; exact t2
      have v1 : (gwr M 0 37 t (nI w)).1 0 36 1 = nI t := by rw [gwr_o (by omega)]; exact t1
      have v2 : (gwr (gwr (gwr M 0 37 t (nI w)) 0 36 1 (nI (t + 1))) 0 62 t (nI w)).1 0 59 5 = nI t := by rw [gwr_o (by omega)]; exact t2'
      refine ⟨(nI (t + 1), gwr (gwr M 0 37 t (nI w)) 0 36 1 (nI (t + 1))), (nI (t + 1), gwr (gwr (gwr (gwr M 0 37 t (nI w)) 0 36 1 (nI (t + 1))) 0 62 t (nI w)) 0 59 5 (nI (t + 1))), ?_, ?_, rfl, ?_⟩
      · unfold x_X10_type; rw [d1]
        show (if M.1 0 36 1 < 150 then Option.bind (x_X9_append M (nI w)) _ else _) = _
        have p1 : nI t < 150 := show nI t < nI 150 from by rw [nI_ltI (by omega) (by omega)]; omega
        rw [t1, if_pos p1]
        unfold x_X9_append
        rw [t1]
        simp only [gd_i g1, c1, v1, nI_1, gwr_j]
        rfl
      · show x_X11_type (gwr (gwr M 0 37 t (nI w)) 0 36 1 (nI (t + 1))) _ = _
        unfold x_X11_type; rw [d2]
        show (if (gwr (gwr M 0 37 t (nI w)) 0 36 1 (nI (t + 1))).1 0 59 5 = 150 then _ else _) = _
        have p1 : ¬ nI t = 150 := show ¬ nI t = nI 150 from nI_ne (by omega) (by omega) e
        rw [t2', if_neg p1]
        simp only [gd_i g1, c1, v2, nI_1, gwr_j]
      · show INV (gwr (gwr (gwr (gwr M 0 37 t (nI w)) 0 36 1 (nI (t + 1))) 0 62 t (nI w)) 0 59 5 (nI (t + 1)))
        have q : ∀ c o, ¬ (c = 0 ∧ (o = 36 ∨ o = 37 ∨ o = 59 ∨ o = 62)) → (gwr (gwr (gwr (gwr M 0 37 t (nI w)) 0 36 1 (nI (t + 1))) 0 62 t (nI w)) 0 59 5 (nI (t + 1))).1 c o = M.1 c o := fun c o n => (gwr_o (by omega)).trans ((gwr_o (by omega)).trans ((gwr_o (by omega)).trans (gwr_o (by omega))))
        refine ⟨hh.congr (fun o _ => q _ _ ?_) (q _ _ ?_) (q _ _ ?_) ?_, ⟨i0.congr (fun o _ => q _ _ ?_) (q _ _ ?_) (q _ _ ?_) (q _ _ ?_) (q _ _ ?_) (q _ _ ?_), i1.congr (fun o _ => q _ _ ?_) (q _ _ ?_) (q _ _ ?_) (q _ _ ?_) (q _ _ ?_) (q _ _ ?_)⟩, ?_, ?_, ?_, ?_⟩
        all_goals try omega
        · rw [gwr_k _ _ _ _ (by decide), gwr_o (by omega), gwr_o (by omega), gwr_o (by omega)]
        · refine ⟨t + 1, by omega, ?_, ?_, fun k hk => ?_⟩
          · rw [gwr_o (by omega), gwr_o (by omega), gwr_j]
          · rw [gwr_j]
          · have f37 : (gwr (gwr (gwr (gwr M 0 37 t (nI w)) 0 36 1 (nI (t + 1))) 0 62 t (nI w)) 0 59 5 (nI (t + 1))).1 0 37 = upd (M.1 0 37) t (nI w) := by rw [gwr_o (by omega), gwr_o (by omega), gwr_o (by omega), gwr_s]
            have f62 : (gwr (gwr (gwr (gwr M 0 37 t (nI w)) 0 36 1 (nI (t + 1))) 0 62 t (nI w)) 0 59 5 (nI (t + 1))).1 0 62 = upd (M.1 0 62) t (nI w) := by rw [gwr_o (by omega), gwr_s, gwr_o (by omega), gwr_o (by omega)]
            rw [f37, f62]
            by_cases ek : k = t
            · subst ek; rw [pk_us, pk_us]; exact ⟨rfl, w, hw, rfl⟩
            · rw [pk_un ek, pk_un ek]; exact t3 k (by omega)
        · unfold RFR; rw [q 0 50 (by omega), q 0 61 (by omega)]; exact r
        · exact l
        · unfold SLR; rw [q 1 0 (by omega)]; exact s
  · refine rfB h (x2 := fun N => x_X11_type N _) 0 (by decide) (-2) ?_ ?_
    · unfold x_X10_type; rw [d1]; rfl
    · show x_X11_type _ _ = _
      unfold x_X11_type; rw [d2]; rfl
end ST
