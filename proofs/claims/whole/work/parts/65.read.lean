section RD5
variable {t : Nat} {b : Nat → Nat}
theorem DTY {A B : gMem} {p g : Nat} {sl : Int32} {does : Bool} (hA : tkA A b t p) (hB : tkB B b t p) (a : HA A g sl) (h : HB does A B g) (hg : g ≤ 7) (M : gMem) (q : Int32) : IRES b t p sl does A B (x_X9_parseDuty A 1) (Option.bind (x_X11_reads B 0 ((B.1 0 59 12) - 1)) (fun v16 => (if v16.1 = 0 then j_X11_readItem_212 M q (b2i does) v16.2 else Option.bind (x_X11_reads v16.2 1 ((v16.2.1 0 59 12) - 1)) (fun v20 => (if v20.1 = 0 then j_X11_readItem_212 M q (b2i does) v20.2 else (if (v20.2.1 0 63 0) = (v20.2.1 0 63 1) then j_X11_readItem_212 M q (b2i does) v20.2 else j_X11_readItem_213 M q (b2i does) v20.2 1)))))) := by
  have hpt : p ≤ t := hB.2.2.2.2.2
  obtain ⟨n11, n12, _⟩ := np_b (b := b) hpt
  obtain ⟨n21, n22, _⟩ := np_b (b := b) n12
  obtain ⟨n31, n32, _⟩ := np_b (b := b) n22
  have bad : ∀ N, j_X11_readItem_212 M q (b2i does) N = some (0, N) := by
    intro N
    unfold j_X11_readItem_212 j_X11_readItem_213
    rw [if_pos rfl]
  obtain ⟨A1, a1, a2, a3⟩ := C_stn hA (lim := g) (by omega)
  obtain ⟨B1, b1, b2, b3, b4, b5, b6⟩ := M_rds hB (a := 0) (lim := g) (by omega) (by omega) (q := B.1 0 59 12 - 1) (by rw [h.1])
  have b1' : x_X11_reads B 0 (B.1 0 59 12 - 1) = some (b2i (isN b t (np b t p) g), B1) := b1
  have F1 : FB does B B1 := ⟨b6.mono (fun c o z => ⟨z.1, by omega⟩), fun _ => b5 14 (by decide) (by decide) (by decide) (by decide)⟩
  have fa : ∀ {X Y : gMem}, fr P36 X Y → fr FAp X Y := fun f => f.mono (fun c o z => Or.inl z)
  unfold x_X9_parseDuty
  rw [a.1, bindS a1, bindS b1']
  cases e1 : isN b t (np b t p) g
  · rw [if_pos (show b2i false = 0 from rfl), if_pos (show b2i false = 0 from rfl), bad]
    exact ⟨false, A1, _, np b t p, rfl, rfl, a2, b2, n11, fa a3, F1, by rw [a3.2 1 0 (by omega)]; exact a.2.2.2.2.2, fun z => (by cases z)⟩
  rw [if_neg (show ¬ b2i true = 0 by decide), if_neg (show ¬ b2i true = 0 by decide)]
  have A1g : A1.1 1 0 13 = nI g := by rw [a3.2 1 0 (by omega)]; exact a.1
  have B1g : B1.1 0 59 12 = nI g := by rw [b5 12 (by decide) (by decide) (by decide) (by decide)]; exact h.1
  obtain ⟨A2, c1, c2, c3⟩ := C_stn a2 (lim := g) (by omega)
  obtain ⟨B2, d1, d2, d3, d4, d5, d6⟩ := M_rds b2 (a := 1) (lim := g) (by omega) (by omega) (q := B1.1 0 59 12 - 1) (by rw [B1g])
  have d1' : x_X11_reads B1 1 (B1.1 0 59 12 - 1) = some (b2i (isN b t (np b t (np b t p)) g), B2) := d1
  have F2 : FB does B1 B2 := ⟨d6.mono (fun c o z => ⟨z.1, by omega⟩), fun _ => d5 14 (by decide) (by decide) (by decide) (by decide)⟩
  have f2 : fr P36 A A2 := a3.tr c3
  have A20 : A2.1 1 0 11 = sl := by rw [f2.2 1 0 (by omega)]; exact a.2.2.2.2.2
  dsimp only
  rw [A1g, bindS c1, bindS d1']
  cases e2 : isN b t (np b t (np b t p)) g
  · rw [if_pos (show b2i false = 0 from rfl), if_pos (show b2i false = 0 from rfl), bad]
    exact ⟨false, A2, _, np b t (np b t p), rfl, rfl, c2, d2, by omega, fa f2, F1.tr F2, A20, fun z => (by cases z)⟩
  rw [if_neg (show ¬ b2i true = 0 by decide), if_neg (show ¬ b2i true = 0 by decide)]
  unfold isN at e1 e2
  simp only [Bool.and_eq_true, decide_eq_true_eq] at e1 e2
  have v1e : A1.1 0 36 5 = nI (tv b t (np b t p)) := a2.2.2.2.1 e1.1
  have v2e : A2.1 0 36 5 = nI (tv b t (np b t (np b t p))) := c2.2.2.2.1 e2.1
  have c630 : B2.1 0 63 0 = nI (tv b t (np b t p)) := by rw [d4 0 (by decide)]; exact b3 e1.1
  have c631 : B2.1 0 63 1 = nI (tv b t (np b t (np b t p))) := d3 e2.1
  dsimp only
  rw [v1e, v2e, c630, c631]
  by_cases e3 : tv b t (np b t (np b t p)) = tv b t (np b t p)
  · rw [if_pos (by rw [e3]), if_pos (by rw [e3]), bad]
    exact ⟨false, A2, _, np b t (np b t p), rfl, rfl, c2, d2, by omega, fa f2, F1.tr F2, A20, fun z => (by cases z)⟩
  · rw [if_neg (nI_ne (by omega) (by omega) e3), if_neg (nI_ne (by omega) (by omega) (fun z => e3 z.symm)), gd_i (gin_n (by omega) (by omega)), nI_clamp (by omega)]
    obtain ⟨x, hx⟩ : ∃ x, x = tv b t (np b t p) := ⟨_, rfl⟩
    obtain ⟨y, hy⟩ : ∃ y, y = tv b t (np b t (np b t p)) := ⟨_, rfl⟩
    rw [← hx, ← hy]
    rw [← hx] at e1 e3 c630
    rw [← hy] at e2 e3 c631
    obtain ⟨A3, hA3⟩ : ∃ A3, A3 = gwr A2 1 4 x (nI y) := ⟨_, rfl⟩
    obtain ⟨B3, hB3⟩ : ∃ B3, B3 = (if does = true then gwr B2 0 60 (2 + x) (nI y) else B2) := ⟨_, rfl⟩
    have f3 : fr FAp A A3 := by rw [hA3]; exact (fa f2).wr (Or.inr ⟨rfl, by omega⟩)
    have B3o : ∀ o, o ≠ 60 → B3.1 0 o = B2.1 0 o := fun o ho => by
      rw [hB3]
      split
      · rw [gwr_o (by omega)]
      · rfl
    have F3 : FB does B2 B3 := by
      refine ⟨?_, fun _ => by rw [B3o 59 (by omega)]⟩
      rw [hB3]
      split
      · rename_i z; exact fr.rf.wr ⟨rfl, Or.inr (Or.inr ⟨z, rfl⟩)⟩
      · exact fr.rf
    have tA3 : tkA A3 b t (np b t (np b t p)) := c2.cg (by rw [hA3, gwr_o (by omega)]) (by rw [hA3, gwr_o (by omega)])
    have tB3 : tkB B3 b t (np b t (np b t p)) := d2.cg (fun j _ _ => by rw [B3o 59 (by omega)]) (B3o 62 (by omega))
    obtain ⟨A4, g1, g2, g3⟩ := C_sts tA3
    obtain ⟨B4, h1, h2, h3, h4⟩ := M_next tB3
    have hk := tk_5 b t (np b t (np b t (np b t p)))
    have F4 : FB does B3 B4 := ⟨h4.mono (fun c o z => ⟨z.1, by omega⟩), fun _ => h3 14 (by decide) (by decide) (by decide) (by decide)⟩
    have j243 : j_X11_readItem_243 M q (b2i does) B3 = some (b2i (decide (tk b t (np b t (np b t (np b t p))) = 3)), B4) := by
      unfold j_X11_readItem_243
      rw [bindS h1, h2.2.2.1]
      by_cases e : tk b t (np b t (np b t (np b t p))) = 3
      · rw [if_pos ((srf_1 hk).2.1.mpr e)]; simp [e, b2i]
      · rw [if_neg (fun z => e ((srf_1 hk).2.1.mp z))]; simp [e, b2i]
    have j213 : j_X11_readItem_213 M q (b2i does) B2 1 = some (b2i (decide (tk b t (np b t (np b t (np b t p))) = 3)), B4) := by
      unfold j_X11_readItem_213
      rw [if_neg (show ¬ (1 : Int32) = 0 by decide)]
      cases does with
      | false =>
        rw [if_pos (show b2i false = 0 from rfl), ← j243, hB3, if_neg (by decide)]
      | true =>
        rw [if_neg (show ¬ b2i true = 0 by decide), c630, c631, show (2 : Int32) + nI x = nI (2 + x) from nI_add 2 x, gd_i (gin_n (by omega) (by omega)), nI_clamp (by omega), ← j243, hB3, if_pos rfl]
    obtain ⟨f, hf⟩ : ∃ f, f = decide (tk b t (np b t (np b t (np b t p))) = 3) := ⟨_, rfl⟩
    rw [← hf] at g1 j213
    rw [j213, ← hA3, bindS g1]
    dsimp only
    have A3c : ∀ o, o ≠ 4 → A3.1 1 o = A.1 1 o := fun o ho => by rw [hA3, gwr_o (by omega), f2.2 1 o (by omega)]
    have ha4 : HA A4 g sl := a.cg (by rw [g3.2 1 0 (by omega), A3c 0 (by omega)]) (by rw [g3.2 1 6 (by omega), A3c 6 (by omega)])
    refine ⟨f, A4, B4, np b t (np b t (np b t p)), rfl, rfl, g2, h2, by omega, f3.tr (fa g3), ((F1.tr F2).tr F3).tr F4, ha4.2.2.2.2.2, fun z => ⟨of_decide_eq_true (hf ▸ z), g, hg, ha4, ?_⟩⟩
    refine ⟨by rw [h3 12 (by decide) (by decide) (by decide) (by decide), B3o 59 (by omega), d5 12 (by decide) (by decide) (by decide) (by decide)]; exact B1g, fun dz => ?_⟩
    obtain ⟨w1, w2, w3, w4, w5⟩ := h.2 dz
    have hT2 : HT g A2 B2 := w1.cg (fun o _ => f2.2 1 o (by omega)) (by rw [d6.2 0 60 (by omega), b6.2 0 60 (by omega)])
    have hT3 : HT g A3 B3 := by
      rw [hA3, hB3, if_pos dz]
      exact hT2.duty e1.2 (Or.inr ⟨y, e2.2, e3, rfl⟩)
    have hT4 : HT g A4 B4 := hT3.cg (fun o _ => g3.2 1 o (by omega)) (h4.2 0 60 (by omega))
    have c60 : ∀ j, j ≠ 2 + x → B4.1 0 60 j = B.1 0 60 j := fun j hj => by
      rw [h4.2 0 60 (by omega), hB3, if_pos dz, gwr_k _ _ _ _ hj, d6.2 0 60 (by omega), b6.2 0 60 (by omega)]
    exact ⟨hT4, by rw [c60 0 (by omega)]; exact w2, by rw [c60 1 (by omega)]; exact w3, by rw [c60 38 (by omega)]; exact w4, by rw [h3 14 (by decide) (by decide) (by decide) (by decide), B3o 59 (by omega), d5 14 (by decide) (by decide) (by decide) (by decide), b5 14 (by decide) (by decide) (by decide) (by decide)]; exact w5⟩
theorem ITM {A B : gMem} {p g : Nat} {sl : Int32} {does : Bool} (hA : tkA A b t p) (hB : tkB B b t p) (a : HA A g sl) (h : HB does A B g) (hg : g ≤ 7) {q : Int32} (hq : ¬ q = 0) : IRES b t p sl does A B (x_X9_parseItem A 1) (x_X11_readItem B q (b2i does)) := by
  have iw1 : x_X11_isWord B 103 117 101 115 116 = some (b2i (wdB b t p 5 (sch 1))) := M_isw hB (sch 1) (Or.inl ⟨rfl, by decide⟩)
  have iw2 : x_X11_isWord B 100 117 116 121 0 = some (b2i (wdB b t p 4 (sch 2))) := M_isw hB (sch 2) (Or.inr ⟨rfl, by decide⟩)
  have cw1 : x_X9_isWord A 1 = some (b2i (wdB b t p 5 (sch 1))) := C_isw hA (w := 1) (by omega)
  have cw2 : x_X9_isWord A 2 = some (b2i (wdB b t p 4 (sch 2))) := C_isw hA (w := 2) (by omega)
  have same : ∀ x : Option (Int32 × gMem), (∃ f N, x = some (b2i f, N)) → Option.bind x (fun v9 => (if v9.1 = 0 then some ((0 : Int32), v9.2) else some (1, v9.2))) = x := by
    rintro x ⟨f, N, rfl⟩
    cases f <;> rfl
  unfold x_X9_parseItem x_X11_readItem
  rw [if_neg hq, bindS cw1, bindS iw1]
  cases e1 : wdB b t p 5 (sch 1)
  · rw [if_pos (show b2i false = 0 from rfl), if_pos (show b2i false = 0 from rfl), bindS cw2, bindS iw2]
    cases e2 : wdB b t p 4 (sch 2)
    · rw [if_pos (show b2i false = 0 from rfl), if_pos (show b2i false = 0 from rfl)]
      refine ⟨false, A, B, p, rfl, ?_, hA, hB, Nat.le_refl _, fr.rf, FB.rf, a.2.2.2.2.2, fun z => (by cases z)⟩
      unfold j_X11_readItem_212 j_X11_readItem_213
      rw [if_pos rfl]
      rfl
    · rw [if_neg (show ¬ b2i true = 0 by decide), if_neg (show ¬ b2i true = 0 by decide)]
      have R := DTY hA hB a h hg B q
      rw [same _ (by obtain ⟨f, A', _, _, z, _⟩ := R; exact ⟨f, A', z⟩)]
      exact R
  · rw [if_neg (show ¬ b2i true = 0 by decide), if_neg (show ¬ b2i true = 0 by decide), a.1, h.1]
    by_cases e7 : g = 7
    · subst e7
      rw [if_pos (by decide), if_pos (by decide)]
      refine ⟨false, A, gwr B 0 59 12 (B.1 0 59 12 + 1), p, rfl, ?_, hA, hB.cg (fun j _ _ => gwr_k _ _ _ _ (by omega)) (gwr_o (by omega)), Nat.le_refl _, fr.rf, ⟨fr.rf.wr ⟨rfl, by omega⟩, fun _ => gwr_k _ _ _ _ (by decide)⟩, a.2.2.2.2.2, fun z => (by cases z)⟩
      unfold j_X11_readItem_107 j_X11_readItem_108
      rw [if_pos rfl, gd_i (Or.inl rfl)]
      rfl
    · have p7 : ¬ (7 : Int32) ≤ nI g := show ¬ nI 7 ≤ nI g from by rw [nI_leI (by omega) (by omega)]; omega
      rw [if_neg p7, if_neg p7]
      have R := GST hA hB a h (by omega) B q
      rw [same _ (by obtain ⟨f, A', _, _, z, _⟩ := R; exact ⟨f, A', z⟩)]
      exact R
end RD5
