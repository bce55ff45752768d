section ST10
def pS (T : Nat → Nat → Int32) (w g : Nat) : Bool := !(decide (g ≠ w) && csv T g w)
variable {M : gMem} {n : Nat} {T : Nat → Nat → Int32}
theorem C_isv (h : HC M 0 n T) (hW : WFT n T) {w : Nat} (hw : w < n) : x_X1_isServable M 0 (nI w) = some (b2i (!allB (pS T w) n)) := by
  have hn := hW.1
  obtain ⟨r, hr, hq⟩ := itr_inv (step := fun s => s_X1_isServable_2 M 0 (nI w) s) (s := 0) (fun i s => i ≤ n ∧ s = nI i ∧ allB (pS T w) i = true) (fun r => Sum.elim (fun _ => some (0 : Int32)) (fun z => some z) r = some (b2i (!allB (pS T w) n))) n (by omega) ⟨by omega, rfl, rfl⟩ (by
    rintro i s ⟨hi, rfl, ha⟩
    unfold s_X1_isServable_2 j_X1_isServable_2_26
    by_cases e : i = n
    · subst e
      rw [h.1, if_pos (by rw [nI_leI (by omega) (by omega)]; omega)]
      refine Or.inl ⟨_, rfl, ?_⟩
      show some 0 = _
      rw [ha]; rfl
    · rw [h.1, if_neg (by rw [nI_leI (by omega) (by omega)]; omega)]
      by_cases ew : i = w
      · subst ew
        rw [if_pos rfl]
        refine Or.inr ⟨by omega, _, rfl, by omega, nI_1 i, ?_⟩
        unfold allB
        rw [ha, Bool.true_and]
        unfold pS
        simp
      · rw [if_neg (nI_ne (by omega) (by omega) ew), C_can h hW (by omega) hw]
        show (∃ r, (if b2i (csv T i w) = 0 then some (Sum.inl (nI i + 1)) else some (Sum.inr (Sum.inr 1))) = some (Sum.inr r) ∧ _) ∨ (i < n ∧ ∃ s', (if b2i (csv T i w) = 0 then some (Sum.inl (nI i + 1)) else some (Sum.inr (Sum.inr 1))) = some (Sum.inl s') ∧ _)
        cases ec : csv T i w
        · refine Or.inr ⟨by omega, _, rfl, by omega, nI_1 i, ?_⟩
          unfold allB
          rw [ha, Bool.true_and]
          unfold pS
          rw [ec]; simp
        · refine Or.inl ⟨_, rfl, ?_⟩
          show some 1 = _
          rw [allB_f (i := i) (by unfold pS; rw [ec]; simp [ew]) n (by omega)]; rfl)
  unfold x_X1_isServable
  exact (bindS hr).trans hq
theorem st_lone {M} (h : INV M) : ∃ r1 r2, x_X10_lone M = some r1 ∧ x_X11_lone M = some r2 ∧ r1 = r2 ∧ INV M := by
  obtain ⟨⟨n, T, m, u, sl, ⟨hW, hC, hM, hh, hd⟩, hN, hU⟩, _⟩ := id h
  have hn := hW.1
  have hC1 : M.1 0 0 13 = nI n := hC.1
  have hM1 : M.1 0 60 16 = nI n := hM.1
  let p : Nat → Bool := fun w => allB (pS T w) n
  refine ⟨wS p n, wS p n, ?_, ?_, rfl, h⟩
  · unfold x_X10_lone
    refine (bindS (itr_tr (fun i => (wS p i, nI i)) n (wS p n, nI n) rfl (by omega) (fun i hi => ?_) ?_)).trans rfl
    · dsimp only
      unfold s_X10_lone_4 j_X10_lone_4_32
      rw [hC1, if_neg (by rw [nI_leI (by omega) (by omega)]; omega), C_isv hC hW hi, nI_1]
      show (if b2i (!p i) = 0 then _ else _) = some (Sum.inl (if p i = true then wS p i ||| (1 <<< (nI i &&& 31)) else wS p i, nI (i + 1)))
      cases p i <;> rfl
    · dsimp only
      unfold s_X10_lone_4
      rw [hC1, if_pos (by rw [nI_leI (by omega) (by omega)]; omega)]
  · unfold x_X11_lone
    refine (bindS (itr_tr (fun i => (wS p i, nI i)) n (wS p n, nI n) rfl (by omega) (fun w hw => ?_) ?_)).trans rfl
    · dsimp only
      unfold s_X11_lone_4 j_X11_lone_4_70
      rw [hM1, if_neg (by rw [nI_leI (by omega) (by omega)]; omega)]
      have inner : itr FU (fun s => s_X11_lone_20 M (wS p w) (nI w) s.1 s.2) (0, 0) = some (b2i (!p w), nI n) := by
        refine itr_tr (fun i => (b2i (!allB (pS T w) i), nI i)) n (b2i (!p w), nI n) rfl (by omega) (fun i hi => ?_) ?_
        · dsimp only
          unfold s_X11_lone_20 j_X11_lone_20_46 j_X11_lone_20_51
          rw [hM1, if_neg (by rw [nI_leI (by omega) (by omega)]; omega), M_can hM hW hi hw, nI_1]
          show (if b2i (!allB (pS T w) i) = 0 then (if b2i (decide (i ≠ w) && csv T i w) = 0 then some (Sum.inl (0, nI (i + 1))) else some (Sum.inl (1, nI (i + 1)))) else some (Sum.inl (1, nI (i + 1)))) = some (Sum.inl (b2i (!(allB (pS T w) i && !(decide (i ≠ w) && csv T i w))), nI (i + 1)))
          cases allB (pS T w) i <;> cases (decide (i ≠ w) && csv T i w) <;> rfl
        · dsimp only
          unfold s_X11_lone_20
          rw [hM1, if_pos (by rw [nI_leI (by omega) (by omega)]; omega)]
      rw [inner]
      show (if b2i (!p w) = 0 then some (Sum.inl (wS p w ||| (1 <<< (nI w &&& 31)), nI w + 1)) else some (Sum.inl (wS p w ||| 0, nI w + 1))) = some (Sum.inl (if p w = true then wS p w ||| (1 <<< (nI w &&& 31)) else wS p w, nI (w + 1)))
      rw [nI_1, Int32.or_zero]
      cases p w <;> rfl
    · dsimp only
      unfold s_X11_lone_4
      rw [hM1, if_pos (by rw [nI_leI (by omega) (by omega)]; omega)]
theorem cnt_e {M} (h : INV M) {j : Nat} (hj : j < 7) : ∃ v, x_X10_countOf M (nI j) = some v ∧ x_X11_countOf M (nI j) = some v := by
  obtain ⟨⟨n, T, m, u, sl, ⟨hW, hC, hM, hh, hd⟩, hN, hU⟩, _, ⟨t, ht, t1, t2, t3⟩, _⟩ := id h
  have hjj : j = 0 ∨ j = 1 ∨ j = 2 ∨ j = 3 ∨ j = 4 ∨ j = 5 ∨ j = 6 := by omega
  rcases hjj with rfl | rfl | rfl | rfl | rfl | rfl | rfl
  · exact ⟨M.1 0 0 13, rfl, by rw [hC.1, ← hM.1]; rfl⟩
  · exact ⟨M.1 0 0 14, rfl, by rw [hh]; rfl⟩
  · exact ⟨M.1 0 0 15, rfl, by rw [hd]; rfl⟩
  · refine ⟨nI (cN (isS n T) n), ?_, ?_⟩
    · show Option.bind (x_X1_servedCount M 0) _ = _; rw [C_sc (M := M) (c := 0) hC hW]; rfl
    · show Option.bind (x_X11_servedMany M) _ = _; rw [M_sc (M := M) hM hW]; rfl
  · exact ⟨M.1 0 6 1, rfl, by rw [hN.2.1, ← hN.2.2.1]; rfl⟩
  · exact ⟨M.1 0 0 12, rfl, by rw [hU.2.2.1, ← hU.2.2.2.1]; rfl⟩
  · exact ⟨M.1 0 36 1, rfl, by rw [t1, ← t2]; rfl⟩
/-- 31 b + x, over and over -/
def dg (f : Nat → Int32) (b : Int64) : Nat → Int64
  | 0 => b
  | i + 1 => 31 * dg f b i + (f i).toInt64
theorem st_digest {M} (h : INV M) : ∃ r1 r2, x_X10_digest M = some r1 ∧ x_X11_digest M = some r2 ∧ r1 = r2 ∧ INV M := by
  obtain ⟨⟨n, T, m, u, sl, ⟨hW, hC, hM, hh, hd⟩, ⟨m6, m1, m2, m3⟩, hU⟩, _⟩ := id h
  have hn := hW.1
  have hC1 : M.1 0 0 13 = nI n := hC.1
  have hM1 : M.1 0 60 16 = nI n := hM.1
  obtain ⟨x1, x2, e1, e2, ex⟩ := itr_rel (s1 := fun s : Int64 × Int32 => s_X10_digest_6 M s.1 s.2) (s2 := fun s : Int64 × Int32 => s_X11_digest_6 M s.1 s.2) (a := ((1097 : Int64), (0 : Int32))) (b := ((1097 : Int64), (0 : Int32))) (fun i x y => i ≤ 7 ∧ x = y ∧ x.2 = nI i) (fun x y => x = y) 7 (by omega) ⟨by omega, rfl, rfl⟩ (by
    rintro i ⟨b1, b2⟩ y ⟨hi, rfl, rfl⟩
    dsimp only
    unfold s_X10_digest_6 s_X11_digest_6
    by_cases e : i = 7
    · subst e
      exact Or.inl ⟨_, _, rfl, rfl, rfl⟩
    · have p1 : ¬ (7 : Int32) ≤ nI i := show ¬ nI 7 ≤ nI i from by rw [nI_leI (by omega) (by omega)]; omega
      obtain ⟨v, v1, v2⟩ := cnt_e h (show i < 7 by omega)
      rw [if_neg p1, if_neg p1, v1, v2]
      exact Or.inr ⟨by omega, _, _, rfl, rfl, by omega, rfl, nI_1 i⟩)
  subst ex
  obtain ⟨y1, y2, g1, g2, gx⟩ := itr_rel (s1 := fun s : Int64 × Int32 => s_X1_addGuestsTo_5 M 0 s.1 s.2) (s2 := fun s : Int64 × Int32 => s_X11_digest_33 M s.1 s.2) (a := (x1.1, (0 : Int32))) (b := (x1.1, (0 : Int32))) (fun i x y => i ≤ n ∧ x = y ∧ x.2 = nI i) (fun x y => x = y) n (by omega) ⟨by omega, rfl, rfl⟩ (by
    rintro i ⟨b1, b2⟩ y ⟨hi, rfl, rfl⟩
    dsimp only
    unfold s_X1_addGuestsTo_5 s_X11_digest_33
    rw [hC1, hM1]
    by_cases e : i = n
    · subst e
      rw [if_pos (by rw [nI_leI (by omega) (by omega)]; omega)]
      exact Or.inl ⟨_, _, rfl, if_pos (by rw [nI_leI (by omega) (by omega)]; omega), rfl⟩
    · have p1 : ¬ nI n ≤ nI i := by rw [nI_leI (by omega) (by omega)]; omega
      have ga : gin (nI i) 7 := gin_n (by omega) (by omega)
      have ca : (nI i).toNatClampNeg = i := nI_clamp (by omega)
      have gk : ∀ k, k < 40 → gin (nI (k + i)) 70 := fun k hk => gin_n (by omega) (by omega)
      have ck : ∀ k, k < 40 → (nI (k + i)).toNatClampNeg = k + i := fun k hk => nI_clamp (by omega)
      have a17 : (17 : Int32) + nI i = nI (17 + i) := nI_add 17 i
      have a24 : (24 : Int32) + nI i = nI (24 + i) := nI_add 24 i
      have a31 : (31 : Int32) + nI i = nI (31 + i) := nI_add 31 i
      have a2 : (2 : Int32) + nI i = nI (2 + i) := nI_add 2 i
      have a9 : (9 : Int32) + nI i = nI (9 + i) := nI_add 9 i
      rw [if_neg p1, if_neg p1]
      simp only [a17, a24, a31, a2, a9, gd_i ga, ca, gd_i (gk 17 (by decide)), gd_i (gk 24 (by decide)), gd_i (gk 31 (by decide)), gd_i (gk 2 (by decide)), gd_i (gk 9 (by decide)), ck 17 (by decide), ck 24 (by decide), ck 31 (by decide), ck 2 (by decide), ck 9 (by decide)]
      obtain ⟨q1, q2, q3, q4, q5⟩ := hC.2 i (by omega)
      obtain ⟨z1, z2, z3, z4, z5⟩ := hM.2 i (by omega)
      rw [q1, q2, q3, q4, q5, z1, z2, z3, z4, z5]
      exact Or.inr ⟨by omega, _, _, rfl, rfl, by omega, rfl, nI_1 i⟩)
  subst gx
  let f : Nat → Int32 := fun x => M.1 0 60 (39 + x)
  have h1 : itr FU (fun s => s_X3_addTo_5 M 0 s.1 s.2) (y1.1, 0) = some (dg f y1.1 (5 * m), nI m) := by
    refine itr_tr (fun i => (dg f y1.1 (5 * i), nI i)) m (dg f y1.1 (5 * m), nI m) rfl (by omega) (fun i hi => ?_) ?_
    · dsimp only
      unfold s_X3_addTo_5
      rw [m1, if_neg (by rw [nI_leI (by omega) (by omega)]; omega)]
      have inner : itr FU (fun s => s_X3_addTo_17 M 0 (nI i) s.1 s.2) (dg f y1.1 (5 * i), 0) = some (dg f y1.1 (5 * i + 5), nI 5) := by
        refine itr_tr (fun j => (dg f y1.1 (5 * i + j), nI j)) 5 (dg f y1.1 (5 * i + 5), nI 5) rfl (by omega) (fun j hj => ?_) rfl
        dsimp only
        unfold s_X3_addTo_17
        have p1 : ¬ (5 : Int32) ≤ nI j := show ¬ nI 5 ≤ nI j from by rw [nI_leI (by omega) (by omega)]; omega
        have ga : gin (nI i) 6 := gin_n (by omega) (by omega)
        have ca : (nI i).toNatClampNeg = i := nI_clamp (by omega)
        have gb : gin (nI j) 5 := gin_n (by omega) (by omega)
        have cb : (nI j).toNatClampNeg = j := nI_clamp (by omega)
        rw [if_neg p1, gd_i ga, gd_i gb, ca, cb, m3 i hi j hj, nI_1]
        rfl
      rw [inner, show 5 * (i + 1) = 5 * i + 5 by omega]
      show some (Sum.inl (dg f y1.1 (5 * i + 5), nI i + 1)) = _
      rw [nI_1]
    · dsimp only
      unfold s_X3_addTo_5
      rw [m1, if_pos (by rw [nI_leI (by omega) (by omega)]; omega)]
  have h2 : itr FU (fun s => s_X11_digest_136 M s.1 s.2) (y1.1, 0) = some (dg f y1.1 (5 * m), nI (5 * m)) := by
    have a5 : (5 : Int32) * nI m = nI (5 * m) := by
      have : ∀ v, v < 7 → (5 : Int32) * nI v = nI (5 * v) := by decide +kernel
      exact this m (by omega)
    refine itr_tr (fun i => (dg f y1.1 i, nI i)) (5 * m) (dg f y1.1 (5 * m), nI (5 * m)) rfl (by omega) (fun i hi => ?_) ?_
    · dsimp only
      unfold s_X11_digest_136
      rw [m2, a5, if_neg (by rw [nI_leI (by omega) (by omega)]; omega), show (39 : Int32) + nI i = nI (39 + i) from nI_add 39 i, gd_i (gin_n (by omega) (by omega)), nI_clamp (by omega), nI_1]
      rfl
    · dsimp only
      unfold s_X11_digest_136
      rw [m2, a5, if_pos (by rw [nI_leI (by omega) (by omega)]; omega)]
  have hl := h.2.2.2.2.1
  refine ⟨31 * (31 * dg f y1.1 (5 * m) + M.2 34 7) + M.2 34 8, 31 * (31 * dg f y1.1 (5 * m) + M.2 59 1) + M.2 59 2, ?_, ?_, by rw [hl.1, hl.2], h⟩
  · unfold x_X10_digest
    refine (bindS e1).trans ((bindS (a := y1.1) ?_).trans ((bindS (a := dg f y1.1 (5 * m)) ?_).trans rfl))
    · unfold x_X1_addGuestsTo; exact (bindS g1).trans rfl
    · unfold x_X3_addTo; exact (bindS h1).trans rfl
  · unfold x_X11_digest
    exact (bindS e2).trans ((bindS g2).trans ((bindS h2).trans rfl))
end ST10
