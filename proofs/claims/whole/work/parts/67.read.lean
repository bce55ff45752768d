section RD7
theorem INV.rd {M N : gMem} (h : INV M) (f : fr (fun c o => (c = 1 ∧ o < 34) ∨ (c = 0 ∧ o = 36) ∨ HP c o) M N) (h1 : N.1 0 36 1 = M.1 0 36 1) (h5 : N.1 0 59 5 = M.1 0 59 5) (hs : ∃ sl, sl < 8 ∧ N.1 1 0 11 = nI sl) (hh : HRel (N.1 0) (N.1 0 60) (N.1 0 64) (N.1 0 59 14)) : INV N := by
  obtain ⟨_, ⟨i0, i1⟩, ⟨t, t1, t2, t3, t4⟩, r, l, s⟩ := h
  have k : ∀ c o, ¬ ((c = 1 ∧ o < 34) ∨ (c = 0 ∧ o = 36) ∨ HP c o) → N.1 c o = M.1 c o := f.2
  refine ⟨hh, ⟨i0.congr (fun o _ => k _ _ ?_) (k _ _ ?_) (k _ _ ?_) (k _ _ ?_) (k _ _ ?_) (k _ _ ?_), i1.congr (fun o _ => k _ _ ?_) (k _ _ ?_) (k _ _ ?_) (k _ _ ?_) (k _ _ ?_) (k _ _ ?_)⟩, ⟨t, t1, h1.trans t2, h5.trans t3, ?_⟩, ?_, ?_, hs⟩
  all_goals try (unfold HP; omega)
  · rw [k 0 37 (by unfold HP; omega), k 0 62 (by unfold HP; omega)]; exact t4
  · unfold RFR; rw [k 0 50 (by unfold HP; omega), k 0 61 (by unfold HP; omega)]; exact r
  · unfold LNR; rw [f.1]; exact l
theorem st_read {M} (h : INV M) : ∃ r1 r2, x_X10_read M = some r1 ∧ x_X11_read r1.2 = some r2 ∧ r1.1 = r2.1 ∧ INV r2.2 := by
  obtain ⟨hh, _, ⟨t, t1, t2, t3, t4⟩, _, _, ⟨sl, hsl, s1⟩⟩ := id h
  obtain ⟨b, hb⟩ : ∃ b : Nat → Nat, ∀ k, k < t → M.1 0 62 k = nI (b k) ∧ b k < 128 := by
    refine ⟨fun k => (M.1 0 62 k).toNatClampNeg, fun k hk => ?_⟩
    obtain ⟨_, c, hc, e⟩ := t4 k hk
    dsimp only
    rw [e, nI_clamp (by omega)]
    exact ⟨rfl, hc⟩
  have xA : TXA M t b := ⟨t1, t2, fun k hk => by rw [(t4 k hk).1]; exact hb k hk⟩
  have xB : ∀ N : gMem, N.1 0 59 5 = M.1 0 59 5 → N.1 0 62 = M.1 0 62 → TXB N t b := fun N e1 e2 => ⟨t1, e1.trans t3, by rw [e2]; exact hb⟩
  obtain ⟨v, A1, _, p1, _, q1, _, q3, q4, _, q6⟩ := PARSE false xA (xB M rfl rfl) s1
  have hv : v = -1 ∨ ∃ m, m < 200 ∧ v = nI m := by
    rcases q6 with z | ⟨m, g, z1, z2, _⟩
    · exact Or.inl z.1
    · exact Or.inr ⟨m, z1, z2⟩
  rcases hv with e | ⟨m, hm, e⟩
  · subst e
    obtain ⟨v', A1', B1, p1', p2, u1, u2, u3, u4, u5, u6⟩ := PARSE false xA (xB A1 (by rw [q1.2 0 59 (by omega)]) (q1.2 0 62 (by omega))) s1
    rw [p1] at p1'
    obtain ⟨e1, e2⟩ := Prod.mk.inj (Option.some.inj p1')
    subst e1; subst e2
    have hat : A1.1 0 36 2 = B1.1 0 59 9 := by
      rcases u6 with z | ⟨m, g, z1, z2, _⟩
      · exact z.2
      · exact absurd z2.symm (nI_nm1 (by omega))
    refine ⟨(-10 - A1.1 0 36 2, A1), (-10 - B1.1 0 59 9, B1), ?_, ?_, ?_, ?_⟩
    · unfold x_X10_read
      refine (bindS p1).trans ?_
      rw [if_pos rfl]
    · show x_X11_read A1 = _
      unfold x_X11_read
      refine (bindS p2).trans ?_
      rw [if_neg (show ¬ 0 ≤ (-1 : Int32) by decide)]
    · show -10 - A1.1 0 36 2 = -10 - B1.1 0 59 9
      rw [hat]
    · show INV B1
      have fF := u2.1
      have Bo : ∀ c o, ¬ (c = 0 ∧ (o = 59 ∨ o = 63)) → B1.1 c o = A1.1 c o := fun c o z => fF.2 c o (by simp; omega)
      refine h.rd ⟨fF.1.trans q1.1, fun c o z => ?_⟩ ?_ ?_ ⟨sl, hsl, ?_⟩ ?_
      · unfold HP at z
        rw [Bo c o (by omega), q1.2 c o (by omega)]
      · rw [Bo 0 36 (by omega), q4.2.1]; exact t2.symm
      · rw [u5.2.1]; exact t3.symm
      · rw [Bo 1 0 (by omega)]; exact q3
      · refine hh.congr (fun o ho => ?_) ?_ ?_ ?_
        · rw [Bo 0 o (by omega), q1.2 0 o (by omega)]
        · rw [Bo 0 60 (by omega), q1.2 0 60 (by omega)]
        · rw [Bo 0 64 (by omega), q1.2 0 64 (by omega)]
        · rw [u2.2 rfl, q1.2 0 59 (by omega)]
  · subst e
    have nm : ¬ nI m = -1 := nI_nm1 (by omega)
    obtain ⟨C, c1, ⟨y0, y1, y2, y3, y4⟩, c3⟩ := C_copy (M := A1) (c := 0) (d := 1) (by decide)
    have C59 : C.1 0 59 = M.1 0 59 := by rw [c3.2 0 59 (by omega), q1.2 0 59 (by omega)]
    have C62 : C.1 0 62 = M.1 0 62 := by rw [c3.2 0 62 (by omega), q1.2 0 62 (by omega)]
    obtain ⟨v', A1', B1, p1', p2, u1, u2, u3, u4, u5, u6⟩ := PARSE false xA (xB C (by rw [C59]) C62) s1
    rw [p1] at p1'
    obtain ⟨e1, e2⟩ := Prod.mk.inj (Option.some.inj p1')
    subst e1; subst e2
    have Bo : ∀ c o, ¬ (c = 0 ∧ (o = 59 ∨ o = 63)) → B1.1 c o = C.1 c o := fun c o z => u2.1.2 c o (by simp; omega)
    obtain ⟨v', A1', B2, p1', p3, w1, w2, w3, w4, w5, w6⟩ := PARSE true xA (xB B1 (by rw [u5.2.1]; exact t3.symm) (by rw [Bo 0 62 (by omega)]; exact C62)) s1
    rw [p1] at p1'
    obtain ⟨e1, e2⟩ := Prod.mk.inj (Option.some.inj p1')
    subst e1; subst e2
    have B2o : ∀ c o, ¬ (c = 0 ∧ (o = 59 ∨ o = 63 ∨ o = 60)) → B2.1 c o = B1.1 c o := fun c o z => w2.1.2 c o (by simp; omega)
    refine ⟨(nI m, C), (nI m, B2), ?_, ?_, rfl, ?_⟩
    · unfold x_X10_read
      refine (bindS p1).trans ?_
      rw [if_neg nm]
      exact (bindS c1).trans rfl
    · show x_X11_read C = _
      unfold x_X11_read
      refine (bindS p2).trans ?_
      rw [if_pos (nI_pos' (by omega))]
      exact (bindS p3).trans rfl
    · show INV B2
      have K : ∀ c o, ¬ (c = 0 ∧ (o = 59 ∨ o = 63 ∨ o = 60)) → B2.1 c o = C.1 c o := fun c o z => by rw [B2o c o z, Bo c o (by omega)]
      rcases w6 with z | ⟨m', g, z1, z2, hg, ha, hb2⟩
      · exact absurd z.1 nm
      · obtain ⟨⟨T, hW, hC, hM, h14, h15⟩, k0, k1, k38, k14⟩ := hb2.2 rfl
        obtain ⟨a1, a2, a3, a4, a5, a6⟩ := ha
        refine h.rd ⟨((w2.1.1.trans u2.1.1).trans c3.1).trans q1.1, fun c o z => ?_⟩ ?_ ?_ ⟨sl, hsl, ?_⟩ ?_
        · unfold HP at z
          rw [K c o (by omega), c3.2 c o (by omega), q1.2 c o (by omega)]
        · rw [K 0 36 (by omega), c3.2 0 36 (by omega), q4.2.1]; exact t2.symm
        · rw [w5.2.1]; exact t3.symm
        · rw [K 1 0 (by omega), c3.2 1 0 (by omega)]; exact q3
        · refine ⟨g, T, 0, 0, sl, ⟨hW, ⟨?_, fun i hi => ?_⟩, hM, ?_, ?_⟩, ⟨by omega, ?_, k38, fun i hi => absurd hi (Nat.not_lt_zero i)⟩, ⟨by omega, hsl, ?_, k14, ?_, fun i hi => absurd hi (Nat.not_lt_zero i)⟩⟩
          · rw [K 0 0 (by omega), y0 13 (by omega) (by omega)]; exact a1
          · rw [K 0 1 (by omega), K 0 2 (by omega), K 0 3 (by omega), K 0 4 (by omega), K 0 5 (by omega), y1 1 i (by omega) (by omega), y1 2 i (by omega) (by omega), y1 3 i (by omega) (by omega), y1 4 i (by omega) (by omega), y1 5 i (by omega) (by omega)]
            exact hC.2 i hi
          · rw [K 0 0 (by omega), y0 14 (by omega) (by omega)]; exact h14
          · rw [K 0 0 (by omega), y0 15 (by omega) (by omega)]; exact h15
          · rw [K 0 6 (by omega), y2]; exact a5
          · rw [K 0 0 (by omega), y0 12 (by omega) (by omega)]; exact a4
          · rw [K 0 0 (by omega), y0 11 (by omega) (by omega)]; exact a6
end RD7
