section ST8
abbrev HR2 (A B : gMem) : Prop := HRel (A.1 0) (B.1 0 60) (B.1 0 64) (B.1 0 59 14)
abbrev PC (c o : Nat) : Prop := c = 0 ∧ o < 34
abbrev PM (c o : Nat) : Prop := c = 0 ∧ (o = 59 ∨ o = 60 ∨ o = 64)
theorem STEP {A B : gMem} (H : HR2 A B) : ∃ A' B', x_X1_remember A 0 = some A' ∧ x_X11_noteStep B = some B' ∧ HR2 A' B' ∧ fr PC A A' ∧ fr PM B B' ∧ B'.1 0 59 5 = B.1 0 59 5 ∧ (∀ o, 0 < o → o < 15 → A'.1 0 o = A.1 0 o) ∧ (∀ j, j ≠ 11 → j ≠ 12 → A'.1 0 0 j = A.1 0 0 j) ∧ B'.1 0 60 = B.1 0 60 := by
  obtain ⟨n, T, m, u, sl, ⟨hW, hC, hM, hh, hd⟩, hN, ⟨hu, hsl, u1, u2, u3, hP⟩⟩ := H
  have hn := hW.1
  obtain ⟨A', a1, a2, a3, a4, a5, a6, a7⟩ := C_rem (M := A) (c := 0) hsl u3 hu u1
  obtain ⟨B', b1, b2, b3, b4, b5⟩ := M_ns (M := B) hu u2
  have ao : ∀ o, 0 < o → o < 15 → A'.1 0 o = A.1 0 o := fun o h1 h2 => a7.2 0 o (by omega)
  have a0 : ∀ j, j ≠ 11 → j ≠ 12 → A'.1 0 0 j = A.1 0 0 j := fun j h1 h2 => by rw [a2, pk_un h2, pk_un h1]
  have b60 : B'.1 0 60 = B.1 0 60 := b5.2 0 60 (by omega)
  refine ⟨A', B', a1, b1, ⟨n, T, m, if u = 8 then 8 else u + 1, (sl + 1) % 8, ⟨hW, ?_, ?_, ?_, ?_⟩, ?_, ⟨by split <;> omega, by omega, ?_, ?_, ?_, fun k hk => ?_⟩⟩, a7.mono (fun c o r => ⟨r.1, by omega⟩), b5.mono (fun c o r => ⟨r.1, by omega⟩), by rw [b2, pk_un (by decide)], ao, a0, b60⟩
  · rw [a0 13 (by decide) (by decide), ao 1 (by omega) (by omega), ao 2 (by omega) (by omega), ao 3 (by omega) (by omega), ao 4 (by omega) (by omega), ao 5 (by omega) (by omega)]; exact hC
  · rw [b60]; exact hM
  · rw [a0 14 (by decide) (by decide), b60]; exact hh
  · rw [a0 15 (by decide) (by decide), b60]; exact hd
  · exact hN.congr (fun o h1 h2 => ao o (by omega) (by omega)) (fun j _ => by rw [b60])
  · rw [a2, pk_us]
  · rw [b2, pk_us]
  · rw [a2, pk_un (by decide), pk_us]
  · have last : ∀ k, k = (if u = 8 then 7 else u) → PASTR (A'.1 0) (B'.1 0 64) n sl k := by
      intro k ek
      subst ek
      refine ⟨?_, ?_, fun g hg => ⟨?_, ?_, ?_⟩⟩
      · have := b4 0 (by omega); rw [Nat.add_zero] at this; rw [this, a6, pk_us]; exact hh.symm
      · rw [b4 1 (by omega), a5, pk_us]; exact hd.symm
      · rw [b4 (2 + g) (by omega), a3 g (by omega), (hM.2 g hg).2.2.2.1]; exact (hC.2 g hg).2.2.2.1.symm
      · rw [b4 (9 + g) (by omega), a4 g (by omega), (hM.2 g hg).2.2.2.2]; exact (hC.2 g hg).2.2.2.2.symm
      · rw [a3 g (by omega), show A.1 0 4 g = T 4 g from (hC.2 g hg).2.2.2.1]; exact (hW.2 g hg).2.2
    have old : ∀ k x k0, x < 8 → x ≠ sl → PASTR (A.1 0) (B.1 0 64) n x k0 → (∀ j, j < 16 → B'.1 0 64 (16 * k + j) = B.1 0 64 (16 * k0 + j)) → PASTR (A'.1 0) (B'.1 0 64) n x k := by
      intro k x k0 hx hxs ⟨p1, p2, p3⟩ hb
      have b0 := hb 0 (by omega)
      rw [Nat.add_zero, Nat.add_zero] at b0
      refine ⟨?_, ?_, fun g hg => ?_⟩
      · rw [b0, a6, pk_un hxs]; exact p1
      · rw [hb 1 (by omega), a5, pk_un hxs]; exact p2
      · rw [hb (2 + g) (by omega), hb (9 + g) (by omega), a7.2 0 (15 + x) (by omega), a7.2 0 (24 + x) (by omega)]; exact p3 g hg
    by_cases e8 : u = 8
    · subst e8
      rw [if_pos rfl] at hk
      by_cases e7 : k = 7
      · have := last k (by rw [if_pos rfl]; exact e7)
        have ex : ((sl + 1) % 8 + 8 - (if 8 = 8 then 8 else 8 + 1) + k) % 8 = sl := by rw [if_pos rfl]; omega
        rw [ex]; exact this
      · have ex : ((sl + 1) % 8 + 8 - (if 8 = 8 then 8 else 8 + 1) + k) % 8 = (sl + 8 - 8 + (k + 1)) % 8 := by rw [if_pos rfl]; omega
        rw [ex]
        refine old k _ (k + 1) (Nat.mod_lt _ (by omega)) (by omega) (hP (k + 1) (by omega)) (fun j hj => ?_)
        have := b3 k j hj (by rw [if_pos rfl]; omega)
        rw [if_pos rfl] at this
        exact this
    · rw [if_neg e8] at hk
      by_cases e7 : k = u
      · have := last k (by rw [if_neg e8]; exact e7)
        have ex : ((sl + 1) % 8 + 8 - (if u = 8 then 8 else u + 1) + k) % 8 = sl := by rw [if_neg e8]; omega
        rw [ex]; exact this
      · have ex : ((sl + 1) % 8 + 8 - (if u = 8 then 8 else u + 1) + k) % 8 = (sl + 8 - u + k) % 8 := by rw [if_neg e8]; omega
        rw [ex]
        refine old k _ k (Nat.mod_lt _ (by omega)) (by omega) (hP k (by omega)) (fun j hj => ?_)
        have := b3 k j hj (by rw [if_neg e8]; omega)
        rw [if_neg e8] at this
        exact this
theorem PASS {A B : gMem} (H : HR2 A B) : ∃ A' B', x_X1_passHour A 0 = some A' ∧ x_X11_oneHour B = some B' ∧ HR2 A' B' ∧ fr PC A A' ∧ fr PM B B' ∧ B'.1 0 59 5 = B.1 0 59 5 := by
  obtain ⟨n, T, m, u, sl, ⟨hW, hC, hM, hh, hd⟩, hN, hU⟩ := H
  obtain ⟨A', a1, a2, a3, a4, a5, a5', a6⟩ := C_pass (M := A) (c := 0) hC hW
  obtain ⟨B', b1, b2, b3, b4, b5, b6⟩ := M_pass (M := B) hM hW
  have ao : ∀ o, 5 < o → o < 34 → A'.1 0 o = A.1 0 o := fun o h1 h2 => a6.2 0 o (by omega)
  have hh' : A.1 0 0 14 = B.1 0 60 0 := hh
  have hd' : A.1 0 0 15 = B.1 0 60 1 := hd
  refine ⟨A', B', a1, b1, ⟨n, _, m, u, sl, ⟨TT_WFT hW, a2, b2, ?_, ?_⟩, ?_, ?_⟩, a6.mono (fun c o r => ⟨r.1, by omega⟩), b6.mono (fun c o r => ⟨r.1, by omega⟩), by rw [b6.2 0 59 (by omega)]⟩
  · rw [a3, b3, hh']
  · rw [a4, b4, hh', hd']
  · exact hN.congr (fun o h1 h2 => ao o (by omega) (by omega)) (fun j hj => b5 j (by omega))
  · exact hU.congr hW.1 (fun o h1 h2 => ao o (by omega) (by omega)) a5 a5' (fun j => by rw [b6.2 0 64 (by omega)]) (by rw [b6.2 0 59 (by omega)])
theorem HRUN {A B : gMem} (H : HR2 A B) {k : Nat} (hk : k ≤ 60) : ∃ r1 r2, itr FU (fun s => s_X10_hour_20 (nI k) s.1 s.2) (0, A) = some r1 ∧ itr FU (fun s => s_X11_hour_19 (nI k) s.1 s.2) (0, B) = some r2 ∧ HR2 r1.2 r2.2 ∧ fr PC A r1.2 ∧ fr PM B r2.2 ∧ r2.2.1 0 59 5 = B.1 0 59 5 := by
  refine itr_rel (s1 := fun s : Int32 × gMem => s_X10_hour_20 (nI k) s.1 s.2) (s2 := fun s : Int32 × gMem => s_X11_hour_19 (nI k) s.1 s.2) (fun i (x : Int32 × gMem) (y : Int32 × gMem) => i ≤ k ∧ x.1 = nI i ∧ y.1 = nI i ∧ HR2 x.2 y.2 ∧ fr PC A x.2 ∧ fr PM B y.2 ∧ y.2.1 0 59 5 = B.1 0 59 5) (fun (r1 : Int32 × gMem) (r2 : Int32 × gMem) => HR2 r1.2 r2.2 ∧ fr PC A r1.2 ∧ fr PM B r2.2 ∧ r2.2.1 0 59 5 = B.1 0 59 5) k (by omega) ⟨by omega, rfl, rfl, H, fr.rf, fr.rf, rfl⟩ ?_
  rintro i ⟨x1, X⟩ ⟨y1, Y⟩ ⟨hi, rfl, rfl, h1, h2, h3, h4⟩
  dsimp only at *
  unfold s_X10_hour_20 s_X11_hour_19
  by_cases e : i = k
  · subst e
    rw [if_pos (by rw [nI_leI (by omega) (by omega)]; omega), if_pos (by rw [nI_leI (by omega) (by omega)]; omega)]
    exact Or.inl ⟨_, _, rfl, rfl, h1, h2, h3, h4⟩
  · rw [if_neg (by rw [nI_leI (by omega) (by omega)]; omega), if_neg (by rw [nI_leI (by omega) (by omega)]; omega)]
    obtain ⟨X1, Y1, p1, p2, p3, p4, p5, p6, _⟩ := STEP h1
    obtain ⟨X2, Y2, q1, q2, q3, q4, q5, q6⟩ := PASS p3
    rw [p1, p2]
    show _ ∨ (i < k ∧ ∃ a' b', Option.bind (x_X1_passHour X1 0) _ = _ ∧ Option.bind (x_X11_oneHour Y1) _ = _ ∧ _)
    rw [q1, q2]
    exact Or.inr ⟨by omega, _, _, rfl, rfl, by omega, nI_1 i, nI_1 i, q3, (h2.tr p4).tr q4, (h3.tr p5).tr q5, q6.trans (p6.trans h4)⟩
theorem HR2.fr2 {A B A' B' : gMem} (H : HR2 A B) (h1 : ∀ o, o < 34 → A'.1 0 o = A.1 0 o) (h2 : B'.1 0 60 = B.1 0 60) (h3 : B'.1 0 64 = B.1 0 64) (h4 : B'.1 0 59 14 = B.1 0 59 14) : HR2 A' B' := HRel.congr H h1 h2 h3 h4
/-- the class went to A, then the reference to B -/
theorem INV.two {M A B : gMem} (h : INV M) (fA : fr PC M A) (fB : fr PM A B) (h5 : B.1 0 59 5 = A.1 0 59 5) (H : HR2 A B) : INV B :=
  h.mv ((fA.mono (fun c o r => ⟨r.1, by omega⟩)).tr (fB.mono (fun c o r => ⟨r.1, by omega⟩))) (by rw [h5, fA.2 0 59 (by omega)]) (H.fr2 (fun o ho => fB.2 0 o (by omega)) rfl rfl rfl)
theorem INV.on {M A : gMem} (h : INV M) (fA : fr PC M A) : HR2 M A := HR2.fr2 (A := M) (B := M) h.1 (fun _ _ => rfl) (fA.2 _ _ (by omega)) (fA.2 _ _ (by omega)) (by rw [fA.2 0 59 (by omega)])
theorem hour_e (a1 : Int32) : (∃ k, k ≤ 60 ∧ 1 ≤ k ∧ a1 = nI k ∧ ¬ a1 < 1 ∧ a1 ≤ 60 ∧ x_X11_in a1.toInt64 1 60 = some 1) ∨ ((a1 < 1 ∨ ¬ a1 ≤ 60) ∧ x_X11_in a1.toInt64 1 60 = some 0) := by
  rw [in_e a1 1 60 (a := 1) (b := 60) (by decide) (by decide)]
  by_cases h0 : a1 < 1
  · rw [if_pos h0]; exact Or.inr ⟨Or.inl h0, rfl⟩
  · rw [if_neg h0]
    by_cases h1 : (60 : Int32) < a1
    · rw [if_pos h1]
      refine Or.inr ⟨Or.inr ?_, rfl⟩
      rw [i32_lt] at h1; rw [i32_le]; omega
    · rw [if_neg h1]
      have h2 : a1 ≤ 60 := by rw [i32_lt] at h1; rw [i32_le]; omega
      have e1 : (1 : Int32).toInt = 1 := rfl
      have e0 : (0 : Int32).toInt = 0 := rfl
      have e60 : (60 : Int32).toInt = 60 := rfl
      have h3 : ¬ a1 < 0 := by rw [i32_lt] at h0 ⊢; omega
      obtain ⟨j, hj, rfl⟩ := nI_of h3
      have h2' := h2
      have h0' := h0
      rw [i32_le, nI_toInt hj] at h2'
      rw [i32_lt, nI_toInt hj] at h0'
      exact Or.inl ⟨j, by omega, by omega, rfl, h0, h2, rfl⟩
theorem st_hour {M} (h : INV M) (a1 : Int32) : ∃ r1 r2, x_X10_hour M a1 = some r1 ∧ x_X11_hour r1.2 a1 = some r2 ∧ r1.1 = r2.1 ∧ INV r2.2 := by
  rcases hour_e a1 with ⟨k, hk, _, rfl, c1, c2, c3⟩ | ⟨c1, c3⟩
  · obtain ⟨r1, _, e1, _, _, f1, _, _⟩ := HRUN (A := M) (B := M) h.1 hk
    obtain ⟨r1', r2, e1', e2, H, _, f2, h5⟩ := HRUN (A := M) (B := r1.2) (h.on f1) hk
    rw [e1] at e1'
    have ee := Option.some.inj e1'
    subst ee
    refine ⟨(r1.2.1 0 0 15, r1.2), (r2.2.1 0 60 1, r2.2), ?_, ?_, ?_, ?_⟩
    · unfold x_X10_hour; rw [if_neg c1, if_pos c2]; exact (bindS e1).trans rfl
    · show x_X11_hour r1.2 _ = _
      unfold x_X11_hour; rw [c3]; exact (bindS e2).trans rfl
    · obtain ⟨_, _, _, _, _, ⟨_, _, _, _, hd⟩, _, _⟩ := H
      exact hd
    · exact h.two f1 f2 h5 H
  · refine rfB h (x2 := fun N => x_X11_hour N _) 0 (by decide) (-2) ?_ ?_
    · unfold x_X10_hour
      by_cases q : a1 < 1
      · rw [if_pos q]; rfl
      · rw [if_neg q, if_neg (by rcases c1 with c | c; exact absurd c q; exact c)]; rfl
    · show x_X11_hour _ _ = _
      unfold x_X11_hour; rw [c3]; rfl
end ST8
