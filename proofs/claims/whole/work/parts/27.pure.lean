section ST3
variable {M : gMem}
theorem M_anew (M : gMem) : ∃ N, x_X11_anew M = some N ∧ (∀ k, k < 70 → N.1 0 60 k = 0) ∧ N.1 0 59 = upd (M.1 0 59) 14 0 ∧ fr (fun c o => c = 0 ∧ (o = 59 ∨ o = 60)) M N := by
  obtain ⟨e, he, e1, e2⟩ := itr_inv (step := fun s => s_X11_anew_2 s.1 s.2) (s := (0, M)) (fun i s => i ≤ 70 ∧ s.1 = nI i ∧ (∀ k, k < i → s.2.1 0 60 k = 0) ∧ fr (fun c o => c = 0 ∧ o = 60) M s.2) (fun r => (∀ k, k < 70 → r.2.1 0 60 k = 0) ∧ fr (fun c o => c = 0 ∧ o = 60) M r.2) 70 (by omega) ⟨by omega, rfl, fun k hk => absurd hk (Nat.not_lt_zero k), fr.rf⟩ (by
    rintro i ⟨b1, N⟩ ⟨hi, rfl, hz, hf⟩
    dsimp only at *
    unfold s_X11_anew_2
    by_cases e : i = 70
    · subst e
      exact Or.inl ⟨(nI 70, N), rfl, hz, hf⟩
    · have p1 : ¬ (70 : Int32) ≤ nI i := show ¬ nI 70 ≤ nI i from by rw [nI_leI (by omega) (by omega)]; omega
      have g1 : gin (nI i) 70 := gin_n (by omega) (by omega)
      have c1 : (nI i).toNatClampNeg = i := nI_clamp (by omega)
      simp only [gd_i g1, c1]
      rw [if_neg p1]
      refine Or.inr ⟨by omega, _, rfl, by omega, nI_1 i, fun k hk => ?_, hf.wr ⟨rfl, rfl⟩⟩
      by_cases ek : k = i
      · subst ek; exact gwr_j _ _ _ _ _
      · exact (gwr_k _ _ _ _ ek).trans (hz k (by omega)))
  refine ⟨_, (bindS he).trans rfl, fun k hk => ?_, ?_, (e2.mono (fun c o q => ⟨q.1, Or.inr q.2⟩)).wr ⟨rfl, Or.inl rfl⟩⟩
  · rw [gwr_o (by omega)]; exact e1 k hk
  · rw [gwr_s, e2.2 0 59 (by omega)]
theorem st_house {M} (h : INV M) : ∃ r1 r2, x_X10_house M = some r1 ∧ x_X11_house r1.2 = some r2 ∧ r1.1 = r2.1 ∧ INV r2.2 := by
  obtain ⟨⟨n, T, m, u, sl, ⟨hW, hC, hM, hh, hd⟩, hN, hU⟩, _⟩ := id h
  let M1 := gwr (gwr (gwr (gwr (gwr M 0 0 13 0) 0 0 14 0) 0 0 15 0) 0 0 12 0) 0 6 1 0
  have f1 : fr (fun c o => c = 0 ∧ (o = 0 ∨ o = 6)) M M1 := ((((fr.rf.wr ⟨rfl, Or.inl rfl⟩).wr ⟨rfl, Or.inl rfl⟩).wr ⟨rfl, Or.inl rfl⟩).wr ⟨rfl, Or.inl rfl⟩).wr ⟨rfl, Or.inr rfl⟩
  obtain ⟨N, n1, n2, n3, n4⟩ := M_anew M1
  have k : ∀ c o, ¬ (c = 0 ∧ (o = 0 ∨ o = 6 ∨ o = 59 ∨ o = 60)) → N.1 c o = M.1 c o := fun c o q => (n4.2 c o (by omega)).trans (f1.2 c o (by omega))
  have z0 : M1.1 0 0 = upd (upd (upd (upd (M.1 0 0) 13 0) 14 0) 15 0) 12 0 := by
    show (gwr _ _ _ _ _).1 0 0 = _
    rw [gwr_o (by omega), gwr_s, gwr_s, gwr_s, gwr_s]
  have y0 : N.1 0 0 = M1.1 0 0 := n4.2 0 0 (by omega)
  have y6 : N.1 0 6 1 = 0 := by rw [n4.2 0 6 (by omega)]; exact gwr_j _ _ _ _ _
  refine ⟨(M.1 0 0 13, M1), (M1.1 0 60 16, N), rfl, ?_, ?_, ?_⟩
  · show Option.bind (x_X11_anew M1) _ = _
    rw [n1]; rfl
  · show M.1 0 0 13 = M1.1 0 60 16
    rw [f1.2 0 60 (by omega), hC.1, hM.1]
  · show INV N
    refine h.mv ((f1.mono (fun c o q => ⟨q.1, by omega⟩)).tr (n4.mono (fun c o q => ⟨q.1, by omega⟩))) ?_ ⟨0, fun _ _ => 0, 0, 0, sl, ⟨⟨by omega, fun g hg => absurd hg (Nat.not_lt_zero g)⟩, ⟨?_, fun g hg => absurd hg (Nat.not_lt_zero g)⟩, ⟨?_, fun g hg => absurd hg (Nat.not_lt_zero g)⟩, ?_, ?_⟩, ⟨by omega, ?_, ?_, fun g hg => absurd hg (Nat.not_lt_zero g)⟩, ⟨by omega, hU.2.1, ?_, ?_, ?_, fun g hg => absurd hg (Nat.not_lt_zero g)⟩⟩
    · rw [n3, pk_un (by decide), f1.2 0 59 (by omega)]
    · rw [y0, z0, pk_un (by decide), pk_un (by decide), pk_un (by decide), pk_us]; rfl
    · rw [n2 16 (by decide)]; rfl
    · rw [y0, z0, pk_un (by decide), pk_un (by decide), pk_us, n2 0 (by decide)]
    · rw [y0, z0, pk_un (by decide), pk_us, n2 1 (by decide)]
    · rw [y6]; rfl
    · rw [n2 38 (by decide)]; rfl
    · rw [y0, z0, pk_us]; rfl
    · rw [n3, pk_us]; rfl
    · rw [y0, z0, pk_un (by decide), pk_un (by decide), pk_un (by decide), pk_un (by decide)]; exact hU.2.2.2.2.1
/-- one guest more -/
def TA (T : Nat → Nat → Int32) (n : Nat) (p1 p2 p3 : Int32) : Nat → Nat → Int32 := fun o => upd (T o) n (if o = 1 then p1 else if o = 2 then p2 else if o = 3 then p3 else if o = 4 then -1 else 10)
theorem TA_W {T : Nat → Nat → Int32} {n : Nat} (hW : WFT n T) (hn : n < 7) {k w : Nat} (hk : k < 6) (hw : w < 8) {p3 : Int32} : WFT (n + 1) (TA T n (nI k) (nI w) p3) := by
  refine ⟨by omega, fun g hg => ?_⟩
  unfold TA
  by_cases e : g = n
  · subst e
    rw [pk_us, pk_us, pk_us]
    exact ⟨⟨k, hk, rfl⟩, ⟨w, hw, rfl⟩, Or.inl rfl⟩
  · rw [pk_un e, pk_un e, pk_un e]
    obtain ⟨a, b, c⟩ := hW.2 g (by omega)
    refine ⟨a, b, ?_⟩
    rcases c with c | ⟨d, d1, d2, d3⟩
    · exact Or.inl c
    · exact Or.inr ⟨d, by omega, d2, d3⟩
theorem upd_c {f f' : Nat → Int32} {n : Nat} {v : Int32} (h : ∀ g, g < n → f g = f' g) {g : Nat} (hg : g < n + 1) : upd f n v g = upd f' n v g := by
  by_cases e : g = n
  · subst e; rw [pk_us, pk_us]
  · rw [pk_un e, pk_un e]; exact h g (by omega)
theorem upd_s {f f' : Nat → Int32} {n b : Nat} {v : Int32} (h : ∀ g, g < n → f (b + g) = f' g) {g : Nat} (hg : g < n + 1) : upd f (b + n) v (b + g) = upd f' n v g := by
  by_cases e : g = n
  · subst e; rw [pk_us, pk_us]
  · rw [pk_un e, pk_un (by omega)]; exact h g (by omega)
theorem C_adm {c n : Nat} {T : Nat → Nat → Int32} (hC : HC M c n T) (hn : n < 7) (p1 p2 p3 : Int32) : ∃ N, x_X1_admit M c p1 p2 p3 = some (nI n, N) ∧ HC N c (n + 1) (TA T n p1 p2 p3) ∧ N.1 c 0 = upd (upd (M.1 c 0) 13 (nI (n + 1))) 12 0 ∧ fr (fun c' o => c' = c ∧ o < 6) M N := by
  have g1 : gin (nI n) 7 := gin_n (by omega) (by omega)
  have c1 : (nI n).toNatClampNeg = n := nI_clamp (by omega)
  let N1 := gwr (gwr (gwr (gwr (gwr M c 1 n p1) c 2 n p2) c 3 n p3) c 4 n (-1)) c 5 n 10
  have f1 : fr (fun c' o => c' = c ∧ o < 6) M N1 := ((((fr.rf.wr ⟨rfl, by omega⟩).wr ⟨rfl, by omega⟩).wr ⟨rfl, by omega⟩).wr ⟨rfl, by omega⟩).wr ⟨rfl, by omega⟩
  have z0 : N1.1 c 0 = M.1 c 0 := by
    show (gwr _ _ _ _ _).1 c 0 = _
    rw [gwr_o (by omega), gwr_o (by omega), gwr_o (by omega), gwr_o (by omega), gwr_o (by omega)]
  have z13 : N1.1 c 0 13 = nI n := by rw [z0]; exact hC.1
  let N := gwr (gwr N1 c 0 13 (nI (n + 1))) c 0 12 0
  have y0 : N.1 c 0 = upd (upd (M.1 c 0) 13 (nI (n + 1))) 12 0 := by
    show (gwr _ _ _ _ _).1 c 0 = _
    rw [gwr_s, gwr_s, z0]
  have yo : ∀ o, o ≠ 0 → N.1 c o = N1.1 c o := fun o ho => (gwr_o (by omega)).trans (gwr_o (by omega))
  have y1 : N.1 c 1 = upd (M.1 c 1) n p1 := (yo 1 (by decide)).trans (by show (gwr _ _ _ _ _).1 c 1 = _; rw [gwr_o (by omega), gwr_o (by omega), gwr_o (by omega), gwr_o (by omega), gwr_s])
  have y2 : N.1 c 2 = upd (M.1 c 2) n p2 := (yo 2 (by decide)).trans (by show (gwr _ _ _ _ _).1 c 2 = _; rw [gwr_o (by omega), gwr_o (by omega), gwr_o (by omega), gwr_s, gwr_o (by omega)])
  have y3 : N.1 c 3 = upd (M.1 c 3) n p3 := (yo 3 (by decide)).trans (by show (gwr _ _ _ _ _).1 c 3 = _; rw [gwr_o (by omega), gwr_o (by omega), gwr_s, gwr_o (by omega), gwr_o (by omega)])
  have y4 : N.1 c 4 = upd (M.1 c 4) n (-1) := (yo 4 (by decide)).trans (by show (gwr _ _ _ _ _).1 c 4 = _; rw [gwr_o (by omega), gwr_s, gwr_o (by omega), gwr_o (by omega), gwr_o (by omega)])
  have y5 : N.1 c 5 = upd (M.1 c 5) n 10 := (yo 5 (by decide)).trans (by show (gwr _ _ _ _ _).1 c 5 = _; rw [gwr_s, gwr_o (by omega), gwr_o (by omega), gwr_o (by omega), gwr_o (by omega)])
  refine ⟨N, ?_, ⟨?_, fun g hg => ?_⟩, y0, (f1.wr ⟨rfl, by omega⟩).wr ⟨rfl, by omega⟩⟩
  · unfold x_X1_admit
    rw [hC.1]
    simp only [gd_i g1, c1]
    show some (nI n, gwr (gwr N1 c 0 13 (N1.1 c 0 13 + 1)) c 0 12 0) = _
    rw [z13, nI_1]
  · rw [y0, pk_un (by decide), pk_us]
  · rw [y1, y2, y3, y4, y5]
    exact ⟨upd_c (fun g hg => (hC.2 g hg).1) hg, upd_c (fun g hg => (hC.2 g hg).2.1) hg, upd_c (fun g hg => (hC.2 g hg).2.2.1) hg, upd_c (fun g hg => (hC.2 g hg).2.2.2.1) hg, upd_c (fun g hg => (hC.2 g hg).2.2.2.2) hg⟩
theorem M_adm {n : Nat} {T : Nat → Nat → Int32} (hM : HM M n T) (hn : n < 7) (p1 p2 p3 : Int32) : ∃ N, x_X11_add M p1 p2 p3 = some N ∧ HM N (n + 1) (TA T n p1 p2 p3) ∧ (∀ j, (j < 2 ∨ 38 ≤ j) → N.1 0 60 j = M.1 0 60 j) ∧ fr (fun c' o => c' = 0 ∧ o = 60) M N := by
  have gk : ∀ k, k < 40 → gin (nI (k + n)) 70 := fun k hk => gin_n (by omega) (by omega)
  have ck : ∀ k, k < 40 → (nI (k + n)).toNatClampNeg = k + n := fun k hk => nI_clamp (by omega)
  let f := upd (upd (upd (upd (upd (M.1 0 60) (17 + n) p1) (24 + n) p2) (31 + n) p3) (2 + n) (-1)) (9 + n) 10
  let N1 := gwr (gwr (gwr (gwr (gwr M 0 60 (17 + n) p1) 0 60 (24 + n) p2) 0 60 (31 + n) p3) 0 60 (2 + n) (-1)) 0 60 (9 + n) 10
  have z : N1.1 0 60 = f := by show (gwr _ _ _ _ _).1 0 60 = _; rw [gwr_s, gwr_s, gwr_s, gwr_s, gwr_s]
  have z16 : N1.1 0 60 16 = nI n := by rw [z]; show upd (upd (upd (upd (upd (M.1 0 60) (17 + n) p1) (24 + n) p2) (31 + n) p3) (2 + n) (-1)) (9 + n) 10 16 = _; rw [pk_un (by omega), pk_un (by omega), pk_un (by omega), pk_un (by omega), pk_un (by omega)]; exact hM.1
  let N := gwr N1 0 60 16 (nI (n + 1))
  have y : N.1 0 60 = upd f 16 (nI (n + 1)) := by show (gwr _ _ _ _ _).1 0 60 = _; rw [gwr_s, z]
  refine ⟨N, ?_, ⟨?_, fun g hg => ?_⟩, fun j hj => ?_, (((((fr.rf.wr ⟨rfl, rfl⟩).wr ⟨rfl, rfl⟩).wr ⟨rfl, rfl⟩).wr ⟨rfl, rfl⟩).wr ⟨rfl, rfl⟩).wr ⟨rfl, rfl⟩⟩
  · unfold x_X11_add
    have a17 : (17 : Int32) + nI n = nI (17 + n) := nI_add 17 n
    have a24 : (24 : Int32) + nI n = nI (24 + n) := nI_add 24 n
    have a31 : (31 : Int32) + nI n = nI (31 + n) := nI_add 31 n
    have a2 : (2 : Int32) + nI n = nI (2 + n) := nI_add 2 n
    have a9 : (9 : Int32) + nI n = nI (9 + n) := nI_add 9 n
    rw [hM.1]
    simp only [a17, a24, a31, a2, a9, gd_i (gk 17 (by decide)), gd_i (gk 24 (by decide)), gd_i (gk 31 (by decide)), gd_i (gk 2 (by decide)), gd_i (gk 9 (by decide)), ck 17 (by decide), ck 24 (by decide), ck 31 (by decide), ck 2 (by decide), ck 9 (by decide)]
    show some (gwr N1 0 60 16 (N1.1 0 60 16 + 1)) = _
    rw [z16, nI_1]
  · rw [y, pk_us]
  · rw [y, pk_un (by omega), pk_un (by omega), pk_un (by omega), pk_un (by omega), pk_un (by omega)]
    show upd (upd (upd (upd (upd (M.1 0 60) (17 + n) p1) (24 + n) p2) (31 + n) p3) (2 + n) (-1)) (9 + n) 10 (17 + g) = _ ∧ upd (upd (upd (upd (upd (M.1 0 60) (17 + n) p1) (24 + n) p2) (31 + n) p3) (2 + n) (-1)) (9 + n) 10 (24 + g) = _ ∧ upd (upd (upd (upd (upd (M.1 0 60) (17 + n) p1) (24 + n) p2) (31 + n) p3) (2 + n) (-1)) (9 + n) 10 (31 + g) = _ ∧ upd (upd (upd (upd (upd (M.1 0 60) (17 + n) p1) (24 + n) p2) (31 + n) p3) (2 + n) (-1)) (9 + n) 10 (2 + g) = _ ∧ upd (upd (upd (upd (upd (M.1 0 60) (17 + n) p1) (24 + n) p2) (31 + n) p3) (2 + n) (-1)) (9 + n) 10 (9 + g) = _
    refine ⟨?_, ?_, ?_, ?_, ?_⟩
    · rw [pk_un (by omega), pk_un (by omega), pk_un (by omega), pk_un (by omega)]; exact upd_s (fun g hg => (hM.2 g hg).1) hg
    · rw [pk_un (by omega), pk_un (by omega), pk_un (by omega)]; exact upd_s (fun g hg => by rw [pk_un (by omega)]; exact (hM.2 g hg).2.1) hg
    · rw [pk_un (by omega), pk_un (by omega)]; exact upd_s (fun g hg => by rw [pk_un (by omega), pk_un (by omega)]; exact (hM.2 g hg).2.2.1) hg
    · rw [pk_un (by omega)]; exact upd_s (fun g hg => by rw [pk_un (by omega), pk_un (by omega), pk_un (by omega)]; exact (hM.2 g hg).2.2.2.1) hg
    · exact upd_s (fun g hg => by rw [pk_un (by omega), pk_un (by omega), pk_un (by omega), pk_un (by omega)]; exact (hM.2 g hg).2.2.2.2) hg
  · rw [y, pk_un (by omega)]
    show upd (upd (upd (upd (upd (M.1 0 60) (17 + n) p1) (24 + n) p2) (31 + n) p3) (2 + n) (-1)) (9 + n) 10 j = _
    rw [pk_un (by omega), pk_un (by omega), pk_un (by omega), pk_un (by omega), pk_un (by omega)]
end ST3
