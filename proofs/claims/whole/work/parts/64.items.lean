section RD4
abbrev FAp (c o : Nat) : Prop := (c = 0 ∧ o = 36) ∨ (c = 1 ∧ o < 34)
def FB (does : Bool) (B0 B : gMem) : Prop := fr (fun c o => c = 0 ∧ (o = 59 ∨ o = 63 ∨ (does = true ∧ o = 60))) B0 B ∧ (does = false → B.1 0 59 14 = B0.1 0 59 14)
def HA (A : gMem) (g : Nat) (sl : Int32) : Prop := A.1 1 0 13 = nI g ∧ A.1 1 0 14 = 0 ∧ A.1 1 0 15 = 0 ∧ A.1 1 0 12 = 0 ∧ A.1 1 6 1 = 0 ∧ A.1 1 0 11 = sl
def HB (does : Bool) (A B : gMem) (g : Nat) : Prop := B.1 0 59 12 = nI g ∧ (does = true → HT g A B ∧ B.1 0 60 0 = 0 ∧ B.1 0 60 1 = 0 ∧ B.1 0 60 38 = 0 ∧ B.1 0 59 14 = 0)
theorem FB.rf {does : Bool} {B : gMem} : FB does B B := ⟨fr.rf, fun _ => rfl⟩
theorem FB.tr {does : Bool} {A B C : gMem} (h1 : FB does A B) (h2 : FB does B C) : FB does A C := ⟨h1.1.tr h2.1, fun q => (h2.2 q).trans (h1.2 q)⟩
theorem HT.cg {n : Nat} {A B A' B' : gMem} (h : HT n A B) (h1 : ∀ o, o < 6 → A'.1 1 o = A.1 1 o) (h2 : B'.1 0 60 = B.1 0 60) : HT n A' B' := by
  obtain ⟨T, hW, hC, hM, hh, hd⟩ := h
  refine ⟨T, hW, ?_, by unfold HM; rw [h2]; exact hM, by rw [h1 0 (by omega), h2]; exact hh, by rw [h1 0 (by omega), h2]; exact hd⟩
  unfold HC
  rw [h1 0 (by omega), h1 1 (by omega), h1 2 (by omega), h1 3 (by omega), h1 4 (by omega), h1 5 (by omega)]
  exact hC
theorem HA.cg {A A' : gMem} {g : Nat} {sl : Int32} (h : HA A g sl) (h0 : A'.1 1 0 = A.1 1 0) (h6 : A'.1 1 6 = A.1 1 6) : HA A' g sl := by
  unfold HA
  rw [h0, h6]
  exact h
theorem HB.cg {does : Bool} {A B A' B' : gMem} {g : Nat} (h : HB does A B g) (h1 : ∀ o, o < 6 → A'.1 1 o = A.1 1 o) (h2 : B'.1 0 60 = B.1 0 60) (h12 : B'.1 0 59 12 = B.1 0 59 12) (h14 : B'.1 0 59 14 = B.1 0 59 14) : HB does A' B' g := by
  refine ⟨h12.trans h.1, fun q => ?_⟩
  obtain ⟨x1, x2, x3, x4, x5⟩ := h.2 q
  exact ⟨x1.cg h1 h2, by rw [h2]; exact x2, by rw [h2]; exact x3, by rw [h2]; exact x4, h14.trans x5⟩
variable {t : Nat} {b : Nat → Nat}
theorem tkA.cg {A A' : gMem} {p : Nat} (h : tkA A b t p) (h1 : A'.1 0 36 = A.1 0 36) (h2 : A'.1 0 37 = A.1 0 37) : tkA A' b t p := by
  unfold tkA TXA
  rw [h1, h2]
  exact h
theorem tkB.cg {B B' : gMem} {p : Nat} (h : tkB B b t p) (h1 : ∀ j, 5 ≤ j → j < 10 → B'.1 0 59 j = B.1 0 59 j) (h2 : B'.1 0 62 = B.1 0 62) : tkB B' b t p := by
  unfold tkB TXB
  rw [h1 5 (by omega) (by omega), h1 6 (by omega) (by omega), h1 7 (by omega) (by omega), h1 8 (by omega) (by omega), h1 9 (by omega) (by omega), h2]
  exact h
theorem ADM {A B : gMem} {g : Nat} {sl : Int32} {does : Bool} (a : HA A g sl) (h : HB does A B g) (hg : g < 7) {k w : Nat} (hk : k < 6) (hw : w < 8) (s : Int32) : ∃ A' B', x_X1_admit A 1 (nI k) (nI w) s = some (nI g, A') ∧ (does = true → x_X11_add (gwr B 0 59 12 (nI (g + 1))) (nI k) (nI w) s = some B') ∧ (does = false → B' = gwr B 0 59 12 (nI (g + 1))) ∧ HA A' (g + 1) sl ∧ HB does A' B' (g + 1) ∧ fr (fun c o => c = 1 ∧ o < 6) A A' ∧ fr (fun c o => c = 0 ∧ (o = 59 ∨ (does = true ∧ o = 60))) B B' ∧ (∀ j, j ≠ 12 → B'.1 0 59 j = B.1 0 59 j) := by
  obtain ⟨K, hK⟩ : ∃ K, K = gwr B 0 59 12 (nI (g + 1)) := ⟨_, rfl⟩
  have K60 : K.1 0 60 = B.1 0 60 := by rw [hK, gwr_o (by omega)]
  have haf : ∀ A', A'.1 1 0 = upd (upd (A.1 1 0) 13 (nI (g + 1))) 12 0 → A'.1 1 6 = A.1 1 6 → HA A' (g + 1) sl := by
    intro A' h0 h6
    obtain ⟨a1, a2, a3, a4, a5, a6⟩ := a
    unfold HA
    rw [h0, h6, pk_un (by decide), pk_us, pk_un (by decide), pk_un (by decide), pk_un (by decide), pk_un (by decide), pk_us, pk_un (by decide), pk_un (by decide)]
    exact ⟨rfl, a2, a3, rfl, a5, a6⟩
  cases does with
  | false =>
    obtain ⟨A', x1, x2, x3, x4⟩ := C_adm (M := A) (c := 1) (n := g) (T := fun o k => A.1 1 o k) ⟨a.1, fun _ _ => ⟨rfl, rfl, rfl, rfl, rfl⟩⟩ hg (nI k) (nI w) s
    refine ⟨A', K, x1, fun q => (by cases q), fun _ => hK, haf A' x3 (x4.2 1 6 (by omega)), ⟨by rw [hK, gwr_j], fun q => (by cases q)⟩, x4, ?_, fun j hj => by rw [hK, gwr_k _ _ _ _ hj]⟩
    rw [hK]; exact fr.rf.wr ⟨rfl, by omega⟩
  | true =>
    obtain ⟨⟨T, hW, hC, hM, hh, hd⟩, z0, z1, z38, z14⟩ := h.2 rfl
    obtain ⟨A', x1, x2, x3, x4⟩ := C_adm hC hg (nI k) (nI w) s
    obtain ⟨B', y1, y2, y3, y4⟩ := M_adm (M := K) (n := g) (T := T) (by unfold HM; rw [K60]; exact hM) hg (nI k) (nI w) s
    have hA' := haf A' x3 (x4.2 1 6 (by omega))
    have B59 : B'.1 0 59 = K.1 0 59 := y4.2 0 59 (by omega)
    have B0 : B'.1 0 60 0 = 0 := by rw [y3 0 (by omega), K60]; exact z0
    have B1 : B'.1 0 60 1 = 0 := by rw [y3 1 (by omega), K60]; exact z1
    refine ⟨A', B', x1, fun _ => by rw [← hK]; exact y1, fun q => (by cases q), hA', ⟨by rw [B59, hK, gwr_j], fun _ => ⟨⟨_, TA_W hW hg hk hw, x2, y2, by rw [hA'.2.1, B0], by rw [hA'.2.2.1, B1]⟩, B0, B1, by rw [y3 38 (by omega), K60]; exact z38, by rw [B59, hK, gwr_k _ _ _ _ (by decide)]; exact z14⟩⟩, x4, ?_, fun j hj => by rw [B59, hK, gwr_k _ _ _ _ hj]⟩
    refine (show fr _ B K from ?_).tr (y4.mono (fun c o q => ⟨q.1, by simp [q.2]⟩))
    rw [hK]; exact fr.rf.wr ⟨rfl, by omega⟩
/-- what both sides show behind an item -/
def IRES (b : Nat → Nat) (t p : Nat) (sl : Int32) (does : Bool) (A B : gMem) (x1 x2 : Option (Int32 × gMem)) : Prop := ∃ f A' B' p', x1 = some (b2i f, A') ∧ x2 = some (b2i f, B') ∧ tkA A' b t p' ∧ tkB B' b t p' ∧ p ≤ p' ∧ fr FAp A A' ∧ FB does B B' ∧ A'.1 1 0 11 = sl ∧ (f = true → tk b t p' = 3 ∧ ∃ g', g' ≤ 7 ∧ HA A' g' sl ∧ HB does A' B' g')
theorem GST {A B : gMem} {p g : Nat} {sl : Int32} {does : Bool} (hA : tkA A b t p) (hB : tkB B b t p) (a : HA A g sl) (h : HB does A B g) (hg : g < 7) (M : gMem) (q : Int32) : IRES b t p sl does A B (x_X9_parseGuest A 1) (Option.bind (x_X11_reads B 0 5) (fun v33 => (if v33.1 = 0 then j_X11_readItem_107 M q (b2i does) v33.2 else Option.bind (x_X11_reads v33.2 1 7) (fun v37 => (if v37.1 = 0 then j_X11_readItem_107 M q (b2i does) v37.2 else Option.bind (x_X11_readServices v37.2) (fun v41 => (if v41.1 = 0 then j_X11_readItem_107 M q (b2i does) v41.2 else j_X11_readItem_108 M q (b2i does) v41.2 1))))))) := by
  have hpt : p ≤ t := hB.2.2.2.2.2
  obtain ⟨n11, n12, _⟩ := np_b (b := b) hpt
  obtain ⟨n21, n22, _⟩ := np_b (b := b) n12
  obtain ⟨n31, n32, _⟩ := np_b (b := b) n22
  have ht := hA.2.2.2.2.2.1.1
  -- a failing end of the reference
  have bad : ∀ N, j_X11_readItem_107 M q (b2i does) N = some (0, gwr N 0 59 12 (N.1 0 59 12 + 1)) := by
    intro N
    unfold j_X11_readItem_107 j_X11_readItem_108
    rw [if_pos rfl, gd_i (Or.inl rfl)]
  obtain ⟨A1, a1, a2, a3⟩ := C_stn hA (lim := 6) (by omega)
  obtain ⟨B1, b1, b2, b3, b4, b5, b6⟩ := M_rds hB (a := 0) (lim := 6) (by omega) (by omega) (q := 5) (by decide)
  have a1' : x_X9_stepToNumber A 6 = some (b2i (isN b t (np b t p) 6), A1) := a1
  have b1' : x_X11_reads B 0 5 = some (b2i (isN b t (np b t p) 6), B1) := b1
  have F1 : FB does B B1 := ⟨b6.mono (fun c o z => ⟨z.1, by omega⟩), fun _ => b5 14 (by decide) (by decide) (by decide) (by decide)⟩
  have fa : ∀ {X Y : gMem}, fr P36 X Y → fr FAp X Y := fun f => f.mono (fun c o z => Or.inl z)
  have fb12 : ∀ {X : gMem} {v : Int32}, FB does X (gwr X 0 59 12 v) := fun {X v} => ⟨fr.rf.wr ⟨rfl, by omega⟩, fun _ => gwr_k _ _ _ _ (by decide)⟩
  have tb12 : ∀ {X : gMem} {v : Int32} {z : Nat}, tkB X b t z → tkB (gwr X 0 59 12 v) b t z := fun {X v z} hx => hx.cg (fun j q1 q2 => gwr_k _ _ _ _ (by omega)) (gwr_o (by omega))
  unfold x_X9_parseGuest
  rw [bindS a1', bindS b1']
  cases e1 : isN b t (np b t p) 6
  · rw [if_pos (show b2i false = 0 from rfl), if_pos (show b2i false = 0 from rfl), bad]
    exact ⟨false, A1, _, np b t p, rfl, rfl, a2, tb12 b2, n11, fa a3, F1.tr fb12, by rw [a3.2 1 0 (by omega)]; exact a.2.2.2.2.2, fun z => (by cases z)⟩
  rw [if_neg (show ¬ b2i true = 0 by decide), if_neg (show ¬ b2i true = 0 by decide)]
  obtain ⟨A2, c1, c2, c3⟩ := C_stn a2 (lim := 8) (by omega)
  obtain ⟨B2, d1, d2, d3, d4, d5, d6⟩ := M_rds b2 (a := 1) (lim := 8) (by omega) (by omega) (q := 7) (by decide)
  have c1' : x_X9_stepToNumber A1 8 = some (b2i (isN b t (np b t (np b t p)) 8), A2) := c1
  have d1' : x_X11_reads B1 1 7 = some (b2i (isN b t (np b t (np b t p)) 8), B2) := d1
  have F2 : FB does B1 B2 := ⟨d6.mono (fun c o z => ⟨z.1, by omega⟩), fun _ => d5 14 (by decide) (by decide) (by decide) (by decide)⟩
  dsimp only
  rw [bindS c1', bindS d1']
  cases e2 : isN b t (np b t (np b t p)) 8
  · rw [if_pos (show b2i false = 0 from rfl), if_pos (show b2i false = 0 from rfl), bad]
    exact ⟨false, A2, _, np b t (np b t p), rfl, rfl, c2, tb12 d2, by omega, (fa a3).tr (fa c3), (F1.tr F2).tr fb12, by rw [c3.2 1 0 (by omega), a3.2 1 0 (by omega)]; exact a.2.2.2.2.2, fun z => (by cases z)⟩
  rw [if_neg (show ¬ b2i true = 0 by decide), if_neg (show ¬ b2i true = 0 by decide)]
  unfold isN at e1 e2
  simp only [Bool.and_eq_true, decide_eq_true_eq] at e1 e2
  obtain ⟨A3, g1, g2, g3⟩ := C_next c2
  obtain ⟨K2, hK2⟩ : ∃ K2, K2 = gwr B2 0 59 11 0 := ⟨_, rfl⟩
  have tK2 : tkB K2 b t (np b t (np b t p)) := d2.cg (fun j q1 q2 => by rw [hK2, gwr_k _ _ _ _ (by omega)]) (by rw [hK2, gwr_o (by omega)])
  obtain ⟨B3, h1, h2, h3, h4⟩ := M_next tK2
  have v1e : A1.1 0 36 5 = nI (tv b t (np b t p)) := a2.2.2.2.1 e1.1
  have v2e : A2.1 0 36 5 = nI (tv b t (np b t (np b t p))) := c2.2.2.2.1 e2.1
  obtain ⟨r1, r2, i1, i2, ⟨p', ip, iA, iB⟩, i3, i4, i5, i6⟩ := SVC g2 h2 (by rw [h3 11 (by decide) (by decide) (by decide) (by decide), hK2, gwr_j]) (A1.1 0 36 5) (A2.1 0 36 5)
  dsimp only
  have hk := tk_5 b t p'
  have rs : x_X11_readServices B2 = some (b2i (decide (tk b t p' = 3)), r2) := by
    unfold x_X11_readServices
    rw [← hK2, bindS h1, bindS i2, iB.2.2.1]
    by_cases e : tk b t p' = 3
    · rw [if_pos ((srf_1 hk).2.1.mpr e)]; simp [e, b2i]
    · rw [if_neg (fun z => e ((srf_1 hk).2.1.mp z))]; simp [e, b2i]
  have F3 : FB does B2 r2 := by
    refine ⟨(show fr _ B2 K2 from ?_).tr ((h4.mono (fun c o z => ⟨z.1, by omega⟩)).tr (i6.mono (fun c o z => ⟨z.1, by omega⟩))), fun _ => ?_⟩
    · rw [hK2]; exact fr.rf.wr ⟨rfl, by omega⟩
    · rw [i5 14 (by decide) (by decide) (by decide) (by decide) (by decide), h3 14 (by decide) (by decide) (by decide) (by decide), hK2, gwr_k _ _ _ _ (by decide)]
  have FF : FB does B r2 := (F1.tr F2).tr F3
  have fA3 : fr P36 A r1.2.2 := ((a3.tr c3).tr g3).tr i4
  rw [bindS g1, bindS i1, bindS rs, iA.2.2.1]
  by_cases e3 : tk b t p' = 3
  · rw [if_pos ((scl_1 hk).2.1.mpr e3), show decide (tk b t p' = 3) = true by simp [e3], if_neg (show ¬ b2i true = 0 by decide), v1e, v2e, i3]
    -- the state that the guest comes into
    have r63 : r2.1 0 63 = B2.1 0 63 := by rw [i6.2 0 63 (by omega), h4.2 0 63 (by omega), hK2, gwr_o (by omega)]
    have r60 : r2.1 0 60 = B.1 0 60 := by rw [i6.2 0 60 (by omega), h4.2 0 60 (by omega), hK2, gwr_o (by omega), d6.2 0 60 (by omega), b6.2 0 60 (by omega)]
    have rj : ∀ j, j ≠ 6 → j ≠ 7 → j ≠ 8 → j ≠ 9 → j ≠ 11 → r2.1 0 59 j = B.1 0 59 j := fun j q1 q2 q3 q4 q5 => by
      rw [i5 j q1 q2 q3 q4 q5, h3 j q1 q2 q3 q4, hK2, gwr_k _ _ _ _ q5, d5 j q1 q2 q3 q4, b5 j q1 q2 q3 q4]
    have ha' : HA r1.2.2 g sl := a.cg (fA3.2 1 0 (by omega)) (fA3.2 1 6 (by omega))
    have hb' : HB does r1.2.2 r2 g := h.cg (fun o _ => fA3.2 1 o (by omega)) r60 (rj 12 (by decide) (by decide) (by decide) (by decide) (by decide)) (rj 14 (by decide) (by decide) (by decide) (by decide) (by decide))
    obtain ⟨A', B', w1, w2, w3, w4, w5, w6, w7, w8⟩ := ADM ha' hb' hg e1.2 e2.2 (r2.1 0 59 11)
    rw [bindS w1]
    have e12 : r2.1 0 59 12 + 1 = nI (g + 1) := by rw [hb'.1, nI_1]
    have c63 : ∀ v, (gwr r2 0 59 12 v).1 0 63 = B2.1 0 63 := fun v => by rw [gwr_o (by omega)]; exact r63
    have c11 : ∀ v, (gwr r2 0 59 12 v).1 0 59 11 = r2.1 0 59 11 := fun v => gwr_k _ _ _ _ (by decide)
    have c630 : B2.1 0 63 0 = nI (tv b t (np b t p)) := by rw [d4 0 (by decide)]; exact b3 e1.1
    have c631 : B2.1 0 63 1 = nI (tv b t (np b t (np b t p))) := d3 e2.1
    have fin : j_X11_readItem_108 M q (b2i does) r2 1 = some (1, B') := by
      unfold j_X11_readItem_108
      rw [if_neg (show ¬ (1 : Int32) = 0 by decide), e12]
      cases does with
      | false => rw [if_pos (show b2i false = 0 from rfl), gd_i (Or.inr rfl), w3 rfl]
      | true =>
        rw [if_neg (show ¬ b2i true = 0 by decide), c63, c11, c630, c631, bindS (w2 rfl), gd_i (Or.inr rfl)]
    rw [fin]
    refine ⟨true, A', B', p', rfl, rfl, iA.cg (w6.2 0 36 (by omega)) (w6.2 0 37 (by omega)), iB.cg (fun j q1 q2 => w8 j (by omega)) (w7.2 0 62 (by omega)), by omega, (fa fA3).tr (w6.mono (fun c o z => Or.inr ⟨z.1, by omega⟩)), FF.tr ⟨w7.mono (fun c o z => ⟨z.1, by rcases z.2 with z | z; exact Or.inl z; exact Or.inr (Or.inr z)⟩), fun _ => w8 14 (by decide)⟩, w4.2.2.2.2.2, fun _ => ⟨e3, g + 1, by omega, w4, w5⟩⟩
  · rw [if_neg (fun z => e3 ((scl_1 hk).2.1.mp z)), show decide (tk b t p' = 3) = false by simp [e3], if_pos (show b2i false = 0 from rfl), bad]
    exact ⟨false, r1.2.2, _, p', rfl, rfl, iA, tb12 iB, by omega, fa fA3, FF.tr fb12, by rw [fA3.2 1 0 (by omega)]; exact a.2.2.2.2.2, fun z => (by cases z)⟩
end RD4
