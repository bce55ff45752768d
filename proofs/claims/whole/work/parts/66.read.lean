section RD6
variable {t : Nat} {b : Nat → Nat}
def LRES (b : Nat → Nat) (t : Nat) (sl : Int32) (does : Bool) (A B A' B' : gMem) (v : Int32) : Prop := fr FAp A A' ∧ FB does B B' ∧ A'.1 1 0 11 = sl ∧ TXA A' t b ∧ TXB B' t b ∧ ((v = -1 ∧ A'.1 0 36 2 = B'.1 0 59 9) ∨ ∃ m g, m < 200 ∧ v = nI m ∧ g ≤ 7 ∧ HA A' g sl ∧ HB does A' B' g)
theorem LOOP {A B : gMem} {p g : Nat} {sl : Int32} {does : Bool} (hA : tkA A b t p) (hk : tk b t p ≠ 0) (hB : tkB B b t (np b t p)) (a : HA A g sl) (h : HB does A B g) (hg : g ≤ 7) : ∃ r1 r2, itr 999999 (fun s => s_X9_parse_33 1 s.1 s.2) (1, A) = some r1 ∧ itr 999999 (fun s => s_X11_readText_16 (b2i does) s.1 s.2) (1, B) = some r2 ∧ ∃ v A' B', r1 = .inr (v, A') ∧ (r2 = .inl (v, B') ∨ r2 = .inr (v, B')) ∧ LRES b t sl does A B A' B' v := by
  have ht := hA.2.2.2.2.2.1.1
  refine itr_r2 (s1 := fun s : Int32 × gMem => s_X9_parse_33 1 s.1 s.2) (s2 := fun s : Int32 × gMem => s_X11_readText_16 (b2i does) s.1 s.2) (fun i (x : Int32 × gMem) (y : Int32 × gMem) => x.1 = nI (i + 1) ∧ y.1 = nI (i + 1) ∧ ∃ p g, i ≤ p ∧ tk b t p ≠ 0 ∧ tkA x.2 b t p ∧ tkB y.2 b t (np b t p) ∧ HA x.2 g sl ∧ HB does x.2 y.2 g ∧ g ≤ 7 ∧ fr FAp A x.2 ∧ FB does B y.2) (fun (r1 : (Int32 × gMem) ⊕ (Int32 × gMem)) (r2 : (Int32 × gMem) ⊕ (Int32 × gMem)) => ∃ v A' B', r1 = .inr (v, A') ∧ (r2 = .inl (v, B') ∨ r2 = .inr (v, B')) ∧ LRES b t sl does A B A' B' v) 150 ?_ 999999 0 (1, A) (1, B) ⟨rfl, rfl, p, g, by omega, hk, hA, hB, a, h, hg, fr.rf, FB.rf⟩ (by omega)
  rintro i ⟨x1, X⟩ ⟨y1, Y⟩ ⟨rfl, rfl, p, g, hip, hk, hA, hB, a, h, hg, fA, fB⟩
  dsimp only at *
  have hpt : p ≤ t := hA.2.2.2.2.2.2
  have hte := (te_b (b := b) hpt)
  have hte3 := hte.2.2.1 hk
  obtain ⟨n1, n2, n3⟩ := np_b (b := b) hpt
  have n3 := n3 hk
  obtain ⟨X1, c1, c2, c3⟩ := C_next hA
  have hk2 := tk_5 b t (np b t p)
  have z1 : ¬ nI (i + 1) = 0 := nI_ne0 (by omega) (by omega)
  have z2 : ¬ (150 : Int32) < nI (i + 1) := show ¬ nI 150 < nI (i + 1) from by rw [nI_ltI (by omega) (by omega)]; omega
  have fX1 : fr FAp A X1 := fA.tr (c3.mono (fun c o z => Or.inl z))
  have a' : HA X1 g sl := a.cg (c3.2 1 0 (by omega)) (c3.2 1 6 (by omega))
  have h' : HB does X1 Y g := h.cg (fun o _ => c3.2 1 o (by omega)) rfl rfl rfl
  unfold s_X9_parse_33 s_X11_readText_16 j_X11_readText_16_28
  rw [if_neg z2, bindS c1, c2.2.2.1, if_neg z1, hB.2.2.1]
  by_cases e0 : tk b t (np b t p) = 0
  · rw [if_pos ((scl_1 hk2).2.2.1.mpr e0), if_pos ((srf_1 hk2).2.2.1.mpr e0)]
    exact Or.inl ⟨_, _, rfl, rfl, nI (i + 1), X1, Y, rfl, Or.inl rfl, fX1, fB, a'.2.2.2.2.2, c2.2.2.2.2.2.1, hB.2.2.2.2.1, Or.inr ⟨i + 1, g, by omega, rfl, hg, a', h'⟩⟩
  · rw [if_neg (fun z => e0 ((scl_1 hk2).2.2.1.mp z)), if_neg (fun z => e0 ((srf_1 hk2).2.2.1.mp z))]
    obtain ⟨f, A', B', p', i1, i2, i3, i4, i5, i6, i7, i8, i9⟩ := ITM c2 hB a' h' hg z1
    rw [bindS i1, bindS i2]
    cases f with
    | false =>
      rw [if_pos (show b2i false = 0 from rfl), if_pos (show b2i false = 0 from rfl)]
      exact Or.inl ⟨_, _, rfl, rfl, -1, A', B', rfl, Or.inr rfl, fX1.tr i6, fB.tr i7, i8, i3.2.2.2.2.2.1, i4.2.2.2.2.1, Or.inl ⟨rfl, by rw [i3.1, i4.1]⟩⟩
    | true =>
      obtain ⟨q3, g', q4, q5, q6⟩ := i9 rfl
      obtain ⟨B'', d1, d2, d3, d4⟩ := M_next i4
      rw [if_neg (show ¬ b2i true = 0 by decide), if_neg (show ¬ b2i true = 0 by decide), bindS d1]
      refine Or.inr ⟨by omega, _, _, rfl, rfl, nI_1 _, nI_1 _, p', g', by omega, by omega, i3, d2, q5, q6.cg (fun _ _ => rfl) (d4.2 0 60 (by omega)) (d3 12 (by decide) (by decide) (by decide) (by decide)) (d3 14 (by decide) (by decide) (by decide) (by decide)), q4, fX1.tr i6, (fB.tr i7).tr ⟨d4.mono (fun c o z => ⟨z.1, by omega⟩), fun _ => d3 14 (by decide) (by decide) (by decide) (by decide)⟩⟩
theorem itr_q {σ ρ : Type} {step : σ → Option (σ ⊕ ρ)} {s s' : σ} {r : ρ} (F : Nat) (h : step s = some (.inl s')) (h2 : itr F step s' = some r) : itr (F + 1) step s = some r := by
  unfold itr
  rw [h]
  exact h2
theorem itr_qe {σ ρ : Type} {step : σ → Option (σ ⊕ ρ)} {s : σ} {r : ρ} (F : Nat) (h : step s = some (.inr r)) : itr (F + 1) step s = some r := by
  unfold itr
  rw [h]
  rfl
theorem FU_p : FU = 999999 + 1 := rfl
theorem itr_p {σ ρ : Type} {step : σ → Option (σ ⊕ ρ)} {s s' : σ} {r : ρ} (h : step s = some (.inl s')) (h2 : itr 999999 step s' = some r) : itr FU step s = some r := by
  rw [FU_p]
  exact itr_q 999999 h h2
theorem itr_e {σ ρ : Type} {step : σ → Option (σ ⊕ ρ)} {s : σ} {r : ρ} (h : step s = some (.inr r)) : itr FU step s = some r := by
  rw [FU_p]
  exact itr_qe 999999 h
theorem PARSE {A B : gMem} {sl : Int32} (does : Bool) (hA : TXA A t b) (hB : TXB B t b) (hs : A.1 1 0 11 = sl) : ∃ v A' B', x_X9_parse A 1 = some (v, A') ∧ x_X11_readText B (b2i does) = some (v, B') ∧ LRES b t sl does A B A' B' v := by
  have ht := hA.1
  -- the class empties its draft and reads a token
  obtain ⟨E, hE⟩ : ∃ E, E = gwr (gwr (gwr (gwr (gwr A 1 0 13 0) 1 0 14 0) 1 0 15 0) 1 0 12 0) 1 6 1 0 := ⟨_, rfl⟩
  have em : x_X1_empty A 1 = some E := by rw [hE]; rfl
  have fE : fr FAp A E := by
    rw [hE]
    exact ((((fr.rf.wr (Or.inr ⟨rfl, by omega⟩)).wr (Or.inr ⟨rfl, by omega⟩)).wr (Or.inr ⟨rfl, by omega⟩)).wr (Or.inr ⟨rfl, by omega⟩)).wr (Or.inr ⟨rfl, by omega⟩)
  have E10 : E.1 1 0 = upd (upd (upd (upd (A.1 1 0) 13 0) 14 0) 15 0) 12 0 := by rw [hE, gwr_o (by omega), gwr_s, gwr_s, gwr_s, gwr_s]
  have haE : HA E 0 sl := by
    unfold HA
    refine ⟨?_, ?_, ?_, ?_, ?_, ?_⟩
    · rw [E10, pk_un (by decide), pk_un (by decide), pk_un (by decide), pk_us]; rfl
    · rw [E10, pk_un (by decide), pk_un (by decide), pk_us]
    · rw [E10, pk_un (by decide), pk_us]
    · rw [E10, pk_us]
    · rw [hE, gwr_j]
    · rw [E10, pk_un (by decide), pk_un (by decide), pk_un (by decide), pk_un (by decide)]; exact hs
  have E36 : E.1 0 36 = A.1 0 36 := by rw [hE, gwr_o (by omega), gwr_o (by omega), gwr_o (by omega), gwr_o (by omega), gwr_o (by omega)]
  have E37 : E.1 0 37 = A.1 0 37 := by rw [hE, gwr_o (by omega), gwr_o (by omega), gwr_o (by omega), gwr_o (by omega), gwr_o (by omega)]
  obtain ⟨K, hK⟩ : ∃ K, K = gwr E 0 36 3 0 := ⟨_, rfl⟩
  have fK : fr FAp A K := by rw [hK]; exact fE.wr (Or.inl ⟨rfl, rfl⟩)
  have xK : TXA K t b := by
    refine ⟨ht, by rw [hK, gwr_k _ _ _ _ (by decide), E36]; exact hA.2.1, ?_⟩
    rw [hK, gwr_o (by omega), E37]; exact hA.2.2
  have haK : HA K 0 sl := haE.cg (by rw [hK, gwr_o (by omega)]) (by rw [hK, gwr_o (by omega)])
  obtain ⟨A1, a1, a2, a3, a4, a5, a6, a7, a8⟩ := C_step xK (e := 0) (by rw [hK, gwr_j]; rfl) (Nat.zero_le _)
  have p0 := (tp_b (b := b) (Nat.zero_le t)).2
  have tA1 : tkA A1 b t (tp b t 0) := ⟨a2, a3, a4, a5, a6, a7, p0⟩
  have f36 : ∀ {X Y : gMem}, fr P36 X Y → fr FAp X Y := fun f => f.mono (fun c o z => Or.inl z)
  have fA1 : fr FAp A A1 := fK.tr (f36 a8)
  have ha1 : HA A1 0 sl := haK.cg (a8.2 1 0 (by omega)) (a8.2 1 6 (by omega))
  have cw : x_X9_isWord A1 0 = some (b2i (wdB b t (tp b t 0) 5 (sch 0))) := C_isw tA1 (w := 0) (by omega)
  -- the reference
  obtain ⟨J, hJ⟩ : ∃ J, J = gwr (gwr B 0 59 6 0) 0 59 12 0 := ⟨_, rfl⟩
  have fJ : FB does B J := by
    rw [hJ]
    exact ⟨(fr.rf.wr ⟨rfl, by omega⟩).wr ⟨rfl, by omega⟩, fun _ => by rw [gwr_k _ _ _ _ (by decide), gwr_k _ _ _ _ (by decide)]⟩
  have xJ : TXB J t b := by
    refine ⟨ht, by rw [hJ, gwr_k _ _ _ _ (by decide), gwr_k _ _ _ _ (by decide)]; exact hB.2.1, ?_⟩
    rw [hJ, gwr_o (by omega), gwr_o (by omega)]; exact hB.2.2
  obtain ⟨B1, b1, b2, b3, b4, b5, b6, b7, b8⟩ := M_tok xJ (e := 0) (by rw [hJ, gwr_k _ _ _ _ (by decide), gwr_j]; rfl) (Nat.zero_le _)
  have tB1 : tkB B1 b t (tp b t 0) := ⟨b2, b3, b4, b5, b6, p0⟩
  have fB1 : FB does B B1 := fJ.tr ⟨b8.mono (fun c o z => ⟨z.1, by omega⟩), fun _ => b7 14 (by decide) (by decide) (by decide) (by decide)⟩
  have B112 : B1.1 0 59 12 = 0 := by rw [b7 12 (by decide) (by decide) (by decide) (by decide), hJ, gwr_j]
  have iw : x_X11_isWord B1 104 111 117 115 101 = some (b2i (wdB b t (tp b t 0) 5 (sch 0))) := M_isw tB1 (sch 0) (Or.inl ⟨rfl, by decide⟩)
  unfold x_X9_parse x_X11_readText
  rw [bindS em, ← hK, bindS a1, bindS cw, ← hJ, bindS b1]
  -- the first item
  have fst0 : ∀ {r : (Int32 × gMem) ⊕ ((Int32 × gMem) ⊕ (Int32 × gMem))}, Option.bind (x_X11_readItem B1 0 (b2i does)) (fun v4 => (if v4.1 = 0 then some (.inr (.inr ((-1), v4.2))) else Option.bind (x_X11_nextToken v4.2) (fun v8 => some (.inl ((0 : Int32) + 1, v8))))) = some r → s_X11_readText_16 (b2i does) 0 B1 = some r := by
    intro r hr
    unfold s_X11_readText_16 j_X11_readText_16_28
    rw [if_pos rfl]
    exact hr
  cases e1 : wdB b t (tp b t 0) 5 (sch 0)
  · rw [if_pos (show b2i false = 0 from rfl)]
    have ri : x_X11_readItem B1 0 (b2i does) = some (0, B1) := by
      unfold x_X11_readItem
      rw [if_pos rfl, bindS iw, e1, if_pos (show b2i false = 0 from rfl)]
    have s0 : s_X11_readText_16 (b2i does) 0 B1 = some (.inr (.inr ((-1), B1))) := fst0 (by rw [bindS ri, if_pos rfl])
    refine ⟨-1, A1, B1, rfl, (bindS (itr_e s0)).trans rfl, fA1, fB1, ha1.2.2.2.2.2, a7, b6, Or.inl ⟨rfl, by rw [a2, b2]⟩⟩
  rw [if_neg (show ¬ b2i true = 0 by decide)]
  obtain ⟨A2, c1, c2, c3⟩ := C_sts tA1
  have fA2 : fr FAp A A2 := fA1.tr (f36 c3)
  have ha2 : HA A2 0 sl := ha1.cg (c3.2 1 0 (by omega)) (c3.2 1 6 (by omega))
  -- anew, if it does
  have hN : ∃ N, (if b2i does = 0 then j_X11_readItem_33 B1 0 (b2i does) B1 else Option.bind (x_X11_anew B1) (fun v53 => j_X11_readItem_33 B1 0 (b2i does) v53)) = j_X11_readItem_33 B1 0 (b2i does) N ∧ (∀ j, j ≠ 14 → N.1 0 59 j = B1.1 0 59 j) ∧ FB does B1 N ∧ N.1 0 62 = B1.1 0 62 ∧ (does = true → (∀ k, k < 70 → N.1 0 60 k = 0) ∧ N.1 0 59 14 = 0) := by
    cases does with
    | false => exact ⟨B1, by rw [if_pos (show b2i false = 0 from rfl)], fun _ _ => rfl, FB.rf, rfl, fun q => (by cases q)⟩
    | true =>
      obtain ⟨N, w1, w2, w3, w4⟩ := M_anew B1
      refine ⟨N, by rw [if_neg (show ¬ b2i true = 0 by decide), bindS w1], fun j hj => by rw [w3, pk_un hj], ⟨w4.mono (fun c o z => ⟨z.1, by rcases z.2 with q | q; exact Or.inl q; exact Or.inr (Or.inr ⟨rfl, q⟩)⟩), fun q => (by cases q)⟩, w4.2 0 62 (by omega), fun _ => ⟨w2, by rw [w3, pk_us]⟩⟩
  obtain ⟨N, w1, w2, w3, w4, w5⟩ := hN
  have tN : tkB N b t (tp b t 0) := tB1.cg (fun j _ _ => w2 j (by omega)) w4
  obtain ⟨B2, d1, d2, d3, d4⟩ := M_next tN
  have hk := tk_5 b t (np b t (tp b t 0))
  have fB2 : FB does B B2 := (fB1.tr w3).tr ⟨d4.mono (fun c o z => ⟨z.1, by omega⟩), fun _ => d3 14 (by decide) (by decide) (by decide) (by decide)⟩
  have ri : x_X11_readItem B1 0 (b2i does) = some (b2i (decide (tk b t (np b t (tp b t 0)) = 3)), B2) := by
    unfold x_X11_readItem
    rw [if_pos rfl, bindS iw, e1, if_neg (show ¬ b2i true = 0 by decide), w1]
    unfold j_X11_readItem_33
    rw [bindS d1, d2.2.2.1]
    by_cases e : tk b t (np b t (tp b t 0)) = 3
    · rw [if_pos ((srf_1 hk).2.1.mpr e)]; simp [e, b2i]
    · rw [if_neg (fun z => e ((srf_1 hk).2.1.mp z))]; simp [e, b2i]
  rw [bindS c1]
  by_cases e3 : tk b t (np b t (tp b t 0)) = 3
  · rw [show decide (tk b t (np b t (tp b t 0)) = 3) = true by simp [e3]] at ri ⊢
    rw [if_neg (show ¬ b2i true = 0 by decide)]
    obtain ⟨B3, g1, g2, g3, g4⟩ := M_next d2
    have fB3 : FB does B B3 := fB2.tr ⟨g4.mono (fun c o z => ⟨z.1, by omega⟩), fun _ => g3 14 (by decide) (by decide) (by decide) (by decide)⟩
    have hb3 : HB does A2 B3 0 := by
      have k60 : B3.1 0 60 = N.1 0 60 := by rw [g4.2 0 60 (by omega), d4.2 0 60 (by omega)]
      refine ⟨by rw [g3 12 (by decide) (by decide) (by decide) (by decide), d3 12 (by decide) (by decide) (by decide) (by decide), w2 12 (by decide)]; exact B112, fun dz => ?_⟩
      obtain ⟨y1, y2⟩ := w5 dz
      have c60 : ∀ k, k < 70 → B3.1 0 60 k = 0 := fun k hk => by rw [k60]; exact y1 k hk
      refine ⟨⟨fun _ _ => 0, ⟨by omega, fun g hg => absurd hg (Nat.not_lt_zero g)⟩, ⟨ha2.1, fun g hg => absurd hg (Nat.not_lt_zero g)⟩, ⟨c60 16 (by omega), fun g hg => absurd hg (Nat.not_lt_zero g)⟩, by rw [ha2.2.1, c60 0 (by omega)], by rw [ha2.2.2.1, c60 1 (by omega)]⟩, c60 0 (by omega), c60 1 (by omega), c60 38 (by omega), by rw [g3 14 (by decide) (by decide) (by decide) (by decide), d3 14 (by decide) (by decide) (by decide) (by decide)]; exact y2⟩
    obtain ⟨r1, r2, l1, l2, v, A', B', l3, l4, l5⟩ := LOOP c2 (by omega) g2 ha2 hb3 (by omega)
    have s0 : s_X11_readText_16 (b2i does) 0 B1 = some (.inl (1, B3)) := fst0 (by rw [bindS ri, if_neg (show ¬ b2i true = 0 by decide), bindS g1]; rfl)
    have l1' : itr FU (fun s => s_X9_parse_33 1 s.1 s.2) (1, A2) = some r1 := itr_mo 999999 FU _ l1 (by have := FU_ge; omega)
    have l2' : itr FU (fun s => s_X11_readText_16 (b2i does) s.1 s.2) (0, B1) = some r2 := itr_p (s' := (1, B3)) s0 l2
    obtain ⟨m1, m2, m3, m4, m5, m6⟩ := l5
    refine ⟨v, A', B', (bindS l1').trans (by rw [l3]; rfl), (bindS l2').trans ?_, fA2.tr m1, fB3.tr m2, m3, m4, m5, m6⟩
    rcases l4 with q | q <;> rw [q] <;> rfl
  · rw [show decide (tk b t (np b t (tp b t 0)) = 3) = false by simp [e3]] at ri ⊢
    rw [if_pos (show b2i false = 0 from rfl)]
    have s0 : s_X11_readText_16 (b2i does) 0 B1 = some (.inr (.inr ((-1), B2))) := fst0 (by rw [bindS ri, if_pos (show b2i false = 0 from rfl)])
    exact ⟨-1, A2, B2, rfl, (bindS (itr_e s0)).trans rfl, fA2, fB2, ha2.2.2.2.2.2, c2.2.2.2.2.2.1, d2.2.2.2.2.1, Or.inl ⟨rfl, by rw [c2.1, d2.1]⟩⟩
end RD6
