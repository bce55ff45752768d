/-! what the notes say -/
def allB (p : Nat → Bool) : Nat → Bool
  | 0 => true
  | i + 1 => allB p i && p i
theorem allB_f {p : Nat → Bool} {i : Nat} (hp : p i = false) : ∀ m, i < m → allB p m = false
  | 0, h => absurd h (Nat.not_lt_zero i)
  | m + 1, h => by
    unfold allB
    by_cases e : i = m
    · subst e; rw [hp, Bool.and_false]
    · rw [allB_f hp m (by omega), Bool.false_and]
def okN (R : Nat → Nat → Int32) (kd : Nat) (a1 : Int32) (w k : Nat) : Bool := decide (R k 0 = a1 → R k 4 = if R k 2 = nI w then cnt kd (R k 1) (R k 3) else 0)
def wS (p : Nat → Bool) : Nat → Int32
  | 0 => 0
  | i + 1 => if p i = true then wS p i ||| (1 <<< (nI i &&& 31)) else wS p i
theorem wS_n (p : Nat → Bool) : ∀ i, i ≤ 8 → ∃ a, a < 2 ^ i ∧ wS p i = nI a
  | 0, _ => ⟨0, by decide, rfl⟩
  | i + 1, h => by
    obtain ⟨a, ha, e⟩ := wS_n p i (by omega)
    unfold wS
    rw [e]
    have hd : ∀ i, i < 8 → ∀ a, a < 2 ^ i → nI a ||| (1 <<< (nI i &&& 31)) = nI (a + 2 ^ i) := by decide +kernel
    have h2 : 2 ^ (i + 1) = 2 ^ i * 2 := Nat.pow_succ 2 i
    by_cases q : p i = true
    · rw [if_pos q]; exact ⟨a + 2 ^ i, by omega, hd i (by omega) a ha⟩
    · rw [if_neg q]; exact ⟨a, by omega, rfl⟩
def fitN (R : Nat → Nat → Int32) (m kd : Nat) (a1 : Int32) (w : Nat) : Bool := allB (okN R kd a1 w) m
def nR (M : gMem) : Nat → Nat → Int32 := fun k j => M.1 0 (8 + k) j
section NT
variable {M : gMem} {m : Nat}
theorem C_fit (hm : m ≤ 6) (h1 : M.1 0 6 1 = nI m) {kd : Nat} (hk : kd < 6) (a1 : Int32) (w : Nat) : x_X3_allFit M 0 kd a1 (nI w) = some (b2i (fitN (nR M) m kd a1 w)) := by
  obtain ⟨r, hr, hq⟩ := itr_inv (step := fun s => s_X3_allFit_3 M 0 kd a1 (nI w) s) (s := 0) (fun i s => i ≤ m ∧ s = nI i ∧ allB (okN (nR M) kd a1 w) i = true) (fun r => Sum.elim (fun _ => some (1 : Int32)) (fun z => some z) r = some (b2i (fitN (nR M) m kd a1 w))) m (by omega) ⟨by omega, rfl, rfl⟩ (by
    rintro i s ⟨hi, rfl, ha⟩
    unfold s_X3_allFit_3 j_X3_allFit_3_45 j_X3_allFit_3_66
    by_cases e : i = m
    · subst e
      rw [h1, if_pos (by rw [nI_leI (by omega) (by omega)]; omega)]
      refine Or.inl ⟨_, rfl, ?_⟩
      show some 1 = _
      unfold fitN
      rw [ha]; rfl
    · have gm : gin (nI i) 6 := gin_n (by omega) (by omega)
      have cm : (nI i).toNatClampNeg = i := nI_clamp (by omega)
      rw [h1, if_neg (by rw [nI_leI (by omega) (by omega)]; omega)]
      simp only [gd_i gm, cm]
      have key : ∀ v, v = (if nR M i 2 = nI w then cnt kd (nR M i 1) (nR M i 3) else 0) → ∀ X : Option (Int32 ⊕ (Int32 ⊕ Int32)), X = (if M.1 0 (8 + i) 0 = a1 then (if M.1 0 (8 + i) 4 = v then some (.inl (nI i + 1)) else some (.inr (.inr 0))) else some (.inl (nI i + 1))) → ((∃ r, X = some (.inr r) ∧ Sum.elim (fun _ => some (1 : Int32)) (fun z => some z) r = some (b2i (fitN (nR M) m kd a1 w))) ∨ (i < m ∧ ∃ s' : Int32, X = some (.inl s') ∧ i + 1 ≤ m ∧ s' = nI (i + 1) ∧ allB (okN (nR M) kd a1 w) (i + 1) = true)) := by
        intro v hv X hX
        subst hX
        by_cases q1 : M.1 0 (8 + i) 0 = a1
        · rw [if_pos q1]
          by_cases q2 : M.1 0 (8 + i) 4 = v
          · rw [if_pos q2]
            refine Or.inr ⟨by omega, _, rfl, by omega, nI_1 i, ?_⟩
            unfold allB
            rw [ha, Bool.true_and]
            exact decide_eq_true (fun _ => q2.trans hv)
          · rw [if_neg q2]
            refine Or.inl ⟨_, rfl, ?_⟩
            show some 0 = _
            unfold fitN
            rw [allB_f (i := i) (decide_eq_false (fun z => q2 ((z q1).trans hv.symm))) m (by omega)]; rfl
        · rw [if_neg q1]
          refine Or.inr ⟨by omega, _, rfl, by omega, nI_1 i, ?_⟩
          unfold allB
          rw [ha, Bool.true_and]
          exact decide_eq_true (fun z => absurd z q1)
      by_cases q : M.1 0 (8 + i) 2 = nI w
      · rw [if_pos q, C_cnt hk]
        exact key _ (by unfold nR; rw [if_pos q]) _ rfl
      · rw [if_neg q]
        exact key _ (by unfold nR; rw [if_neg q]) _ rfl)
  unfold x_X3_allFit
  exact (bindS hr).trans hq
theorem C_wtf (hm : m ≤ 6) (h1 : M.1 0 6 1 = nI m) {kd : Nat} (hk : kd < 6) (a1 : Int32) : x_X3_wantsThatFit M 0 kd a1 = some (wS (fitN (nR M) m kd a1) 8) := by
  unfold x_X3_wantsThatFit
  refine (bindS (itr_tr (fun i => (wS (fitN (nR M) m kd a1) i, nI i)) 8 (wS (fitN (nR M) m kd a1) 8, nI 8) rfl (by omega) (fun i hi => ?_) ?_)).trans rfl
  · dsimp only
    unfold s_X3_wantsThatFit_5 j_X3_wantsThatFit_5_30
    have p1 : ¬ (8 : Int32) ≤ nI i := show ¬ nI 8 ≤ nI i from by rw [nI_leI (by omega) (by omega)]; omega
    rw [if_neg p1, C_fit hm h1 hk]
    show (if b2i (fitN (nR M) m kd a1 i) = 0 then _ else _) = some (Sum.inl (if fitN (nR M) m kd a1 i = true then wS (fitN (nR M) m kd a1) i ||| (1 <<< (nI i &&& 31)) else wS (fitN (nR M) m kd a1) i, nI (i + 1)))
    rw [nI_1]
    cases fitN (nR M) m kd a1 i <;> rfl
  · rfl
theorem C_wt (hm : m ≤ 6) (h1 : M.1 0 6 1 = nI m) {kd : Nat} (hk : kd < 6) (a1 : Int32) : x_X1_wantsThatFit M 0 a1 (nI kd) = some (wS (fitN (nR M) m kd a1) 8) := by
  unfold x_X1_wantsThatFit
  rw [gd_i (gin_n (by omega) (by omega)), nI_clamp (by omega), C_wtf hm h1 hk]
  rfl
theorem M_wt (hm : m ≤ 6) (h2 : M.1 0 60 38 = nI m) (h3 : ∀ i, i < m → ∀ j, j < 5 → M.1 0 (8 + i) j = M.1 0 60 (39 + (5 * i + j))) {kd : Nat} (hk : kd < 6) (a1 : Int32) : x_X11_wantsBy M a1 (nI kd) = some (wS (fitN (nR M) m kd a1) 8) := by
  unfold x_X11_wantsBy
  refine (bindS (itr_tr (fun i => (wS (fitN (nR M) m kd a1) i, nI i)) 8 (wS (fitN (nR M) m kd a1) 8, nI 8) rfl (by omega) (fun w hw => ?_) ?_)).trans rfl
  · dsimp only
    unfold s_X11_wantsBy_5 j_X11_wantsBy_5_138
    have p1 : ¬ (8 : Int32) ≤ nI w := show ¬ nI 8 ≤ nI w from by rw [nI_leI (by omega) (by omega)]; omega
    rw [if_neg p1]
    have inner : itr FU (fun s => s_X11_wantsBy_18 M a1 (nI kd) (wS (fitN (nR M) m kd a1) w) (nI w) s.1 s.2) (1, 0) = some (b2i (fitN (nR M) m kd a1 w), nI m) := by
      refine itr_tr (fun i => (b2i (allB (okN (nR M) kd a1 w) i), nI i)) m (b2i (fitN (nR M) m kd a1 w), nI m) rfl (by omega) (fun i hi => ?_) ?_
      · dsimp only
        unfold s_X11_wantsBy_18 j_X11_wantsBy_18_79 j_X11_wantsBy_18_115 j_X11_wantsBy_18_111 j_X11_wantsBy_18_116
        have ge : ∀ j, j < 5 → gin (nI (39 + (5 * i + j))) 70 := fun j hj => gin_n (by omega) (by omega)
        have ce : ∀ j, j < 5 → (nI (39 + (5 * i + j))).toNatClampNeg = 39 + (5 * i + j) := fun j hj => nI_clamp (by omega)
        have q0 : (39 : Int32) + 5 * nI i = nI (39 + (5 * i + 0)) := by
          have : ∀ m, m < 6 → (39 : Int32) + 5 * nI m = nI (39 + (5 * m + 0)) := by decide +kernel
          exact this i (by omega)
        have q1 : nI (39 + (5 * i + 0)) + 1 = nI (39 + (5 * i + 1)) := nI_add _ 1
        have q2 : nI (39 + (5 * i + 0)) + 2 = nI (39 + (5 * i + 2)) := nI_add _ 2
        have q3 : nI (39 + (5 * i + 0)) + 3 = nI (39 + (5 * i + 3)) := nI_add _ 3
        have q4 : nI (39 + (5 * i + 0)) + 4 = nI (39 + (5 * i + 4)) := nI_add _ 4
        rw [h2, if_neg (by rw [nI_leI (by omega) (by omega)]; omega)]
        simp only [q0, q1, q2, q3, q4, gd_i (ge 0 (by decide)), gd_i (ge 1 (by decide)), gd_i (ge 2 (by decide)), gd_i (ge 3 (by decide)), gd_i (ge 4 (by decide)), ce 0 (by decide), ce 1 (by decide), ce 2 (by decide), ce 3 (by decide), ce 4 (by decide), M_cnt hk, nI_1]
        rw [← h3 i hi 0 (by decide), ← h3 i hi 1 (by decide), ← h3 i hi 2 (by decide), ← h3 i hi 3 (by decide), ← h3 i hi 4 (by decide)]
        show _ = some (Sum.inl (b2i (allB (okN (nR M) kd a1 w) i && okN (nR M) kd a1 w i), nI (i + 1)))
        have key : ∀ v, v = (if nR M i 2 = nI w then cnt kd (nR M i 1) (nR M i 3) else 0) → (if b2i (allB (okN (nR M) kd a1 w) i) = 0 then some (Sum.inl ((0 : Int32), nI (i + 1))) else if M.1 0 (8 + i) 0 = a1 then (if v = M.1 0 (8 + i) 4 then some (Sum.inl (1, nI (i + 1))) else some (Sum.inl (0, nI (i + 1)))) else some (Sum.inl (1, nI (i + 1)))) = (some (Sum.inl (b2i (allB (okN (nR M) kd a1 w) i && okN (nR M) kd a1 w i), nI (i + 1))) : Option ((Int32 × Int32) ⊕ (Int32 × Int32))) := by
          intro v hv
          cases allB (okN (nR M) kd a1 w) i
          · rfl
          · rw [if_neg (by decide), Bool.true_and]
            by_cases q1 : M.1 0 (8 + i) 0 = a1
            · rw [if_pos q1]
              by_cases q2 : v = M.1 0 (8 + i) 4
              · rw [if_pos q2, show okN (nR M) kd a1 w i = true from decide_eq_true (fun _ => q2.symm.trans hv)]; rfl
              · rw [if_neg q2, show okN (nR M) kd a1 w i = false from decide_eq_false (fun z => q2 (hv.trans (z q1).symm))]; rfl
            · rw [if_neg q1, show okN (nR M) kd a1 w i = true from decide_eq_true (fun z => absurd z q1)]; rfl
        by_cases q : M.1 0 (8 + i) 2 = nI w
        · rw [if_pos q]
          exact key _ (by unfold nR; rw [if_pos q])
        · rw [if_neg q]
          exact key _ (by unfold nR; rw [if_neg q])
      · dsimp only
        unfold s_X11_wantsBy_18
        rw [h2, if_pos (by rw [nI_leI (by omega) (by omega)]; omega)]
        rfl
    rw [inner]
    show (if b2i (fitN (nR M) m kd a1 w) = 0 then _ else _) = some (Sum.inl (if fitN (nR M) m kd a1 w = true then wS (fitN (nR M) m kd a1) w ||| (1 <<< (nI w &&& 31)) else wS (fitN (nR M) m kd a1) w, nI (w + 1)))
    rw [nI_1]
    cases fitN (nR M) m kd a1 w
    · show some (Sum.inl (wS (fitN (nR M) m kd a1) w ||| 0, nI (w + 1))) = _
      rw [Int32.or_zero]; rfl
    · rfl
  · rfl
end NT
section ST5
variable {M : gMem}
theorem st_wants {M} (h : INV M) (a1 : Int32) : ∃ r1 r2, x_X10_wants M a1 = some r1 ∧ x_X11_wants r1.2 a1 = some r2 ∧ r1.1 = r2.1 ∧ INV r2.2 := by
  obtain ⟨⟨n, T, m, u, sl, ⟨hW, hC, hM, hh, hd⟩, ⟨m6, m1, m2, m3⟩, hU⟩, _⟩ := id h
  have hn := hW.1
  have hB : (rbM M 0).1 0 60 16 = nI n := by rw [rb60]; exact hM.1
  rcases guest_e a1 hn with ⟨g, hg, rfl, c1, c2⟩ | ⟨c1, c2⟩
  · have g1 : gin (nI g) 7 := gin_n (by omega) (by omega)
    have e1 : (nI g).toNatClampNeg = g := nI_clamp (by omega)
    obtain ⟨kd, hk, ek⟩ := (hW.2 g hg).1
    refine smB h (x2 := fun N => x_X11_wants N _) (wS (fitN (nR M) m kd (nI g)) 8) ?_ ?_
    · unfold x_X10_wants; rw [c1 M 0 hC.1]; show gd (gin (nI g) 7) (Option.bind (x_X1_wantsThatFit M 0 (nI g) (M.1 0 1 (nI g).toNatClampNeg)) _) = _
      rw [gd_i g1, e1, (hC.2 g hg).1, ek, C_wt m6 m1 hk]; rfl
    · show x_X11_wants _ _ = _
      unfold x_X11_wants; rw [c2 M hM.1]; show gd (gin (nI 17 + nI g) 70) (Option.bind (x_X11_wantsBy M (nI g) (M.1 0 60 (nI 17 + nI g).toNatClampNeg)) _) = _
      rw [nI_add, gd_i (gin_n (by omega) (by omega)), nI_clamp (by omega), (hM.2 g hg).1, ek, M_wt m6 m2 m3 hk]; rfl
  · refine rfB h (x2 := fun N => x_X11_wants N _) 0 (by decide) (-2) ?_ ?_
    · unfold x_X10_wants; rw [c1 M 0 hC.1]; rfl
    · show x_X11_wants _ _ = _
      unfold x_X11_wants; rw [c2 _ hB]; rfl
theorem st_is {M} (h : INV M) (a1 : Int32) : ∃ r1 r2, x_X10_is M a1 = some r1 ∧ x_X11_is r1.2 a1 = some r2 ∧ r1.1 = r2.1 ∧ INV r2.2 := by
  obtain ⟨⟨n, T, m, u, sl, ⟨hW, hC, hM, hh, hd⟩, ⟨m6, m1, m2, m3⟩, hU⟩, _⟩ := id h
  have hn := hW.1
  have hB : (rbM M 0).1 0 60 16 = nI n := by rw [rb60]; exact hM.1
  rcases guest_e a1 hn with ⟨g, hg, rfl, c1, c2⟩ | ⟨c1, c2⟩
  · let p : Nat → Bool := fun k => decide (¬ wS (fitN (nR M) m k (nI g)) 8 = 0)
    refine smB h (x2 := fun N => x_X11_is N _) (wS p 6) ?_ ?_
    · unfold x_X10_is; rw [c1 M 0 hC.1]
      refine (bindS (itr_tr (fun i => (wS p i, nI i)) 6 (wS p 6, nI 6) rfl (by omega) (fun i hi => ?_) rfl)).trans rfl
      dsimp only
      unfold s_X10_is_22 j_X10_is_22_46
      have p1 : ¬ (6 : Int32) ≤ nI i := show ¬ nI 6 ≤ nI i from by rw [nI_leI (by omega) (by omega)]; omega
      rw [if_neg p1, C_wt m6 m1 (by omega)]
      show (if wS (fitN (nR M) m i (nI g)) 8 = 0 then _ else _) = some (Sum.inl (if p i = true then wS p i ||| (1 <<< (nI i &&& 31)) else wS p i, nI (i + 1)))
      rw [nI_1]
      by_cases q : wS (fitN (nR M) m i (nI g)) 8 = 0
      · rw [if_pos q, show p i = false from decide_eq_false (fun z => z q)]; rfl
      · rw [if_neg q, show p i = true from decide_eq_true q]; rfl
    · show x_X11_is _ _ = _
      unfold x_X11_is; rw [c2 M hM.1]
      refine (bindS (itr_tr (fun i => (wS p i, nI i)) 6 (wS p 6, nI 6) rfl (by omega) (fun i hi => ?_) rfl)).trans rfl
      dsimp only
      unfold s_X11_is_17 j_X11_is_17_39
      have p1 : ¬ (5 : Int32) < nI i := show ¬ nI 5 < nI i from by rw [nI_ltI (by omega) (by omega)]; omega
      rw [if_neg p1, M_wt m6 m2 m3 (by omega)]
      show (if wS (fitN (nR M) m i (nI g)) 8 = 0 then _ else _) = some (Sum.inl (if p i = true then wS p i ||| (1 <<< (nI i &&& 31)) else wS p i, nI (i + 1)))
      rw [nI_1]
      by_cases q : wS (fitN (nR M) m i (nI g)) 8 = 0
      · rw [if_pos q, show p i = false from decide_eq_false (fun z => z q), Int32.or_zero]; rfl
      · rw [if_neg q, show p i = true from decide_eq_true q]; rfl
  · refine rfB h (x2 := fun N => x_X11_is N _) 0 (by decide) (-2) ?_ ?_
    · unfold x_X10_is; rw [c1 M 0 hC.1]; rfl
    · show x_X11_is _ _ = _
      unfold x_X11_is; rw [c2 _ hB]; rfl
end ST5
