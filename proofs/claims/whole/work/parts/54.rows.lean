/-! smallest, takeIn -/
section RW6
def clo (n : Nat) (T : Nat → Nat → Int32) (a : Nat) : Bool := decide (0 < Wy (fc (127 - a) n) (okW T (nx n (127 - a))) (fc (127 - a) n) 0)
def HMw (M : gMem) (n : Nat) (T : Nat → Nat → Int32) : Prop := M.1 0 60 16 = nI n ∧ ∀ g, g < n → M.1 0 60 (24 + g) = T 2 g ∧ M.1 0 60 (31 + g) = T 3 g
theorem bf_cn : ∀ n, n < 8 → ∀ a, a < 2 ^ n → fc (127 - a) n = fc (127 - a) 7 := by decide +kernel
theorem fc_cg {u v : Nat} : ∀ m, (∀ j, j < m → u.testBit j = v.testBit j) → fc u m = fc v m
  | 0, _ => rfl
  | m + 1, h => by
    show fc u m + _ = fc v m + _
    rw [fc_cg m (fun j hj => h j (by omega)), h m (by omega)]
theorem ff_cg {p q : Nat → Bool} : ∀ m, (∀ j, j < m → p j = q j) → ff p m = ff q m
  | 0, _ => rfl
  | m + 1, h => by
    unfold ff
    rw [ff_cg m (fun j hj => h j (by omega)), h m (by omega)]
theorem nx_cg {u v m : Nat} (h : ∀ j, j < m → u.testBit j = v.testBit j) : nx m u = nx m v := by
  funext t
  exact ff_cg m (fun j hj => by rw [h j hj, fc_cg j (fun i hi => h i (by omega))])
theorem nx_lt {m u i : Nat} (hi : i < fc u m) : nx m u i < m := by
  obtain ⟨j, j1, j2, j3⟩ := nx_ex hi
  rw [← j3, nx_at j1 j2]; exact j1
theorem nx_up {n u i : Nat} (hn : n ≤ 7) (hi : i < fc u n) : nx 7 u i = nx n u i := by
  obtain ⟨j, j1, j2, j3⟩ := nx_ex hi
  rw [← j3, nx_at j1 j2, nx_at (by omega) j2]
theorem nx_inj {n u i j : Nat} (hi : i < fc u n) (hj : j < fc u n) (h : i ≠ j) : nx n u i ≠ nx n u j := by
  obtain ⟨x, x1, x2, x3⟩ := nx_ex hi
  obtain ⟨y, y1, y2, y3⟩ := nx_ex hj
  rw [← x3, nx_at x1 x2, ← y3, nx_at y1 y2]
  intro q
  rw [q, y3] at x3
  exact h x3.symm
theorem clo_127 {n : Nat} (hn : n ≤ 7) (T : Nat → Nat → Int32) : clo n T (2 ^ n - 1) = clo n T 127 := by
  have h : ∀ j, j < n → (127 - (2 ^ n - 1)).testBit j = (127 - 127).testBit j := by
    have : ∀ n, n < 8 → ∀ j, j < n → (127 - (2 ^ n - 1)).testBit j = (127 - 127).testBit j := by decide +kernel
    exact this n (by omega)
  unfold clo
  rw [fc_cg n h, nx_cg h]
variable {M : gMem} {n : Nat} {T : Nat → Nat → Int32}
theorem M_canw (h : HMw M n T) (hn : n ≤ 7) {g w : Nat} (hg : g < n) (hw : w < n) : x_X11_canServe M (nI g) (nI w) = some (b2i (decide (g ≠ w) && csv T g w)) := by
  unfold x_X11_canServe
  by_cases e : g = w
  · subst e
    rw [if_pos rfl]
    simp [b2i]
  · rw [if_neg (nI_ne (by omega) (by omega) e), show (31 : Int32) + nI g = nI (31 + g) from nI_add 31 g, show (24 : Int32) + nI w = nI (24 + w) from nI_add 24 w, gd_i (gin_n (by omega) (by omega)), gd_i (gin_n (by omega) (by omega)), nI_clamp (by omega), nI_clamp (by omega), (h.2 g hg).2, (h.2 w hw).1, has_e]
    show (if b2i (csv T g w) = 0 then some 0 else some 1) = _
    cases csv T g w <;> simp [b2i, e]
theorem M_clo2 (h : HMw M n T) (hn : n ≤ 7) {a : Nat} (ha : a < 2 ^ n) : ∃ N, x_X11_closes M (nI a) = some (b2i (clo n T a), N) ∧ (∀ j, j ≠ 16 → N.1 0 59 j = M.1 0 59 j) ∧ fr (fun c o => c = 0 ∧ (o = 59 ∨ o = 65 ∨ o = 66)) M N := by
  have b4 := (bf_full n (by omega)).2.2.2
  have e := bf_cn n (by omega) a ha
  obtain ⟨N, n1, n2, n3⟩ := M_clo (M := M) (a := a) (ok := okW T (nx n (127 - a))) (by omega) (fun N hN i j hi hj => by
    rw [← e] at hi hj
    have hNw : HMw N n T := by unfold HMw; rw [hN]; exact h
    rw [nx_up hn hi, nx_up hn hj, M_canw hNw hn (nx_lt hi) (nx_lt hj)]
    unfold okW
    by_cases q : i = j
    · subst q; simp
    · have := nx_inj hi hj q
      simp [q, this])
  refine ⟨N, ?_, n2, n3⟩
  rw [n1]
  unfold clo
  rw [e]
theorem M_on {a : Nat} (ha : a < 128) : x_X11_ones (nI a) = some (nI (7 - fc a 7)) := by
  obtain ⟨p, p1, p2, p3, p4⟩ := M_ones (a := a) (by omega)
  rw [p3, ← p2]
  exact bf_pc a ha
/-- what is found among the sets below a -/
def smF (n : Nat) (T : Nat → Nat → Int32) : Nat → Option Nat
  | 0 => none
  | a + 1 => match smF n T a with
    | none => if 2 ≤ 7 - fc a 7 ∧ clo n T a = true then some a else none
    | some f => if 2 ≤ 7 - fc a 7 ∧ 7 - fc a 7 < 7 - fc f 7 ∧ clo n T a = true then some a else some f
theorem smF_s (n : Nat) (T : Nat → Nat → Int32) (a : Nat) : smF n T (a + 1) = match smF n T a with
    | none => if 2 ≤ 7 - fc a 7 ∧ clo n T a = true then some a else none
    | some f => if 2 ≤ 7 - fc a 7 ∧ 7 - fc a 7 < 7 - fc f 7 ∧ clo n T a = true then some a else some f := rfl
def smI : Option Nat → Int32
  | none => -1
  | some f => nI f
def smP : Option Nat → Int32
  | none => 8
  | some f => nI (7 - fc f 7)
theorem smF_lt (a : Nat) : ∀ f, smF n T a = some f → f < a := by
  induction a with
  | zero => intro f h; cases h
  | succ a ih =>
    intro f h
    unfold smF at h
    cases e : smF n T a with
    | none =>
      rw [e] at h
      dsimp only at h
      split at h
      · cases h; omega
      · cases h
    | some x =>
      rw [e] at h
      dsimp only at h
      have := ih x e
      split at h
      · cases h; omega
      · cases h; omega
theorem bf_sh : ∀ n, n < 8 → (1 <<< (nI n &&& 31) : Int32) = nI (2 ^ n) := by decide +kernel
theorem C_sml (hw : HCw M 0 n T) (hn : n ≤ 7) : ∃ N, x_X10_smallest M = some (smI (smF n T (2 ^ n)), N) ∧ fr (fun c o => c = 0 ∧ 38 ≤ o ∧ o < 50) M N := by
  have b4 := (bf_full n (by omega)).2.2.2
  obtain ⟨⟨z1, z2, z3, N⟩, hr, q1, q2⟩ := itr_inv (step := fun s => s_X10_smallest_7 s.1 s.2.1 s.2.2.1 s.2.2.2) (s := (-1, 8, 0, M)) (fun a s => a ≤ 2 ^ n ∧ ∃ N, s = (smI (smF n T a), smP (smF n T a), nI a, N) ∧ fr (fun c o => c = 0 ∧ 38 ≤ o ∧ o < 50) M N) (fun s => s.1 = smI (smF n T (2 ^ n)) ∧ fr (fun c o => c = 0 ∧ 38 ≤ o ∧ o < 50) M s.2.2.2) (2 ^ n) (by omega) ⟨Nat.zero_le _, M, rfl, fr.rf⟩ (by
    rintro a s ⟨ha, N, rfl, hf⟩
    dsimp only at *
    have hN : HCw N 0 n T := ⟨by rw [hf.2 0 0 (by omega)]; exact hw.1, fun g hg => by rw [hf.2 0 2 (by omega), hf.2 0 3 (by omega)]; exact hw.2 g hg⟩
    unfold s_X10_smallest_7 j_X10_smallest_7_55
    by_cases e : a = 2 ^ n
    · subst e
      rw [hN.1, bf_sh n (by omega), if_pos (by rw [nI_leI (by omega) (by omega)]; omega)]
      exact Or.inl ⟨_, rfl, rfl, hf⟩
    · rw [hN.1, bf_sh n (by omega), if_neg (by rw [nI_leI (by omega) (by omega)]; omega), bindS (bf_pc a (by omega)), nI_1]
      refine Or.inr ⟨by omega, ?_⟩
      obtain ⟨N', n1, n2⟩ := C_clo hN hn (a := a) (by omega)
      have hc7 := fc_le a 7
      by_cases p1 : 2 ≤ 7 - fc a 7
      · have i1 : ¬ nI (7 - fc a 7) < 2 := show ¬ nI (7 - fc a 7) < nI 2 from by rw [nI_ltI (by omega) (by omega)]; omega
        rw [if_neg i1]
        cases ef : smF n T a with
        | none =>
          have i2 : ¬ smP none ≤ nI (7 - fc a 7) := show ¬ nI 8 ≤ nI (7 - fc a 7) from by rw [nI_leI (by omega) (by omega)]; omega
          rw [if_neg i2, bindS n1]
          cases hc : clo n T a
          · unfold clo at hc
            rw [hc]
            refine ⟨_, if_pos rfl, by omega, N', ?_, hf.tr n2⟩
            unfold smF
            rw [ef]
            simp [clo, hc]
          · unfold clo at hc
            rw [hc]
            refine ⟨_, if_neg (show ¬ b2i true = 0 by decide), by omega, N', ?_, hf.tr n2⟩
            unfold smF
            rw [ef]
            simp [clo, hc, p1, smI, smP]
        | some f =>
          have hfl := smF_lt a f ef
          by_cases p2 : 7 - fc a 7 < 7 - fc f 7
          · have i2 : ¬ smP (some f) ≤ nI (7 - fc a 7) := show ¬ nI (7 - fc f 7) ≤ nI (7 - fc a 7) from by rw [nI_leI (by omega) (by omega)]; omega
            rw [if_neg i2, bindS n1]
            cases hc : clo n T a
            · unfold clo at hc
              rw [hc]
              refine ⟨_, if_pos rfl, by omega, N', ?_, hf.tr n2⟩
              unfold smF
              rw [ef]
              simp [clo, hc]
            · unfold clo at hc
              rw [hc]
              refine ⟨_, if_neg (show ¬ b2i true = 0 by decide), by omega, N', ?_, hf.tr n2⟩
              unfold smF
              rw [ef]
              simp [clo, hc, p1, p2, smI, smP]
          · have i2 : smP (some f) ≤ nI (7 - fc a 7) := show nI (7 - fc f 7) ≤ nI (7 - fc a 7) from by rw [nI_leI (by omega) (by omega)]; omega
            rw [if_pos i2]
            refine ⟨_, rfl, by omega, N, ?_, hf⟩
            unfold smF
            rw [ef]
            simp [p2]
      · have i1 : nI (7 - fc a 7) < 2 := show nI (7 - fc a 7) < nI 2 from by rw [nI_ltI (by omega) (by omega)]; omega
        rw [if_pos i1]
        refine ⟨_, rfl, by omega, N, ?_, hf⟩
        rw [smF_s]
        cases ef : smF n T a <;> simp [p1])
  dsimp only at *
  refine ⟨N, ?_, q2⟩
  unfold x_X10_smallest
  refine (bindS hr).trans ?_
  rw [q1]
theorem M_sml (hw : HMw M n T) (hn : n ≤ 7) : ∃ N, x_X11_smallest M = some (smI (smF n T (2 ^ n)), N) ∧ (∀ j, j ≠ 16 → N.1 0 59 j = M.1 0 59 j) ∧ fr (fun c o => c = 0 ∧ (o = 59 ∨ o = 65 ∨ o = 66)) M N := by
  have b4 := (bf_full n (by omega)).2.2.2
  have p2n : 0 < 2 ^ n := Nat.two_pow_pos n
  have bfe := (bf_full n (by omega)).2.2.1
  obtain ⟨⟨z1, z2, N⟩, hr, q1, q2, q3⟩ := itr_inv (step := fun s => s_X11_smallest_4 s.1 s.2.1 s.2.2) (s := (-1, 0, M)) (fun a s => a ≤ 2 ^ n ∧ ∃ N, s = (smI (smF n T a), nI a, N) ∧ (∀ j, j ≠ 16 → N.1 0 59 j = M.1 0 59 j) ∧ fr (fun c o => c = 0 ∧ (o = 59 ∨ o = 65 ∨ o = 66)) M N) (fun s => s.1 = smI (smF n T (2 ^ n)) ∧ (∀ j, j ≠ 16 → s.2.2.1 0 59 j = M.1 0 59 j) ∧ fr (fun c o => c = 0 ∧ (o = 59 ∨ o = 65 ∨ o = 66)) M s.2.2) (2 ^ n) (by omega) ⟨by omega, M, rfl, fun _ _ => rfl, fr.rf⟩ (by
    rintro a s ⟨ha, N, rfl, hj, hf⟩
    dsimp only at *
    have hN : HMw N n T := by unfold HMw; rw [hf.2 0 60 (by omega)]; exact hw
    have ev : x_X11_everybody N = some (nI (2 ^ n - 1)) := by unfold x_X11_everybody; rw [hN.1, bfe]
    unfold s_X11_smallest_4
    rw [bindS ev]
    by_cases e : a = 2 ^ n
    · subst e
      rw [if_pos (by rw [nI_ltI (by omega) (by omega)]; omega)]
      exact Or.inl ⟨_, rfl, rfl, hj, hf⟩
    · rw [if_neg (by rw [nI_ltI (by omega) (by omega)]; omega)]
      refine Or.inr ⟨by omega, ?_⟩
      obtain ⟨N', n1, n2, n3⟩ := M_clo2 hN hn (a := a) (by omega)
      have hc7 := fc_le a 7
      have on := M_on (a := a) (by omega)
      have j32 : ∀ b1 t0 : Int32, j_X11_smallest_4_32 N b1 (nI a) t0 = (if 7 - fc a 7 ≤ 1 then some (.inl (b1, nI (a + 1), N)) else if t0 = 0 then some (.inl (b1, nI (a + 1), N)) else if clo n T a = true then some (.inl (nI a, nI (a + 1), N')) else some (.inl (b1, nI (a + 1), N'))) := by
        intro b1 t0
        unfold j_X11_smallest_4_32 j_X11_smallest_4_57 j_X11_smallest_4_58
        rw [bindS on, nI_1]
        by_cases p1 : 7 - fc a 7 ≤ 1
        · have i1 : nI (7 - fc a 7) ≤ 1 := show nI (7 - fc a 7) ≤ nI 1 from by rw [nI_leI (by omega) (by omega)]; omega
          rw [if_pos i1, if_pos p1]
        · have i1 : ¬ nI (7 - fc a 7) ≤ 1 := show ¬ nI (7 - fc a 7) ≤ nI 1 from by rw [nI_leI (by omega) (by omega)]; omega
          rw [if_neg i1, if_neg p1]
          by_cases p2 : t0 = 0
          · rw [if_pos p2, if_pos p2]
          · rw [if_neg p2, if_neg p2, bindS n1]
            cases clo n T a
            · rw [if_pos (b2i_0.mpr rfl), if_neg (by decide)]
            · rw [if_neg (by rw [b2i_0]; decide), if_pos rfl]
      have nj : ∀ j, j ≠ 16 → N'.1 0 59 j = M.1 0 59 j := fun j h => (n2 j h).trans (hj j h)
      cases ef : smF n T a with
      | none =>
        rw [if_pos (show smI none < 0 by decide)]
        unfold j_X11_smallest_4_27
        rw [j32]
        by_cases p1 : 7 - fc a 7 ≤ 1
        · rw [if_pos p1]
          refine ⟨_, rfl, by omega, N, ?_, hj, hf⟩
          unfold smF
          rw [ef]
          simp [show ¬ 2 ≤ 7 - fc a 7 by omega, smI]
        · rw [if_neg p1, if_neg (by decide)]
          cases hc : clo n T a
          · refine ⟨_, if_neg (by decide), by omega, N', ?_, nj, hf.tr n3⟩
            unfold smF
            rw [ef]
            simp [hc, smI]
          · refine ⟨_, if_pos rfl, by omega, N', ?_, nj, hf.tr n3⟩
            unfold smF
            rw [ef]
            simp [hc, show 2 ≤ 7 - fc a 7 by omega, smI]
      | some f =>
        have hfl := smF_lt a f ef
        rw [if_neg (show ¬ smI (some f) < 0 from nI_pos (by omega)), bindS on]
        show ∃ s', Option.bind (x_X11_ones (nI f)) _ = _ ∧ _
        rw [bindS (M_on (a := f) (by omega))]
        unfold j_X11_smallest_4_27
        rw [j32, j32]
        by_cases p2 : 7 - fc a 7 < 7 - fc f 7
        · rw [if_neg (show ¬ nI (7 - fc f 7) ≤ nI (7 - fc a 7) by rw [nI_leI (by omega) (by omega)]; omega)]
          by_cases p1 : 7 - fc a 7 ≤ 1
          · rw [if_pos p1]
            refine ⟨_, rfl, by omega, N, ?_, hj, hf⟩
            unfold smF
            rw [ef]
            simp [show ¬ 2 ≤ 7 - fc a 7 by omega, smI]
          · rw [if_neg p1, if_neg (by decide)]
            cases hc : clo n T a
            · refine ⟨_, if_neg (by decide), by omega, N', ?_, nj, hf.tr n3⟩
              unfold smF
              rw [ef]
              simp [hc, smI]
            · refine ⟨_, if_pos rfl, by omega, N', ?_, nj, hf.tr n3⟩
              unfold smF
              rw [ef]
              simp [hc, show 2 ≤ 7 - fc a 7 by omega, p2, smI]
        · rw [if_pos (show nI (7 - fc f 7) ≤ nI (7 - fc a 7) by rw [nI_leI (by omega) (by omega)]; omega)]
          by_cases p1 : 7 - fc a 7 ≤ 1
          · rw [if_pos p1]
            refine ⟨_, rfl, by omega, N, ?_, hj, hf⟩
            unfold smF
            rw [ef]
            simp [p2, smI]
          · rw [if_neg p1, if_pos rfl]
            refine ⟨_, rfl, by omega, N, ?_, hj, hf⟩
            unfold smF
            rw [ef]
            simp [p2, smI])
  dsimp only at *
  refine ⟨N, ?_, q2, q3⟩
  unfold x_X11_smallest
  refine (bindS hr).trans ?_
  rw [q1]
theorem st_smallest {M} (h : INV M) : ∃ r1 r2, x_X10_smallest M = some r1 ∧ x_X11_smallest r1.2 = some r2 ∧ r1.1 = r2.1 ∧ INV r2.2 := by
  obtain ⟨⟨n, T, m, u, sl, ⟨hW, hC, hM, hh, hd⟩, hN, hU⟩, _⟩ := id h
  have hn := hW.1
  obtain ⟨A, a1, a2⟩ := C_sml (M := M) (n := n) (T := T) ⟨hC.1, fun g hg => ⟨(hC.2 g hg).2.1, (hC.2 g hg).2.2.1⟩⟩ hn
  have hA : HMw A n T := by
    unfold HMw
    rw [a2.2 0 60 (by omega)]
    exact ⟨hM.1, fun g hg => ⟨(hM.2 g hg).2.1, (hM.2 g hg).2.2.1⟩⟩
  obtain ⟨B, b1, b2, b3⟩ := M_sml hA hn
  refine ⟨_, _, a1, b1, rfl, ?_⟩
  refine h.sc (((a2.mono (fun c o q => ?_)).tr (b3.mono (fun c o q => ?_)))) ?_ ?_
  · unfold SP; omega
  · unfold SP; omega
  · show B.1 0 59 5 = _
    rw [b2 5 (by decide), a2.2 0 59 (by omega)]
  · show B.1 0 59 14 = _
    rw [b2 14 (by decide), a2.2 0 59 (by omega)]
end RW6
