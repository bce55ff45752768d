section MD2
variable {M : gMem} {n : Nat} {T : Nat → Nat → Int32}
def qq (T : Nat → Nat → Int32) (g w : Nat) : Bool := decide (T 4 g = nI w) && csv T g w
theorem cN_lt {p : Nat → Bool} {w : Nat} (hp : p w = false) : ∀ n, w < n → cN p n + 1 ≤ n
  | 0, h => absurd h (Nat.not_lt_zero w)
  | n + 1, h => by
    show cN p n + (if p n = true then 1 else 0) + 1 ≤ n + 1
    by_cases e : w = n
    · subst e
      rw [hp]
      have := cN_le p w
      simp
      exact this
    · have := cN_lt hp n (by omega)
      split <;> omega
theorem cN_cg {p q : Nat → Bool} : ∀ n, (∀ g, g < n → p g = q g) → cN p n = cN q n
  | 0, _ => rfl
  | n + 1, h => by
    show cN p n + (if p n = true then 1 else 0) = cN q n + (if q n = true then 1 else 0)
    rw [cN_cg n (fun g hg => h g (by omega)), h n (by omega)]
theorem C_svs (h : HC M 0 n T) (hW : WFT n T) {w : Nat} (hw : w < n) : x_X1_serversOf M 0 (nI w) = some (nI (cN (fun g => qq T g w) n)) := by
  have hn := hW.1
  unfold x_X1_serversOf
  refine (bindS (itr_tr (fun i => (nI (cN (fun g => qq T g w) i), nI i)) n (nI (cN (fun g => qq T g w) n), nI n) rfl (by omega) (fun i hi => ?_) ?_)).trans rfl
  · dsimp only
    unfold s_X1_serversOf_4 j_X1_serversOf_4_24
    rw [h.1, if_neg (by rw [nI_leI (by omega) (by omega)]; omega)]
    refine (bindS (C_does h hW hi hw)).trans ?_
    show _ = some (Sum.inl (nI (cN (fun g => qq T g w) i + (if (decide (T 4 i = nI w) && csv T i w) = true then 1 else 0)), nI (i + 1)))
    cases (decide (T 4 i = nI w) && csv T i w)
    · rw [if_pos (b2i_0.mpr rfl), nI_1]; rfl
    · rw [if_neg (show ¬ b2i true = 0 by decide), nI_1, nI_1]; rfl
  · dsimp only
    unfold s_X1_serversOf_4
    rw [h.1, if_pos (by rw [nI_leI (by omega) (by omega)]; omega)]
theorem qq_6 (hW : WFT n T) {w : Nat} (hw : w < n) : cN (fun g => qq T g w) n ≤ 6 := by
  have hn := hW.1
  have hp : qq T w w = false := by
    unfold qq
    rcases (hW.2 w hw).2.2 with e | ⟨d, hd, hne, e⟩
    · have hm : ¬ (-1 : Int32) = nI w := fun q => nI_nm1 (a := w) (by omega) q.symm
      rw [e]; simp [hm]
    · rw [e]; simp [nI_ne (a := d) (b := w) (by omega) (by omega) hne]
  have := cN_lt (p := fun g => qq T g w) hp n hw
  omega
theorem C_odd {c k : Nat} (hc : c ≤ 10) (hk : k ≤ 6) : x_X10_oddsOfNone (nI k) (nI c) = some (nI (odd6 c k)) := by
  unfold x_X10_oddsOfNone
  refine (bindS (itr_tr (fun i => (nI (odd6 c i), nI i)) k (nI (odd6 c k), nI k) ?_ (by omega) (fun i hi => ?_) ?_)).trans rfl
  · show ((1000000 : Int32), (0 : Int32)) = (nI (odd6 c 0), nI 0)
    unfold odd6
    rw [Nat.pow_zero, Nat.mul_one]
    rfl
  · dsimp only
    have hb := odd_le (c := c) (k := i) (by omega)
    unfold s_X10_oddsOfNone_5
    rw [if_neg (by rw [nI_leI (by omega) (by omega)]; omega), show (10 : Int32) = nI 10 from rfl, pk_div (by omega) (by omega) (by omega), pk_sub hc, pk_mul, odd_s (by omega), nI_1]
  · dsimp only
    unfold s_X10_oddsOfNone_5
    rw [if_pos (by rw [nI_leI (by omega) (by omega)]; omega)]
theorem C_mds (h : HC M 0 n T) (hW : WFT n T) {c : Nat} (hc : c ≤ 10) : itr FU (fun s => s_X10_moods_20 M (nI c) s.1 s.2) (0, 0) = some (nI (sm (fun w => 1000000 - odd6 c (cN (fun g => qq T g w) n)) n), nI n) := by
  have hn := hW.1
  refine itr_tr (fun i => (nI (sm (fun w => 1000000 - odd6 c (cN (fun g => qq T g w) n)) i), nI i)) n _ rfl (by omega) (fun i hi => ?_) ?_
  · dsimp only
    unfold s_X10_moods_20
    rw [h.1, if_neg (by rw [nI_leI (by omega) (by omega)]; omega)]
    refine (bindS (C_svs h hW hi)).trans ((bindS (C_odd hc (qq_6 hW hi))).trans ?_)
    have hb := odd_le (c := c) (qq_6 hW hi)
    rw [show (1000000 : Int32) = nI 1000000 from rfl, pk_sub hb, nI_add, nI_1]
    rfl
  · dsimp only
    unfold s_X10_moods_20
    rw [h.1, if_pos (by rw [nI_leI (by omega) (by omega)]; omega)]
theorem eu_i {a b x y i : Nat} (hP : a * b * 2 < 2 ^ 60) (hy : 0 < y) (h : (i = 0 ∧ x = a ∧ y = b) ∨ (y < x ∧ x * y * 2 ^ i ≤ a * b * 2)) : i < 60 := by
  rcases h with h | ⟨h1, h2⟩
  · omega
  · have h3 : 1 ≤ x * y := Nat.mul_pos (by omega) hy
    have h4 : 1 * 2 ^ i ≤ x * y * 2 ^ i := Nat.mul_le_mul_right _ h3
    exact (Nat.pow_lt_pow_iff_right (by decide : 1 < 2)).mp (by omega)
theorem eu_s {a b x y i : Nat} (hy : 0 < y) (h : (i = 0 ∧ x = a ∧ y = b) ∨ (y < x ∧ x * y * 2 ^ i ≤ a * b * 2)) : x % y < y ∧ y * (x % y) * 2 ^ (i + 1) ≤ a * b * 2 := by
  refine ⟨Nat.mod_lt x hy, ?_⟩
  rcases h with ⟨rfl, rfl, rfl⟩ | ⟨h1, h2⟩
  · have h1 : y * (x % y) ≤ y * x := Nat.mul_le_mul_left y (Nat.mod_le x y)
    rw [Nat.mul_comm x y]
    exact Nat.mul_le_mul_right 2 h1
  · have h3 := eu_h hy h1
    have h4 : y * (x % y) * 2 * 2 ^ i ≤ x * y * 2 ^ i := Nat.mul_le_mul_right _ h3
    calc y * (x % y) * 2 ^ (i + 1) = y * (x % y) * 2 * 2 ^ i := by rw [Nat.pow_succ]; ac_rfl
      _ ≤ x * y * 2 ^ i := h4
      _ ≤ _ := h2
theorem eu_g (x y : Nat) : Nat.gcd y (x % y) = Nat.gcd x y := by rw [Nat.gcd_comm y, ← Nat.gcd_rec, Nat.gcd_comm]
theorem C_eu {a b : Nat} (p1 p2 : Int32) (ha : a < 2 ^ 31) (hb : b < 2 ^ 31) (hP : a * b * 2 < 2 ^ 60) : ∃ z, itr FU (fun s => s_X10_keepFraction_8 M p1 p2 s.1 s.2.1 s.2.2) (nI a, nI b, 0) = some (nI (Nat.gcd a b), z) := by
  obtain ⟨⟨z1, z⟩, hr, q⟩ := itr_inv (step := fun s => s_X10_keepFraction_8 M p1 p2 s.1 s.2.1 s.2.2) (s := (nI a, nI b, 0)) (fun i s => ∃ x y, s = (nI x, nI y, nI i) ∧ Nat.gcd x y = Nat.gcd a b ∧ x < 2 ^ 31 ∧ y < 2 ^ 31 ∧ ((i = 0 ∧ x = a ∧ y = b) ∨ (y < x ∧ x * y * 2 ^ i ≤ a * b * 2))) (fun r => r.1 = nI (Nat.gcd a b)) 64 (by omega) ⟨a, b, rfl, rfl, ha, hb, Or.inl ⟨rfl, rfl, rfl⟩⟩ (by
    rintro i s ⟨x, y, rfl, hg, hx, hy, hI⟩
    dsimp only at *
    unfold s_X10_keepFraction_8
    by_cases e : y = 0
    · subst e
      rw [Nat.gcd_zero_right] at hg
      left
      by_cases e2 : (64 : Int32) ≤ nI i
      · rw [if_pos e2]; exact ⟨_, rfl, by rw [hg]⟩
      · rw [if_neg e2, if_pos (show nI 0 = 0 from rfl)]; exact ⟨_, rfl, by rw [hg]⟩
    · have hi := eu_i hP (by omega) hI
      have nz : ¬ nI y = 0 := nI_ne0 (by omega) (by omega)
      have p64 : ¬ (64 : Int32) ≤ nI i := show ¬ nI 64 ≤ nI i from by rw [nI_leI (by omega) (by omega)]; omega
      have hs := eu_s (show 0 < y by omega) hI
      rw [if_neg p64, if_neg nz, gd_i nz, pk_rem hx (by omega) hy, nI_1]
      exact Or.inr ⟨by omega, _, rfl, y, x % y, rfl, by rw [eu_g]; exact hg, hy, by omega, Or.inr hs⟩)
  dsimp only at q
  subst q
  exact ⟨z, hr⟩
theorem M_eu {a b : Nat} (q1 q2 : Int64) (ha : a < 2 ^ 31) (hb : b < 2 ^ 31) (hP : a * b * 2 < 2 ^ 60) : ∃ z, itr FU (fun s => s_X11_moods_176 M q1 q2 s.1 s.2) (lN a, lN b) = some (lN (Nat.gcd a b), z) := by
  obtain ⟨⟨z1, z⟩, hr, q⟩ := itr_inv (step := fun s => s_X11_moods_176 M q1 q2 s.1 s.2) (s := (lN a, lN b)) (fun i s => ∃ x y, s = (lN x, lN y) ∧ Nat.gcd x y = Nat.gcd a b ∧ x < 2 ^ 31 ∧ y < 2 ^ 31 ∧ ((i = 0 ∧ x = a ∧ y = b) ∨ (y < x ∧ x * y * 2 ^ i ≤ a * b * 2))) (fun r => r.1 = lN (Nat.gcd a b)) 64 (by omega) ⟨a, b, rfl, rfl, ha, hb, Or.inl ⟨rfl, rfl, rfl⟩⟩ (by
    rintro i s ⟨x, y, rfl, hg, hx, hy, hI⟩
    dsimp only at *
    unfold s_X11_moods_176
    by_cases e : y = 0
    · subst e
      rw [Nat.gcd_zero_right] at hg
      left
      rw [if_pos (show lg_cmp (lN 0) 0 = 0 from (lg_cmp_eq _ _).mpr rfl)]
      exact ⟨_, rfl, by rw [hg]⟩
    · have hi := eu_i hP (by omega) hI
      have nz : ¬ lN y = 0 := fun q => e ((pk_lEQ (a := y) (b := 0) (by omega) (by omega)).mp q)
      have hs := eu_s (show 0 < y by omega) hI
      rw [if_neg (fun q => nz ((lg_cmp_eq _ _).mp q)), gd_i nz, pk_lRem (by omega) (by omega) (by omega)]
      exact Or.inr ⟨by omega, _, rfl, y, x % y, rfl, by rw [eu_g]; exact hg, hy, by omega, Or.inr hs⟩)
  dsimp only at q
  subst q
  exact ⟨z, hr⟩
theorem M_in (hn : n ≤ 7) (h16 : M.1 0 60 16 = nI n) {d : Nat → Int32} (h69 : ∀ g, g < n → M.1 0 69 (2 + g) = d g) {a c : Nat} (ha : a < 128) (hc : c ≤ 10) (q1 q2 : Int64) : ∃ N, itr FU (fun s => s_X11_moods_73 (nI c) q1 q2 (nI a) s.1 s.2.1 s.2.2) (1, 0, M) = some (lN (pdt c a n), nI n, N) ∧ (∀ g, g < n → N.1 0 60 (2 + g) = if a.testBit g = true then d g else -1) ∧ (∀ j, (j < 2 ∨ 2 + n ≤ j) → N.1 0 60 j = M.1 0 60 j) ∧ fr P6 M N := by
  obtain ⟨⟨z1, z2, N⟩, hr, r1, r2, r3, r4, r5⟩ := itr_inv (step := fun s => s_X11_moods_73 (nI c) q1 q2 (nI a) s.1 s.2.1 s.2.2) (s := (1, 0, M)) (fun i s => i ≤ n ∧ ∃ N, s = (lN (pdt c a i), nI i, N) ∧ (∀ g, g < i → N.1 0 60 (2 + g) = if a.testBit g = true then d g else -1) ∧ (∀ j, (j < 2 ∨ 2 + n ≤ j) → N.1 0 60 j = M.1 0 60 j) ∧ fr P6 M N) (fun s => s.1 = lN (pdt c a n) ∧ s.2.1 = nI n ∧ (∀ g, g < n → s.2.2.1 0 60 (2 + g) = if a.testBit g = true then d g else -1) ∧ (∀ j, (j < 2 ∨ 2 + n ≤ j) → s.2.2.1 0 60 j = M.1 0 60 j) ∧ fr P6 M s.2.2) n (by omega) ⟨by omega, M, rfl, fun g hg => absurd hg (Nat.not_lt_zero g), fun _ _ => rfl, fr.rf⟩ (by
    rintro i s ⟨hi, N, rfl, h1, h2, h3⟩
    dsimp only at *
    unfold s_X11_moods_73 j_X11_moods_73_107 j_X11_moods_73_141
    by_cases e : i = n
    · subst e
      rw [h2 16 (by omega), h16, if_pos (by rw [nI_leI (by omega) (by omega)]; omega)]
      exact Or.inl ⟨_, rfl, rfl, rfl, h1, h2, h3⟩
    · have n69 : N.1 0 69 (2 + i) = d i := by rw [h3.2 0 69 (by omega)]; exact h69 i (by omega)
      have hh := bf_has a ha i (by omega)
      have a2 : (2 : Int32) + nI i = nI (2 + i) := nI_add 2 i
      have g1 : gin (nI (2 + i)) 70 := gin_n (by omega) (by omega)
      have g2 : gin (nI (2 + i)) 16 := gin_n (by omega) (by omega)
      have c2 : (nI (2 + i)).toNatClampNeg = 2 + i := nI_clamp (by omega)
      have s10 : (10 : Int32) - nI c = nI (10 - c) := show nI 10 - nI c = _ from pk_sub hc
      rw [h2 16 (by omega), h16, if_neg (by rw [nI_leI (by omega) (by omega)]; omega)]
      simp only [a2, gd_i g1, gd_i g2, c2, n69, s10, nI_l (show c < 2 ^ 31 by omega), nI_l (show 10 - c < 2 ^ 31 by omega), nI_1]
      have fin : ∀ v, v = (if a.testBit i = true then d i else -1) → (i + 1 ≤ n ∧ ∃ N', (lN (pdt c a (i + 1)), nI (i + 1), gwr N 0 60 (2 + i) v) = (lN (pdt c a (i + 1)), nI (i + 1), N') ∧ (∀ g, g < i + 1 → N'.1 0 60 (2 + g) = if a.testBit g = true then d g else -1) ∧ (∀ j, (j < 2 ∨ 2 + n ≤ j) → N'.1 0 60 j = M.1 0 60 j) ∧ fr P6 M N') := by
        intro v hv
        refine ⟨by omega, gwr N 0 60 (2 + i) v, rfl, fun g hg => ?_, fun j hj => ?_, h3.wr ⟨rfl, rfl⟩⟩
        · by_cases eg : g = i
          · subst eg; rw [gwr_j]; exact hv
          · rw [gwr_k _ _ _ _ (by omega)]; exact h1 g (by omega)
        · rw [gwr_k _ _ _ _ (by omega)]; exact h2 j hj
      cases hb : a.testBit i
      · rw [hb] at hh fin
        refine Or.inr ⟨by omega, (lN (pdt c a (i + 1)), nI (i + 1), gwr N 0 60 (2 + i) (-1)), ?_, fin _ rfl⟩
        rw [bindS hh, if_pos (b2i_0.mpr rfl), bindS hh, if_pos (b2i_0.mpr rfl), lN_mul, pdt_s, hb]
        rfl
      · rw [hb] at hh fin
        refine Or.inr ⟨by omega, (lN (pdt c a (i + 1)), nI (i + 1), gwr N 0 60 (2 + i) (d i)), ?_, fin _ rfl⟩
        rw [bindS hh, if_neg (show ¬ b2i true = 0 by decide), bindS hh, if_neg (show ¬ b2i true = 0 by decide), lN_mul, pdt_s, hb]
        rfl)
  dsimp only at *
  subst r1; subst r2
  exact ⟨N, hr, r3, r4, r5⟩
theorem ff_all (p : Nat → Bool) (n : Nat) : decide (ff p n < n) = !allB (fun g => !p g) n := by
  obtain ⟨h1, h2, h3⟩ := ff_spec p n
  by_cases e : ff p n < n
  · have := allB_f (p := fun g => !p g) (i := ff p n) (by simp [h3 e]) n e
    rw [this]
    simp [e]
  · have e1 : ff p n = n := by omega
    have hall : ∀ k, k ≤ n → allB (fun g => !p g) k = true := by
      intro k hk
      induction k with
      | zero => rfl
      | succ k ih =>
        show (allB (fun g => !p g) k && !p k) = true
        rw [ih (by omega), h2 k (by omega)]
        rfl
    rw [hall n (Nat.le_refl n)]
    simp [e]
def Tm (T : Nat → Nat → Int32) (a : Nat) : Nat → Nat → Int32 := TD T (fun g => if a.testBit g = true then T 4 g else -1)
theorem isS_m (hW : WFT n T) (a : Nat) {w : Nat} (hw : w < n) : isS n (Tm T a) w = !nsv (fun g => qq T g w) a n := by
  have hn := hW.1
  unfold isS srv
  rw [ff_all]
  congr 1
  refine allB_cg n (fun g hg => ?_)
  show (!(decide ((if a.testBit g = true then T 4 g else -1) = nI w) && csv T g w)) = (!(a.testBit g && (decide (T 4 g = nI w) && csv T g w)))
  cases a.testBit g
  · have : ¬ (-1 : Int32) = nI w := fun q => nI_nm1 (a := w) (by omega) q.symm
    simp [this]
  · simp
theorem M_sets (hM : HM M n T) (hW : WFT n T) (h69 : ∀ g, g < n → M.1 0 69 (2 + g) = T 4 g) {c : Nat} (hc : c ≤ 10) (q : Int64) : ∃ N z, itr FU (fun s => s_X11_moods_58 (nI c) q s.1 s.2.1 s.2.2) (0, 0, M) = some (lN (sm (fun S => pdt c S n * cN (fun w => !nsv (fun g => qq T g w) S n) n) (2 ^ n)), z, N) ∧ (∀ j, 16 ≤ j → N.1 0 60 j = M.1 0 60 j) ∧ fr P6 M N := by
  have hn := hW.1
  obtain ⟨_, _, b3, b4⟩ := bf_full n (by omega)
  have p2 : 0 < 2 ^ n := Nat.two_pow_pos n
  obtain ⟨⟨z1, z2, N⟩, hr, r1, r2, r3⟩ := itr_inv (step := fun s => s_X11_moods_58 (nI c) q s.1 s.2.1 s.2.2) (s := (0, 0, M)) (fun a s => a ≤ 2 ^ n ∧ ∃ N, s = (lN (sm (fun S => pdt c S n * cN (fun w => !nsv (fun g => qq T g w) S n) n) a), nI a, N) ∧ (∀ j, (j < 2 ∨ 2 + n ≤ j) → N.1 0 60 j = M.1 0 60 j) ∧ fr P6 M N) (fun s => s.1 = lN (sm (fun S => pdt c S n * cN (fun w => !nsv (fun g => qq T g w) S n) n) (2 ^ n)) ∧ (∀ j, (j < 2 ∨ 2 + n ≤ j) → s.2.2.1 0 60 j = M.1 0 60 j) ∧ fr P6 M s.2.2) (2 ^ n) (by omega) ⟨by omega, M, rfl, fun _ _ => rfl, fr.rf⟩ (by
    rintro a s ⟨ha, N, rfl, h1, h2⟩
    dsimp only at *
    have ev : x_X11_everybody N = some (nI (2 ^ n - 1)) := by unfold x_X11_everybody; rw [h1 16 (by omega), hM.1, b3]
    unfold s_X11_moods_58
    rw [bindS ev]
    by_cases e : a = 2 ^ n
    · subst e
      rw [if_pos (by rw [nI_ltI (by omega) (by omega)]; omega)]
      exact Or.inl ⟨_, rfl, rfl, h1, h2⟩
    · obtain ⟨K, k1, k2, k3, k4⟩ := M_in hn (show N.1 0 60 16 = nI n by rw [h1 16 (by omega)]; exact hM.1) (d := fun g => T 4 g) (fun g hg => by rw [h2.2 0 69 (by omega)]; exact h69 g hg) (a := a) (by omega) hc (lN (sm (fun S => pdt c S n * cN (fun w => !nsv (fun g => qq T g w) S n) n) a)) q
      have hK : HM K n (Tm T a) := by
        refine ⟨by rw [k3 16 (by omega), h1 16 (by omega)]; exact hM.1, fun g hg => ?_⟩
        have h5 := hM.2 g hg
        rw [k3 (17 + g) (by omega), k3 (24 + g) (by omega), k3 (31 + g) (by omega), k3 (9 + g) (by omega), h1 (17 + g) (by omega), h1 (24 + g) (by omega), h1 (31 + g) (by omega), h1 (9 + g) (by omega)]
        exact ⟨h5.1, h5.2.1, h5.2.2.1, k2 g hg, h5.2.2.2.2⟩
      have hWm : WFT n (Tm T a) := by
        refine ⟨hn, fun g hg => ⟨(hW.2 g hg).1, (hW.2 g hg).2.1, ?_⟩⟩
        show (if a.testBit g = true then T 4 g else -1) = -1 ∨ ∃ d, d < n ∧ d ≠ g ∧ (if a.testBit g = true then T 4 g else -1) = nI d
        cases a.testBit g
        · left; rfl
        · exact (hW.2 g hg).2.2
      have sc := M_sc hK hWm
      rw [cN_cg n (fun w hw => isS_m hW a hw)] at sc
      have hcb := cN_le (fun w => !nsv (fun g => qq T g w) a n) n
      rw [if_neg (by rw [nI_ltI (by omega) (by omega)]; omega), bindS k1]
      refine Or.inr ⟨by omega, (lN (sm (fun S => pdt c S n * cN (fun w => !nsv (fun g => qq T g w) S n) n) (a + 1)), nI (a + 1), K), ?_, by omega, K, rfl, fun j hj => (k3 j hj).trans (h1 j hj), h2.tr k4⟩
      refine (bindS sc).trans ?_
      dsimp only
      rw [nI_l (by omega), lN_mul, lN_add, nI_1]
      rfl)
  dsimp only at *
  subst r1
  exact ⟨N, z2, hr, fun j hj => r2 j (by omega), r3⟩
theorem M_ten (h16 : M.1 0 60 16 = nI n) (hn : n ≤ 7) (p : Int32) (q : Int64) : itr FU (fun s => s_X11_moods_29 M p q s.1 s.2) (1, 0) = some (lN (10 ^ n), nI n) := by
  refine itr_tr (fun i => (lN (10 ^ i), nI i)) n _ rfl (by omega) (fun i hi => ?_) ?_
  · dsimp only
    unfold s_X11_moods_29
    rw [h16, if_neg (by rw [nI_leI (by omega) (by omega)]; omega), show (10 : Int64) = lN 10 from rfl, lN_mul, nI_1, Nat.pow_succ]
  · dsimp only
    unfold s_X11_moods_29
    rw [h16, if_pos (by rw [nI_leI (by omega) (by omega)]; omega)]
theorem INV.l2 {M N : gMem} (h : INV M) (h1 : N.1 = M.1) (h2 : LNR N) : INV N := by
  obtain ⟨hh, ⟨i0, i1⟩, t, r, l, s⟩ := h
  unfold INV IMR TXR RFR SLR at *
  rw [h1]
  exact ⟨hh, ⟨i0, i1⟩, t, r, h2, s⟩
theorem sm_le {f : Nat → Nat} {b : Nat} (h : ∀ i, f i ≤ b) : ∀ n, sm f n ≤ n * b
  | 0 => Nat.zero_le _
  | n + 1 => by
    rw [sm_s, Nat.succ_mul]
    exact Nat.add_le_add (sm_le h n) (h n)
theorem st_moods {M} (h : INV M) (a1 : Int32) : ∃ r1 r2, x_X10_moods M a1 = some r1 ∧ x_X11_moods r1.2 a1 = some r2 ∧ r1.1 = r2.1 ∧ INV r2.2 := by
  obtain ⟨⟨n, T, m, u, sl, ⟨hW, hC, hM, hh, hd⟩, hN, hU⟩, _⟩ := id h
  have hn := hW.1
  have one0 : ¬ (1 : Int32) = 0 := by decide
  rcases below_e a1 11 10 11 (b := 10) (by decide) rfl rfl rfl rfl with ⟨c, hc, rfl, d1, d2⟩ | ⟨d1, d2⟩
  · have hc10 : c ≤ 10 := by omega
    have hx := sum_x hc10 (qq T) (fun w hw => qq_6 hW hw)
    have cs := C_mds (M := M) hC hW hc10
    have bC : sm (fun w => 1000000 - odd6 c (cN (fun g => qq T g w) n)) n ≤ n * 1000000 := sm_le (fun i => Nat.sub_le _ _) n
    obtain ⟨sC, hsC⟩ : ∃ sC, sC = sm (fun w => 1000000 - odd6 c (cN (fun g => qq T g w) n)) n := ⟨_, rfl⟩
    obtain ⟨sR, hsR⟩ : ∃ sR, sR = sm (fun S => pdt c S n * cN (fun w => !nsv (fun g => qq T g w) S n) n) (2 ^ n) := ⟨_, rfl⟩
    rw [← hsC] at cs bC hx
    rw [← hsR] at hx
    have t0 : 0 < 10 ^ n := Nat.pow_pos (by omega)
    have t7 : 10 ^ n ≤ 10000000 := Nat.le_trans (Nat.pow_le_pow_right (by omega) hn) (by decide)
    have bC7 : sC ≤ 7000000 := by omega
    have bR : sR ≤ 70000000 := by
      have h1 : sC * 10 ^ n ≤ 7000000 * 10000000 := Nat.mul_le_mul bC7 t7
      omega
    have hpC : sC * 1000000 * 2 < 2 ^ 60 := by omega
    have hpR : sR * 10 ^ n * 2 < 2 ^ 60 := by
      have h1 : sR * 10 ^ n ≤ 70000000 * 10000000 := Nat.mul_le_mul bR t7
      omega
    obtain ⟨eq1, eq2⟩ := red_x (p := sC) (q := 1000000) (p' := sR) (q' := 10 ^ n) (by omega) t0 hx
    obtain ⟨zC, ec⟩ := C_eu (M := M) (nI sC) 1000000 (show sC < 2 ^ 31 by omega) (show 1000000 < 2 ^ 31 by omega) hpC
    have gC0 : 0 < Nat.gcd sC 1000000 := Nat.gcd_pos_of_pos_right _ (by omega)
    have gC1 : Nat.gcd sC 1000000 ≤ 1000000 := Nat.le_of_dvd (by omega) (Nat.gcd_dvd_right _ _)
    have gR0 : 0 < Nat.gcd sR (10 ^ n) := Nat.gcd_pos_of_pos_right _ t0
    have gR1 : Nat.gcd sR (10 ^ n) ≤ 10 ^ n := Nat.le_of_dvd t0 (Nat.gcd_dvd_right _ _)
    have dC1 : sC / Nat.gcd sC 1000000 ≤ sC := Nat.div_le_self _ _
    have dC2 : 1000000 / Nat.gcd sC 1000000 ≤ 1000000 := Nat.div_le_self _ _
    obtain ⟨A, hA⟩ : ∃ A, A = gwl (gwl M 34 7 (lN (sC / Nat.gcd sC 1000000))) 34 8 (lN (1000000 / Nat.gcd sC 1000000)) := ⟨_, rfl⟩
    have A1 : A.1 = M.1 := by rw [hA]; rfl
    obtain ⟨K, k1, k2, k3⟩ := M_put A
    have K60 : K.1 0 60 = M.1 0 60 := by rw [k3.2 0 60 (by omega), A1]
    have hMK : HM K n T := by unfold HM; rw [K60]; exact hM
    have k69 : ∀ g, g < n → K.1 0 69 (2 + g) = T 4 g := fun g hg => by rw [k2 (2 + g) (by omega), A1]; exact (hM.2 g hg).2.2.2.1
    have ten := M_ten hMK.1 hn (nI c) 0
    obtain ⟨N, z, s1, s2, s3⟩ := M_sets hMK hW k69 hc10 (lN (10 ^ n))
    rw [← hsR] at s1
    obtain ⟨L, l1, l2, l3, l4⟩ := M_tak N
    obtain ⟨zR, er⟩ := M_eu (M := L) (lN sR) (lN (10 ^ n)) (show sR < 2 ^ 31 by omega) (show 10 ^ n < 2 ^ 31 by omega) hpR
    have nzC : ¬ nI (Nat.gcd sC 1000000) = 0 := nI_ne0 gC0 (by omega)
    have nzR : ¬ lN (Nat.gcd sR (10 ^ n)) = 0 := fun q => by
      have := (pk_lEQ (a := Nat.gcd sR (10 ^ n)) (b := 0) (by omega) (by omega)).mp q
      omega
    refine ⟨(1, A), (1, gwl (gwl L 59 1 (lN (sR / Nat.gcd sR (10 ^ n)))) 59 2 (lN (10 ^ n / Nat.gcd sR (10 ^ n)))), ?_, ?_, rfl, ?_⟩
    · unfold x_X10_moods
      refine (bindS d1).trans ?_
      rw [if_neg one0]
      refine (bindS cs).trans ?_
      have kf : x_X10_keepFraction M (nI sC) 1000000 = some A := by
        unfold x_X10_keepFraction
        refine (bindS ec).trans ?_
        dsimp only
        rw [if_neg (nI_nle gC0 (by omega)), gd_i nzC, gd_i nzC, show (1000000 : Int32) = nI 1000000 from rfl, pk_div (by omega) gC0 (by omega), pk_div (by omega) gC0 (by omega), nI_l (by omega), nI_l (by omega), hA]
      exact (bindS kf).trans rfl
    · show x_X11_moods A _ = _
      unfold x_X11_moods
      refine (bindS d2).trans ?_
      rw [if_neg one0]
      refine (bindS k1).trans ((bindS ten).trans ((bindS s1).trans ((bindS l1).trans ((bindS er).trans ?_))))
      dsimp only
      rw [gd_i nzR, gd_i nzR, pk_lDiv (by omega) gR0 (by omega), pk_lDiv (by omega) gR0 (by omega)]
    · obtain ⟨F, hF⟩ : ∃ F : gMem, F = (L.1, M.2) := ⟨_, rfl⟩
      have F1 : F.1 = L.1 := by rw [hF]
      have L60 : L.1 0 60 = M.1 0 60 := by
        funext j
        by_cases hj : j < 16
        · rw [l2 j hj, s3.2 0 69 (by omega), k2 j hj, A1]
        · rw [l3 j (by omega), s2 j (by omega), K60]
      have Lo : ∀ c o, ¬ (c = 0 ∧ (o = 60 ∨ o = 69)) → L.1 c o = M.1 c o := fun c o q => by rw [l4.2 c o (by omega), s3.2 c o (by omega), k3.2 c o (by omega), A1]
      have hIF : INV F := by
        refine h.sc ⟨by rw [hF], fun c o hp => ?_⟩ (by rw [F1, Lo 0 59 (by omega)]) (by rw [F1, Lo 0 59 (by omega)])
        rw [F1]
        by_cases e : c = 0 ∧ o = 60
        · rw [e.1, e.2]; exact L60
        · exact Lo c o (fun q => hp ⟨q.1, by omega⟩)
      refine hIF.l2 (by rw [F1]; rfl) ?_
      have L2 : L.2 = A.2 := by rw [l4.1, s3.1, k3.1]
      unfold LNR gwl
      dsimp only
      rw [L2, hA]
      unfold gwl
      simp [eq1, eq2]
  · refine rfB h (x2 := fun N => x_X11_moods N _) 0 (by decide) (-2) ?_ ?_
    · unfold x_X10_moods; rw [d1]; rfl
    · show x_X11_moods _ _ = _
      unfold x_X11_moods; rw [d2]; rfl
end MD2
