/-! the class's table of rows -/
section RW3
theorem rx_and (a b : Nat) : nI a &&& nI b = nI (a &&& b) := by
  apply Int32.toBitVec_inj.1
  show BitVec.ofNat 32 a &&& BitVec.ofNat 32 b = BitVec.ofNat 32 (a &&& b)
  apply BitVec.eq_of_getLsbD_eq
  intro i hi
  simp [hi]
def iI (z : Int) : Int32 := Int32.ofInt z
theorem iI_t {z : Int} (h1 : -1000000000 ≤ z) (h2 : z ≤ 1000000000) : (iI z).toInt = z := Int32.toInt_ofInt_of_le (by omega) (by omega)
theorem iI_lt {a b : Int} (h1 : -1000000000 ≤ a) (h2 : a ≤ 1000000000) (h3 : -1000000000 ≤ b) (h4 : b ≤ 1000000000) : iI a < iI b ↔ a < b := by rw [i32_lt, iI_t h1 h2, iI_t h3 h4]
theorem iI_le {a b : Int} (h1 : -1000000000 ≤ a) (h2 : a ≤ 1000000000) (h3 : -1000000000 ≤ b) (h4 : b ≤ 1000000000) : iI a ≤ iI b ↔ a ≤ b := by rw [i32_le, iI_t h1 h2, iI_t h3 h4]
theorem iI_inj {a b : Int} (h1 : -1000000000 ≤ a) (h2 : a ≤ 1000000000) (h3 : -1000000000 ≤ b) (h4 : b ≤ 1000000000) : iI a = iI b ↔ a = b := ⟨fun q => by have := congrArg Int32.toInt q; rwa [iI_t h1 h2, iI_t h3 h4] at this, fun q => by rw [q]⟩
theorem iI_add (a b : Int) : iI a + iI b = iI (a + b) := (Int32.ofInt_add a b).symm
theorem iI_neg (a : Int) : -iI a = iI (-a) := (Int32.ofInt_neg a).symm
theorem iI_big {z : Int} (h1 : -1000000000 ≤ z) (h2 : z ≤ 1000000000) : iI z = 1000000 ↔ z = BIG := iI_inj (b := BIG) h1 h2 (by decide) (by decide)
theorem iI_toInt (x : Int32) : iI x.toInt = x := Int32.ofInt_toInt x
theorem bf_bit : ∀ a, a < 128 → ∀ j, j < 7 → (((nI a >>> (nI j &&& 31)) &&& 1) = 0 ↔ a.testBit j = false) := by decide +kernel
theorem bf_has : ∀ a, a < 128 → ∀ j, j < 7 → x_X11_has (nI a) (nI j) = some (b2i (a.testBit j)) := by decide +kernel
theorem bf_or : ∀ u, u < 128 → ∀ j, j < 7 → nI u ||| (1 <<< (nI j &&& 31)) = nI (u ||| 2 ^ j) := by decide +kernel
theorem bf_not : ∀ u, u < 128 → nI u ^^^ (-1) = nI (2 ^ 32 - (u + 1)) := by decide +kernel
theorem bf_pc : ∀ u, u < 128 → x_J6_bitCount_0f7a4 (nI u) = some (nI (7 - fc u 7)) := by decide +kernel
theorem bf_fc : ∀ m, m < 8 → ∀ u, u < 2 ^ m → fc u 7 = fc u m + (7 - m) ∧ fc u m ≤ m := by decide +kernel
theorem bf_up : ∀ m, m < 8 → ∀ u, u < 2 ^ m → ∀ j, j < m → u.testBit j = false → (u ||| 2 ^ j) < 2 ^ m ∧ u < (u ||| 2 ^ j) ∧ fc (u ||| 2 ^ j) m + 1 = fc u m := by decide +kernel
theorem bf_full : ∀ m, m < 8 → fc (2 ^ m - 1) m = 0 ∧ fc 0 m = m ∧ (1 <<< (nI m &&& 31) : Int32) - 1 = nI (2 ^ m - 1) ∧ 2 ^ m ≤ 128 := by decide +kernel
theorem bf_lt : ∀ m, m < 8 → ∀ u, u < 2 ^ m - 1 → 0 < fc u m := by decide +kernel
theorem bf_c : ∀ a, a < 128 → ∀ g, g < 7 → (127 - a).testBit g = !a.testBit g := by decide +kernel
theorem fe_t {α : Type} {op : α → α → α} {e : α} {p : Nat → Bool} {f : Nat → α} {n : Nat} (h : p n = true) : fe op e p f (n + 1) = op (fe op e p f n) (f n) := if_pos h
theorem fe_f {α : Type} {op : α → α → α} {e : α} {p : Nat → Bool} {f : Nat → α} {n : Nat} (h : p n = false) : fe op e p f (n + 1) = fe op e p f n := if_neg (by rw [h]; decide)
theorem fe_cong {α : Type} {op : α → α → α} {e : α} {p : Nat → Bool} {f g : Nat → α} : ∀ n, (∀ j, j < n → f j = g j) → fe op e p f n = fe op e p g n
  | 0, _ => rfl
  | n + 1, h => by
    show (if p n = true then op (fe op e p f n) (f n) else fe op e p f n) = (if p n = true then op (fe op e p g n) (g n) else fe op e p g n)
    rw [fe_cong n (fun j hj => h j (by omega)), h n (by omega)]
def RWS (M : gMem) (m : Nat) (ok : Nat → Nat → Bool) (cst : Nat → Nat → Int) : Prop := M.1 0 38 4 = nI m ∧ ∀ i, i < m → (∃ a, a < 128 ∧ M.1 0 40 i = nI a ∧ ∀ j, j < m → a.testBit j = ok i j) ∧ ∀ j, j < m → ok i j = true → M.1 0 (42 + i) j = iI (cst i j)
abbrev P49 (c o : Nat) : Prop := c = 0 ∧ o = 49
variable {M : gMem} {m : Nat} {ok : Nat → Nat → Bool} {cst : Nat → Nat → Int}
theorem RWS.k49 {N : gMem} (h : RWS M m ok cst) (hm : m ≤ 7) (f : fr P49 M N) : RWS N m ok cst := by
  refine ⟨by rw [f.2 0 38 (by omega)]; exact h.1, fun i hi => ?_⟩
  rw [f.2 0 40 (by omega), f.2 0 (42 + i) (by omega)]
  exact h.2 i hi
theorem C_open (h : RWS M m ok cst) (hm : m ≤ 7) {u j : Nat} (hu : u < 2 ^ m) (hu0 : 0 < fc u m) (hj : j < m) : x_X7_isOpen M (nI u) (nI j) = some (b2i (ok (m - fc u m) j && !u.testBit j)) := by
  obtain ⟨_, _, _, b4⟩ := bf_full m (by omega)
  obtain ⟨f1, f2⟩ := bf_fc m (by omega) u hu
  have hk : 7 - fc u 7 = m - fc u m := by omega
  obtain ⟨⟨a, ha, ea, eb⟩, _⟩ := h.2 (m - fc u m) (by omega)
  have hx : (a &&& (2 ^ 32 - (u + 1))).testBit j = (ok (m - fc u m) j && !u.testBit j) := by
    rw [Nat.testBit_and, Nat.testBit_two_pow_sub_succ (by omega), eb j hj]
    simp [show j < 32 by omega]
  have hl : a &&& (2 ^ 32 - (u + 1)) < 128 := Nat.lt_of_le_of_lt Nat.and_le_left ha
  have key := bf_bit _ hl j (by omega)
  unfold x_X7_isOpen
  refine (bindS (bf_pc u (by omega))).trans ?_
  rw [hk, h.1, if_neg (by rw [nI_leI (by omega) (by omega)]; omega), gd_i (gin_n (by omega) (by omega)), nI_clamp (by omega), ea, bf_not u (by omega), rx_and, ← hx]
  cases hb : (a &&& (2 ^ 32 - (u + 1))).testBit j
  · rw [if_pos (key.mpr hb)]; rfl
  · rw [if_neg (fun q => by rw [key.mp q] at hb; cases hb)]; rfl
theorem C_w29 (h : RWS M m ok cst) (hm : m ≤ 7) {u : Nat} (hu : u < 2 ^ m) (hu0 : 0 < fc u m) {f : Nat → Nat} (hf : ∀ j, j < m → u.testBit j = false → M.1 0 49 (u ||| 2 ^ j) = nI (f j)) : itr FU (fun s => s_X7_ways_29 M (nI u) s.1 s.2) (0, 0) = some (nI (fe (fun x y => x + y) 0 (fun j => ok (m - fc u m) j && !u.testBit j) f m), nI m) := by
  obtain ⟨_, _, _, b4⟩ := bf_full m (by omega)
  refine itr_tr (fun i => (nI (fe (fun x y => x + y) 0 (fun j => ok (m - fc u m) j && !u.testBit j) f i), nI i)) m _ rfl (by omega) (fun j hj => ?_) ?_
  · dsimp only
    unfold s_X7_ways_29 j_X7_ways_29_62
    rw [h.1, if_neg (by rw [nI_leI (by omega) (by omega)]; omega)]
    refine (bindS (C_open h hm hu hu0 hj)).trans ?_
    cases hb : (ok (m - fc u m) j && !u.testBit j)
    · rw [if_pos (b2i_0.mpr rfl), fe_f hb, nI_1]
    · have hfr : u.testBit j = false := by
        cases z : u.testBit j
        · rfl
        · rw [z] at hb; simp at hb
      have hup := bf_up m (by omega) u hu j hj hfr
      rw [if_neg (by rw [b2i_0]; decide), bf_or u (by omega) j (by omega), gd_i (gin_n (by omega) (by omega)), nI_clamp (by omega), hf j hj hfr, nI_add, nI_1, fe_t hb]
  · dsimp only
    unfold s_X7_ways_29
    rw [h.1, if_pos (by rw [nI_leI (by omega) (by omega)]; omega)]
theorem C_ways (h : RWS M m ok cst) (hm : m ≤ 7) : ∃ N, x_X7_ways M = some (nI (Wy m ok m 0), N) ∧ fr P49 M N := by
  obtain ⟨b1, b2, b3, b4⟩ := bf_full m (by omega)
  have p2 : 0 < 2 ^ m := Nat.two_pow_pos m
  obtain ⟨⟨z, N⟩, hr, q1, q2⟩ := itr_inv (step := fun s => s_X7_ways_20 s.1 s.2) (s := (nI (2 ^ m - 1) - 1, gwr M 0 49 (2 ^ m - 1) 1)) (fun i s => i ≤ 2 ^ m - 1 ∧ s.1 = nI (2 ^ m - 1 - i) - 1 ∧ fr P49 M s.2 ∧ ∀ u, 2 ^ m - 1 - i ≤ u → u < 2 ^ m → s.2.1 0 49 u = nI (Wy m ok (fc u m) u)) (fun r => fr P49 M r.2 ∧ r.2.1 0 49 0 = nI (Wy m ok m 0)) (2 ^ m - 1) (by omega) ⟨by omega, rfl, fr.rf.wr ⟨rfl, rfl⟩, fun u h1 h2 => by
      have e : u = 2 ^ m - 1 := by omega
      rw [e, b1]
      exact gwr_j _ _ _ _ _⟩ (by
    rintro i ⟨x, N⟩ ⟨hi, rfl, hf, hk⟩
    dsimp only at *
    unfold s_X7_ways_20
    by_cases e : i = 2 ^ m - 1
    · rw [e, Nat.sub_self, if_pos (by decide)]
      refine Or.inl ⟨_, rfl, hf, ?_⟩
      have := hk 0 (by omega) (by omega)
      rwa [b2] at this
    · obtain ⟨w, hw⟩ : ∃ w, 2 ^ m - 1 - i = w + 1 := ⟨2 ^ m - 1 - i - 1, by omega⟩
      have hwl : w < 2 ^ m - 1 := by omega
      obtain ⟨d, hd⟩ : ∃ d, fc w m = d + 1 := ⟨fc w m - 1, by have := bf_lt m (by omega) w hwl; omega⟩
      rw [hw, nI_pred, if_neg (nI_pos (by omega))]
      have inner := C_w29 (h.k49 hm hf) hm (u := w) (by omega) (by omega) (f := fun j => Wy m ok d (w ||| 2 ^ j)) (fun j hj hb => by
        have := bf_up m (by omega) w (by omega) j hj hb
        rw [hk (w ||| 2 ^ j) (by omega) this.1, show fc (w ||| 2 ^ j) m = d by omega])
      rw [hd, ← W_s hd] at inner
      refine Or.inr ⟨by omega, (nI w + (-1), gwr N 0 49 w (nI (Wy m ok (d + 1) w))), (bindS inner).trans ?_, by omega, ?_, hf.wr ⟨rfl, rfl⟩, fun u h1 h2 => ?_⟩
      · rw [gd_i (gin_n (by omega) (by omega)), nI_clamp (by omega)]
      · show nI w + (-1) = nI (2 ^ m - 1 - (i + 1)) - 1
        rw [show 2 ^ m - 1 - (i + 1) = w by omega, Int32.sub_eq_add_neg]
      · dsimp only
        by_cases eu : u = w
        · rw [eu, gwr_j, hd]
        · rw [gwr_k _ _ _ _ eu]; exact hk u (by omega) h2)
  refine ⟨N, ?_, q1⟩
  unfold x_X7_ways
  rw [h.1, b3, gd_i (gin_n (by omega) (by omega)), nI_clamp (by omega)]
  refine (bindS hr).trans ?_
  dsimp only at *
  rw [q2]
theorem L_b (hc : ∀ i j, -10 ≤ cst i j ∧ cst i j ≤ 10) {d : Nat} (hd : d ≤ 7) (u : Nat) : Lc m ok cst d u = BIG ∨ (-70 ≤ Lc m ok cst d u ∧ Lc m ok cst d u ≤ 70) := (aB_fd (c := 0) (by decide) (fac d) (fun t _ => vF_b hc hd u t)).2
theorem aB_b {c x : Int} (hc : -10 ≤ c ∧ c ≤ 10) (hx : x = BIG ∨ (-70 ≤ x ∧ x ≤ 70)) : aB c x = BIG ∨ (-80 ≤ aB c x ∧ aB c x ≤ 80) := by
  unfold aB
  split <;> omega
theorem C_ct (h : RWS M m ok cst) (hm : m ≤ 7) {u j : Nat} (hu : u < 2 ^ m) (hj : j < m) (hu0 : 0 < fc u m) (hb : u.testBit j = false) (hok : ok (m - fc u m) j = true) {x : Int} (hx : M.1 0 49 (u ||| 2 ^ j) = iI x) (hxb : x = BIG ∨ (-70 ≤ x ∧ x ≤ 70)) : x_X7_costThrough M (nI u) (nI j) = some (iI (aB (cst (m - fc u m) j) x)) := by
  have hB := BIG_e
  obtain ⟨_, _, _, b4⟩ := bf_full m (by omega)
  obtain ⟨f1, f2⟩ := bf_fc m (by omega) u hu
  have hup := bf_up m (by omega) u hu j hj hb
  unfold x_X7_costThrough aB
  rw [bf_or u (by omega) j (by omega), gd_i (gin_n (by omega) (by omega)), nI_clamp (by omega), hx]
  by_cases e : x = BIG
  · rw [if_pos e, if_pos ((iI_big (by omega) (by omega)).mpr e)]; rfl
  · rw [if_neg e, if_neg (fun q => e ((iI_big (by omega) (by omega)).mp q))]
    refine (bindS (bf_pc u (by omega))).trans ?_
    rw [show 7 - fc u 7 = m - fc u m by omega, gd_i (gin_n (by omega) (by omega)), gd_i (gin_n (by omega) (by omega)), nI_clamp (by omega), nI_clamp (by omega), (h.2 (m - fc u m) (by omega)).2 j hj hok, iI_add]
theorem C_l30 (h : RWS M m ok cst) (hc : ∀ i j, -10 ≤ cst i j ∧ cst i j ≤ 10) (hm : m ≤ 7) {u : Nat} (hu : u < 2 ^ m) (hu0 : 0 < fc u m) {f : Nat → Int} (hfb : ∀ j, f j = BIG ∨ (-70 ≤ f j ∧ f j ≤ 70)) (hf : ∀ j, j < m → u.testBit j = false → M.1 0 49 (u ||| 2 ^ j) = iI (f j)) : itr FU (fun s => s_X7_leastCost_30 M (nI u) s.1 s.2) (1000000, 0) = some (iI (fe mn BIG (fun j => ok (m - fc u m) j && !u.testBit j) (fun j => aB (cst (m - fc u m) j) (f j)) m), nI m) := by
  have hB := BIG_e
  have fb : ∀ n, -100 ≤ fe mn BIG (fun j => ok (m - fc u m) j && !u.testBit j) (fun j => aB (cst (m - fc u m) j) (f j)) n := by
    intro n
    induction n with
    | zero => show (-100 : Int) ≤ BIG; decide
    | succ n ih =>
      cases hb : (ok (m - fc u m) n && !u.testBit n)
      · rw [fe_f hb]; exact ih
      · rw [fe_t hb]
        have := aB_b (hc (m - fc u m) n) (hfb n)
        rw [mn_e]
        split <;> omega
  refine itr_tr (fun i => (iI (fe mn BIG (fun j => ok (m - fc u m) j && !u.testBit j) (fun j => aB (cst (m - fc u m) j) (f j)) i), nI i)) m _ rfl (by omega) (fun j hj => ?_) ?_
  · dsimp only
    unfold s_X7_leastCost_30 j_X7_leastCost_30_61
    rw [h.1, if_neg (by rw [nI_leI (by omega) (by omega)]; omega)]
    refine (bindS (C_open h hm hu hu0 hj)).trans ?_
    cases hb : (ok (m - fc u m) j && !u.testBit j)
    · rw [if_pos (b2i_0.mpr rfl), fe_f hb, nI_1]
    · have hb2 := hb
      simp only [Bool.and_eq_true, Bool.not_eq_true'] at hb2
      rw [if_neg (by rw [b2i_0]; decide)]
      refine (bindS (C_ct h hm hu hj hu0 hb2.2 hb2.1 (hf j hj hb2.2) (hfb j))).trans ?_
      have h1 := aB_b (hc (m - fc u m) j) (hfb j)
      have h2 := fb j
      have h3 := fem_le (fun j => ok (m - fc u m) j && !u.testBit j) (fun j => aB (cst (m - fc u m) j) (f j)) j
      rw [fe_t hb, nI_1]
      rw [mn_e]
      by_cases e : aB (cst (m - fc u m) j) (f j) < fe mn BIG (fun j => ok (m - fc u m) j && !u.testBit j) (fun j => aB (cst (m - fc u m) j) (f j)) j
      · rw [if_pos e, if_pos ((iI_lt (by omega) (by omega) (by omega) (by omega)).mpr e)]
      · rw [if_neg e, if_neg (fun q => e ((iI_lt (by omega) (by omega) (by omega) (by omega)).mp q))]
  · dsimp only
    unfold s_X7_leastCost_30
    rw [h.1, if_pos (by rw [nI_leI (by omega) (by omega)]; omega)]
theorem C_least (h : RWS M m ok cst) (hc : ∀ i j, -10 ≤ cst i j ∧ cst i j ≤ 10) (hm : m ≤ 7) : ∃ N, x_X7_leastCost M = some (iI (Lc m ok cst m 0), N) ∧ fr P49 M N ∧ ∀ u, u < 2 ^ m → N.1 0 49 u = iI (Lc m ok cst (fc u m) u) := by
  have hB := BIG_e
  obtain ⟨b1, b2, b3, b4⟩ := bf_full m (by omega)
  have p2 : 0 < 2 ^ m := Nat.two_pow_pos m
  obtain ⟨⟨z, N⟩, hr, q1, q2⟩ := itr_inv (step := fun s => s_X7_leastCost_20 s.1 s.2) (s := (nI (2 ^ m - 1) - 1, gwr M 0 49 (2 ^ m - 1) 0)) (fun i s => i ≤ 2 ^ m - 1 ∧ s.1 = nI (2 ^ m - 1 - i) - 1 ∧ fr P49 M s.2 ∧ ∀ u, 2 ^ m - 1 - i ≤ u → u < 2 ^ m → s.2.1 0 49 u = iI (Lc m ok cst (fc u m) u)) (fun r => fr P49 M r.2 ∧ ∀ u, u < 2 ^ m → r.2.1 0 49 u = iI (Lc m ok cst (fc u m) u)) (2 ^ m - 1) (by omega) ⟨by omega, rfl, fr.rf.wr ⟨rfl, rfl⟩, fun u h1 h2 => by
      have e : u = 2 ^ m - 1 := by omega
      rw [e, b1]
      exact gwr_j _ _ _ _ _⟩ (by
    rintro i ⟨x, N⟩ ⟨hi, rfl, hf, hk⟩
    dsimp only at *
    unfold s_X7_leastCost_20
    by_cases e : i = 2 ^ m - 1
    · rw [e, Nat.sub_self, if_pos (by decide)]
      exact Or.inl ⟨_, rfl, hf, fun u hu => hk u (by omega) hu⟩
    · obtain ⟨w, hw⟩ : ∃ w, 2 ^ m - 1 - i = w + 1 := ⟨2 ^ m - 1 - i - 1, by omega⟩
      have hwl : w < 2 ^ m - 1 := by omega
      have hfw := bf_fc m (by omega) w (by omega)
      obtain ⟨d, hd⟩ : ∃ d, fc w m = d + 1 := ⟨fc w m - 1, by have := bf_lt m (by omega) w hwl; omega⟩
      rw [hw, nI_pred, if_neg (nI_pos (by omega))]
      have inner := C_l30 (h.k49 hm hf) hc hm (u := w) (by omega) (by omega) (f := fun j => Lc m ok cst d (w ||| 2 ^ j)) (fun j => L_b hc (by omega) _) (fun j hj hb => by
        have := bf_up m (by omega) w (by omega) j hj hb
        rw [hk (w ||| 2 ^ j) (by omega) this.1, show fc (w ||| 2 ^ j) m = d by omega])
      rw [hd, ← L_s hc (by omega) hd] at inner
      refine Or.inr ⟨by omega, (nI w + (-1), gwr N 0 49 w (iI (Lc m ok cst (d + 1) w))), (bindS inner).trans ?_, by omega, ?_, hf.wr ⟨rfl, rfl⟩, fun u h1 h2 => ?_⟩
      · rw [gd_i (gin_n (by omega) (by omega)), nI_clamp (by omega)]
      · show nI w + (-1) = nI (2 ^ m - 1 - (i + 1)) - 1
        rw [show 2 ^ m - 1 - (i + 1) = w by omega, Int32.sub_eq_add_neg]
      · dsimp only
        by_cases eu : u = w
        · rw [eu, gwr_j, hd]
        · rw [gwr_k _ _ _ _ eu]; exact hk u (by omega) h2)
  refine ⟨N, ?_, q1, q2⟩
  unfold x_X7_leastCost
  rw [h.1, b3, gd_i (gin_n (by omega) (by omega)), nI_clamp (by omega)]
  refine (bindS hr).trans ?_
  dsimp only at *
  have := q2 0 (by omega)
  rw [this, b2]
theorem C_fb (h : RWS M m ok cst) (hc : ∀ i j, -10 ≤ cst i j ∧ cst i j ≤ 10) (hm : m ≤ 7) (ha : ∀ u, u < 2 ^ m → M.1 0 49 u = iI (Lc m ok cst (fc u m) u)) {u d s : Nat} (hu : u < 2 ^ m) (hd : fc u m = d + 1) (hA : isAM (vF m ok cst (d + 1) u) (fac (d + 1)) s) (hL : Lc m ok cst (d + 1) u ≠ BIG) : x_X7_firstBest M (nI u) = some (nI (nx m u (s / fac d))) := by
  have hB := BIG_e
  obtain ⟨_, _, _, b4⟩ := bf_full m (by omega)
  have hfw := bf_fc m (by omega) u hu
  obtain ⟨j, hj, hf, hn, hok, e4, _, hLn, hmin⟩ := AM_s hc (by omega) hd hA hL
  have hLb := L_b (m := m) (ok := ok) hc (show d + 1 ≤ 7 by omega) u
  have cell : ∀ i, i < m → u.testBit i = false → M.1 0 49 (u ||| 2 ^ i) = iI (Lc m ok cst d (u ||| 2 ^ i)) := by
    intro i hi hb
    have := bf_up m (by omega) u hu i hi hb
    rw [ha _ this.1, show fc (u ||| 2 ^ i) m = d by omega]
  have key : ∀ i, i < m → s_X7_firstBest_2 M (nI u) (nI i) = if (ok (m - (d + 1)) i && !u.testBit i) = true ∧ aB (cst (m - (d + 1)) i) (Lc m ok cst d (u ||| 2 ^ i)) = Lc m ok cst (d + 1) u then some (.inr (.inr (nI i))) else some (.inl (nI (i + 1))) := by
    intro i hi
    unfold s_X7_firstBest_2 j_X7_firstBest_2_36
    rw [h.1, if_neg (by rw [nI_leI (by omega) (by omega)]; omega), nI_1]
    refine (bindS (C_open h hm hu (by omega) hi)).trans ?_
    rw [hd]
    cases hb : (ok (m - (d + 1)) i && !u.testBit i)
    · rw [if_pos (b2i_0.mpr rfl), if_neg (by simp)]
    · have hb2 := hb
      simp only [Bool.and_eq_true, Bool.not_eq_true'] at hb2
      rw [if_neg (by rw [b2i_0]; decide)]
      have hct := C_ct h hm hu hi (by omega) hb2.2 (by rw [hd]; exact hb2.1) (cell i hi hb2.2) (L_b hc (by omega) _)
      rw [hd] at hct
      refine (bindS hct).trans ?_
      have h1 := aB_b (hc (m - (d + 1)) i) (L_b (m := m) (ok := ok) hc (show d ≤ 7 by omega) (u ||| 2 ^ i))
      rw [gd_i (gin_n (by omega) (by omega)), nI_clamp (by omega), ha u hu, hd]
      by_cases e : aB (cst (m - (d + 1)) i) (Lc m ok cst d (u ||| 2 ^ i)) = Lc m ok cst (d + 1) u
      · rw [e, if_pos rfl, if_pos ⟨rfl, rfl⟩]
      · rw [if_neg (fun q => e ((iI_inj (by omega) (by omega) (by omega) (by omega)).mp q)), if_neg (fun q => e q.2)]
  unfold x_X7_firstBest
  rw [hn]
  refine (bindS (itr_tr (fun i => nI i) j (.inr (nI j)) rfl (by omega) (fun i hi => ?_) ?_)).trans rfl
  · rw [key i (by omega), if_neg]
    rintro ⟨q1, q2⟩
    simp only [Bool.and_eq_true, Bool.not_eq_true'] at q1
    exact hmin i hi q1.2 q1.1 q2
  · show s_X7_firstBest_2 M (nI u) (nI j) = _
    rw [key j hj, if_pos ⟨by simp [hok, hf], e4⟩]
theorem C_dib (h : RWS M m ok cst) (hc : ∀ i j, -10 ≤ cst i j ∧ cst i j ≤ 10) (hm : m ≤ 7) {g : Nat} (hg : g < m) : ∃ N, fr P49 M N ∧ ((Lc m ok cst m 0 = BIG ∧ x_X7_dutyInBest M (nI g) = some (-1, N)) ∨ (Lc m ok cst m 0 ≠ BIG ∧ ∀ s0, isAM (vF m ok cst m 0) (fac m) s0 → rwF m m 0 s0 g < m ∧ x_X7_dutyInBest M (nI g) = some (M.1 0 39 (rwF m m 0 s0 g), N))) := by
  have hB := BIG_e
  obtain ⟨b1, b2, b3, b4⟩ := bf_full m (by omega)
  have p2 : 0 < 2 ^ m := Nat.two_pow_pos m
  obtain ⟨N, n1, n2, n3⟩ := C_least h hc hm
  have hLb := L_b (m := m) (ok := ok) hc hm 0
  refine ⟨N, n2, ?_⟩
  by_cases e : Lc m ok cst m 0 = BIG
  · left
    refine ⟨e, ?_⟩
    unfold x_X7_dutyInBest
    refine (bindS n1).trans ?_
    rw [if_pos ((iI_big (by omega) (by omega)).mpr e)]
  · right
    refine ⟨e, fun s0 hs0 => ?_⟩
    have hN := h.k49 hm n2
    obtain ⟨r, hr, q1, q2⟩ := itr_inv (step := fun s => s_X7_dutyInBest_15 N (nI g) s.1 s.2) (s := (0, 0)) (fun i s => i ≤ g ∧ ∃ u t, s = (nI u, nI i) ∧ u < 2 ^ m ∧ fc u m = m - i ∧ isAM (vF m ok cst (m - i) u) (fac (m - i)) t ∧ Lc m ok cst (m - i) u ≠ BIG ∧ ∀ i', i ≤ i' → rwF m (m - i) u t i' = rwF m m 0 s0 i') (fun r => rwF m m 0 s0 g < m ∧ r = .inr (N.1 0 39 (rwF m m 0 s0 g), N)) g (by omega) ⟨by omega, 0, s0, rfl, p2, b2, hs0, e, fun _ _ => rfl⟩ (by
      rintro i s ⟨hi, u, t, rfl, hu, hf, hA, hL, hrw⟩
      dsimp only at *
      obtain ⟨d, hd⟩ : ∃ d, m - i = d + 1 := ⟨m - i - 1, by omega⟩
      rw [hd] at hf hA hL hrw
      obtain ⟨j, hj, hfj, hn, hok, e4, hA2, hLn, _⟩ := AM_s hc (by omega) hf hA hL
      have hup := bf_up m (by omega) u hu j hj hfj
      unfold s_X7_dutyInBest_15 j_X7_dutyInBest_15_41
      rw [hN.1, if_neg (by rw [nI_leI (by omega) (by omega)]; omega), bindS (C_fb hN hc hm n3 hu hf hA hL), hn]
      have hrj : rwF m m 0 s0 i = j := by
        rw [← hrw i (Nat.le_refl i)]
        rw [rwF_s, if_pos (by omega), hn]
      by_cases eg : i = g
      · subst eg
        rw [if_pos rfl, if_neg (nI_nm1 (by omega)), gd_i (gin_n (by omega) (by omega)), nI_clamp (by omega)]
        exact Or.inl ⟨_, rfl, by omega, by rw [hrj]⟩
      · rw [if_neg (nI_ne (by omega) (by omega) eg), if_neg (nI_nm1 (by omega)), bf_or u (by omega) j (by omega), nI_1]
        have hd2 : m - (i + 1) = d := by omega
        refine Or.inr ⟨by omega, _, rfl, by omega, u ||| 2 ^ j, t % fac d, rfl, hup.1, by omega, by rw [hd2]; exact hA2, by rw [hd2]; exact hLn, fun i' hi' => ?_⟩
        rw [← hrw i' (by omega), hd2]
        rw [rwF_s, if_neg (by omega), hn])
    refine ⟨q1, ?_⟩
    unfold x_X7_dutyInBest
    refine (bindS n1).trans ?_
    rw [if_neg (fun q => e ((iI_big (by omega) (by omega)).mp q))]
    refine (bindS hr).trans ?_
    rw [q2, ← n2.2 0 39 (by omega)]
    rfl
end RW3
