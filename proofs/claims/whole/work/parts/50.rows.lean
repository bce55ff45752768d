/-! rows of duties as numbers below a factorial: plain facts -/
section RW1
def fd {α : Type} (op : α → α → α) (e : α) (f : Nat → α) : Nat → α
  | 0 => e
  | n + 1 => op (fd op e f n) (f n)
def fe {α : Type} (op : α → α → α) (e : α) (p : Nat → Bool) (f : Nat → α) : Nat → α
  | 0 => e
  | n + 1 => if p n = true then op (fe op e p f n) (f n) else fe op e p f n
theorem fd_cong {α : Type} {op : α → α → α} {e : α} {f g : Nat → α} : ∀ n, (∀ i, i < n → f i = g i) → fd op e f n = fd op e g n
  | 0, _ => rfl
  | n + 1, h => by
    show op (fd op e f n) (f n) = op (fd op e g n) (g n)
    rw [fd_cong n (fun i hi => h i (by omega)), h n (by omega)]
theorem fd_e {α : Type} {op : α → α → α} {e : α} (h : op e e = e) : ∀ n, fd op e (fun _ => e) n = e
  | 0 => rfl
  | n + 1 => by
    show op (fd op e (fun _ => e) n) e = e
    rw [fd_e h n, h]
theorem fd_add {α : Type} {op : α → α → α} {e : α} (ha : ∀ x y z, op (op x y) z = op x (op y z)) (hi : ∀ f n, op (fd op e f n) e = fd op e f n) (f : Nat → α) (a : Nat) : ∀ b, fd op e f (a + b) = op (fd op e f a) (fd op e (fun t => f (a + t)) b)
  | 0 => (hi f a).symm
  | b + 1 => by
    show op (fd op e f (a + b)) (f (a + b)) = op (fd op e f a) (op (fd op e (fun t => f (a + t)) b) (f (a + b)))
    rw [fd_add ha hi f a b, ha]
theorem fd_mul {α : Type} {op : α → α → α} {e : α} (ha : ∀ x y z, op (op x y) z = op x (op y z)) (hi : ∀ f n, op (fd op e f n) e = fd op e f n) (f : Nat → α) (D : Nat) : ∀ n, fd op e f (n * D) = fd op e (fun i => fd op e (fun t => f (i * D + t)) D) n
  | 0 => by rw [Nat.zero_mul]; rfl
  | n + 1 => by
    rw [Nat.succ_mul, fd_add ha hi f, fd_mul ha hi f D n]
    rfl
/-- how many places below j are free -/
def fc (u : Nat) : Nat → Nat
  | 0 => 0
  | j + 1 => fc u j + (if u.testBit j = true then 0 else 1)
theorem fc_1 {u j : Nat} (h : u.testBit j = false) : fc u (j + 1) = fc u j + 1 := by
  show fc u j + _ = _
  rw [h]; rfl
theorem fc_0 {u j : Nat} (h : u.testBit j = true) : fc u (j + 1) = fc u j := by
  show fc u j + _ = _
  rw [h]; rfl
theorem fc_mono {u i : Nat} : ∀ j, i ≤ j → fc u i ≤ fc u j
  | 0, h => by rw [Nat.le_zero.mp h]; exact Nat.le_refl _
  | j + 1, h => by
    by_cases e : i = j + 1
    · rw [e]; exact Nat.le_refl _
    · have := fc_mono (u := u) (i := i) j (by omega)
      show fc u i ≤ fc u j + _
      omega
def nx (m u t : Nat) : Nat := ff (fun j => !u.testBit j && decide (fc u j = t)) m
theorem nx_at {m u j : Nat} (hj : j < m) (hf : u.testBit j = false) : nx m u (fc u j) = j := by
  obtain ⟨h1, h2, h3⟩ := ff_spec (fun i => !u.testBit i && decide (fc u i = fc u j)) m
  have hp : (fun i => !u.testBit i && decide (fc u i = fc u j)) j = true := by simp [hf]
  have h4 : ff (fun i => !u.testBit i && decide (fc u i = fc u j)) m ≤ j := by
    rcases Nat.lt_or_ge j (ff (fun i => !u.testBit i && decide (fc u i = fc u j)) m) with q | q
    · exact absurd (h2 j q) (by simp [hf])
    · exact q
  have h5 := h3 (by omega)
  simp at h5
  unfold nx
  rcases Nat.lt_or_ge (ff (fun i => !u.testBit i && decide (fc u i = fc u j)) m) j with q | q
  · have := fc_mono (u := u) j (show ff (fun i => !u.testBit i && decide (fc u i = fc u j)) m + 1 ≤ j from q)
    rw [fc_1 h5.1] at this
    omega
  · omega
theorem nx_ex {u t : Nat} : ∀ {m : Nat}, t < fc u m → ∃ j, j < m ∧ u.testBit j = false ∧ fc u j = t
  | 0, h => absurd h (Nat.not_lt_zero t)
  | m + 1, h => by
    rcases Nat.lt_or_ge t (fc u m) with q | q
    · obtain ⟨j, h1, h2⟩ := nx_ex q
      exact ⟨j, by omega, h2⟩
    · by_cases hb : u.testBit m = true
      · rw [fc_0 hb] at h; omega
      · have hb := Bool.eq_false_iff.mpr hb
        rw [fc_1 hb] at h
        exact ⟨m, by omega, hb, by omega⟩
theorem fd_nx {α : Type} {op : α → α → α} {e : α} {m u : Nat} (f : Nat → α) : ∀ j, j ≤ m → fd op e (fun t => f (nx m u t)) (fc u j) = fe op e (fun i => !u.testBit i) f j
  | 0, _ => rfl
  | j + 1, h => by
    have ih := fd_nx (op := op) (e := e) (m := m) (u := u) f j (by omega)
    by_cases hb : u.testBit j = true
    · rw [fc_0 hb, ih]
      simp [fe, hb]
    · have hb := Bool.eq_false_iff.mpr hb
      rw [fc_1 hb]
      show op (fd op e (fun t => f (nx m u t)) (fc u j)) (f (nx m u (fc u j))) = _
      rw [ih, nx_at (by omega) hb]
      simp [fe, hb]
theorem fe_if {α : Type} {op : α → α → α} {e : α} {p q : Nat → Bool} {f : Nat → α} (hi : ∀ n, op (fe op e (fun j => q j && p j) f n) e = fe op e (fun j => q j && p j) f n) : ∀ n, fe op e p (fun j => if q j = true then f j else e) n = fe op e (fun j => q j && p j) f n
  | 0 => rfl
  | n + 1 => by
    have ih := fe_if hi n
    show (if p n = true then op (fe op e p (fun j => if q j = true then f j else e) n) (if q n = true then f n else e) else fe op e p (fun j => if q j = true then f j else e) n) = (if (q n && p n) = true then op (fe op e (fun j => q j && p j) f n) (f n) else fe op e (fun j => q j && p j) f n)
    rw [ih]
    cases hq : q n <;> cases hp : p n <;> simp [hi]
def fac : Nat → Nat
  | 0 => 1
  | n + 1 => (n + 1) * fac n
theorem fac_pos : ∀ n, 0 < fac n
  | 0 => Nat.one_pos
  | n + 1 => Nat.mul_pos (Nat.succ_pos n) (fac_pos n)
theorem dv {i D t : Nat} (ht : t < D) : (i * D + t) / D = i := by
  rw [Nat.mul_comm, Nat.mul_add_div (by omega), Nat.div_eq_of_lt ht, Nat.add_zero]
theorem dm {i D t : Nat} (ht : t < D) : (i * D + t) % D = t := by
  rw [Nat.mul_comm, Nat.mul_add_mod, Nat.mod_eq_of_lt ht]
section RWV
variable (m : Nat) (ok : Nat → Nat → Bool) (cst : Nat → Nat → Int)
def okF : Nat → Nat → Nat → Bool
  | 0, _, _ => true
  | d + 1, u, s => ok (m - (d + 1)) (nx m u (s / fac d)) && okF d (u ||| 2 ^ nx m u (s / fac d)) (s % fac d)
def coF : Nat → Nat → Nat → Int
  | 0, _, _ => 0
  | d + 1, u, s => cst (m - (d + 1)) (nx m u (s / fac d)) + coF d (u ||| 2 ^ nx m u (s / fac d)) (s % fac d)
def rwF : Nat → Nat → Nat → Nat → Nat
  | 0, _, _, _ => 0
  | d + 1, u, s, i => if i = m - (d + 1) then nx m u (s / fac d) else rwF d (u ||| 2 ^ nx m u (s / fac d)) (s % fac d) i
abbrev BIG : Int := 1000000
def vF (d u s : Nat) : Int := if okF m ok d u s = true then coF m cst d u s else BIG
def aB (c x : Int) : Int := if x = BIG then BIG else x + c
def mn (a b : Int) : Int := if b < a then b else a
def Wy (d u : Nat) : Nat := fd (· + ·) 0 (fun s => if okF m ok d u s = true then 1 else 0) (fac d)
def Lc (d u : Nat) : Int := fd mn BIG (vF m ok cst d u) (fac d)
end RWV
theorem okF_s (m : Nat) (ok : Nat → Nat → Bool) (d u s : Nat) : okF m ok (d + 1) u s = (ok (m - (d + 1)) (nx m u (s / fac d)) && okF m ok d (u ||| 2 ^ nx m u (s / fac d)) (s % fac d)) := rfl
theorem coF_s (m : Nat) (cst : Nat → Nat → Int) (d u s : Nat) : coF m cst (d + 1) u s = cst (m - (d + 1)) (nx m u (s / fac d)) + coF m cst d (u ||| 2 ^ nx m u (s / fac d)) (s % fac d) := rfl
theorem rwF_s (m d u s i : Nat) : rwF m (d + 1) u s i = if i = m - (d + 1) then nx m u (s / fac d) else rwF m d (u ||| 2 ^ nx m u (s / fac d)) (s % fac d) i := rfl
theorem BIG_e : BIG = 1000000 := rfl
theorem mn_a (x y z : Int) : mn (mn x y) z = mn x (mn y z) := by
  unfold mn
  split <;> split <;> (try split) <;> (try split) <;> omega
theorem mn_e (a b : Int) : mn a b = if b < a then b else a := rfl
theorem mn_le (v : Nat → Int) : ∀ n, fd mn BIG v n ≤ BIG
  | 0 => Int.le_refl _
  | n + 1 => by
    have := mn_le v n
    show mn (fd mn BIG v n) (v n) ≤ BIG
    rw [mn_e]
    split <;> omega
theorem mn_i (v : Nat → Int) (n : Nat) : mn (fd mn BIG v n) BIG = fd mn BIG v n := by
  have := mn_le v n
  rw [mn_e, if_neg (by omega)]
theorem mn_lb (v : Nat → Int) {i : Nat} : ∀ {n : Nat}, i < n → fd mn BIG v n ≤ v i
  | 0, h => absurd h (Nat.not_lt_zero i)
  | n + 1, h => by
    show mn (fd mn BIG v n) (v n) ≤ v i
    rw [mn_e]
    by_cases e : i = n
    · subst e; split <;> omega
    · have := mn_lb v (i := i) (n := n) (by omega)
      split <;> omega
theorem mn_at (v : Nat → Int) : ∀ n, fd mn BIG v n = BIG ∨ ∃ i, i < n ∧ v i = fd mn BIG v n
  | 0 => Or.inl rfl
  | n + 1 => by
    have ih := mn_at v n
    have e : fd mn BIG v (n + 1) = if v n < fd mn BIG v n then v n else fd mn BIG v n := rfl
    by_cases h : v n < fd mn BIG v n
    · rw [if_pos h] at e
      exact Or.inr ⟨n, by omega, e.symm⟩
    · rw [if_neg h] at e
      rw [e]
      rcases ih with q | ⟨i, hi, q⟩
      · exact Or.inl q
      · exact Or.inr ⟨i, by omega, q⟩
theorem fem_le (p : Nat → Bool) (v : Nat → Int) : ∀ n, fe mn BIG p v n ≤ BIG
  | 0 => Int.le_refl _
  | n + 1 => by
    have := fem_le p v n
    show (if p n = true then mn (fe mn BIG p v n) (v n) else fe mn BIG p v n) ≤ BIG
    split
    · rw [mn_e]; split <;> omega
    · exact this
theorem fem_i (p : Nat → Bool) (v : Nat → Int) (n : Nat) : mn (fe mn BIG p v n) BIG = fe mn BIG p v n := by
  have := fem_le p v n
  rw [mn_e, if_neg (by omega)]
section RW2
variable {m : Nat} {ok : Nat → Nat → Bool} {cst : Nat → Nat → Int}
theorem W_s {d u : Nat} (hu : fc u m = d + 1) : Wy m ok (d + 1) u = fe (· + ·) 0 (fun j => ok (m - (d + 1)) j && !u.testBit j) (fun j => Wy m ok d (u ||| 2 ^ j)) m := by
  unfold Wy
  show fd _ _ _ ((d + 1) * fac d) = _
  rw [fd_mul (fun x y z => Nat.add_assoc x y z) (fun f n => Nat.add_zero _)]
  rw [fd_cong (g := fun t => (fun j => if ok (m - (d + 1)) j = true then Wy m ok d (u ||| 2 ^ j) else 0) (nx m u t)) (d + 1) (fun i hi => ?_)]
  · rw [← hu, fd_nx (op := fun x y => x + y) (e := 0) (m := m) (u := u) (fun j => if ok (m - (fc u m)) j = true then Wy m ok d (u ||| 2 ^ j) else 0) m (Nat.le_refl m), fe_if (fun n => Nat.add_zero _)]
    rfl
  · dsimp only
    by_cases ho : ok (m - (d + 1)) (nx m u i) = true
    · rw [if_pos ho]
      exact fd_cong _ (fun t ht => by
        show (if okF m ok (d + 1) u (i * fac d + t) = true then 1 else 0) = _
        rw [okF_s, dv ht, dm ht, ho, Bool.true_and])
    · rw [if_neg ho]
      rw [fd_cong (g := fun _ => 0) _ (fun t ht => by
        show (if okF m ok (d + 1) u (i * fac d + t) = true then 1 else 0) = _
        rw [okF_s, dv ht, dm ht, Bool.eq_false_iff.mpr ho, Bool.false_and]
        rfl)]
      exact fd_e rfl _
theorem co_b (hc : ∀ i j, -10 ≤ cst i j ∧ cst i j ≤ 10) : ∀ (d u s : Nat), -(10 * (d : Int)) ≤ coF m cst d u s ∧ coF m cst d u s ≤ 10 * (d : Int)
  | 0, _, _ => by unfold coF; omega
  | d + 1, u, s => by
    have h1 := hc (m - (d + 1)) (nx m u (s / fac d))
    have h2 := co_b hc d (u ||| 2 ^ nx m u (s / fac d)) (s % fac d)
    rw [coF_s]
    omega
theorem vF_b (hc : ∀ i j, -10 ≤ cst i j ∧ cst i j ≤ 10) {d : Nat} (hd : d ≤ 7) (u s : Nat) : vF m ok cst d u s = BIG ∨ (-70 ≤ vF m ok cst d u s ∧ vF m ok cst d u s ≤ 70) := by
  have := co_b (m := m) hc d u s
  unfold vF
  split
  · right; omega
  · left; rfl
theorem vF_s (hc : ∀ i j, -10 ≤ cst i j ∧ cst i j ≤ 10) {d : Nat} (hd : d ≤ 7) (u s : Nat) : vF m ok cst (d + 1) u s = if ok (m - (d + 1)) (nx m u (s / fac d)) = true then aB (cst (m - (d + 1)) (nx m u (s / fac d))) (vF m ok cst d (u ||| 2 ^ nx m u (s / fac d)) (s % fac d)) else BIG := by
  have := co_b (m := m) hc d (u ||| 2 ^ nx m u (s / fac d)) (s % fac d)
  have hB := BIG_e
  unfold vF aB
  rw [okF_s, coF_s]
  cases h1 : ok (m - (d + 1)) (nx m u (s / fac d)) <;> cases h2 : okF m ok d (u ||| 2 ^ nx m u (s / fac d)) (s % fac d) <;> simp
  rw [if_neg (by omega), Int.add_comm]
theorem aB_fd {c : Int} (hc : -10 ≤ c ∧ c ≤ 10) {v : Nat → Int} : ∀ n, (∀ i, i < n → v i = BIG ∨ (-70 ≤ v i ∧ v i ≤ 70)) → fd mn BIG (fun t => aB c (v t)) n = aB c (fd mn BIG v n) ∧ (fd mn BIG v n = BIG ∨ (-70 ≤ fd mn BIG v n ∧ fd mn BIG v n ≤ 70))
  | 0, _ => ⟨rfl, Or.inl rfl⟩
  | n + 1, h => by
    obtain ⟨h1, h2⟩ := aB_fd hc n (fun i hi => h i (by omega))
    have h3 := h n (by omega)
    show mn (fd mn BIG (fun t => aB c (v t)) n) (aB c (v n)) = aB c (mn (fd mn BIG v n) (v n)) ∧ (mn (fd mn BIG v n) (v n) = BIG ∨ (-70 ≤ mn (fd mn BIG v n) (v n) ∧ mn (fd mn BIG v n) (v n) ≤ 70))
    rw [h1]
    generalize fd mn BIG v n = a at *
    generalize v n = b at *
    unfold mn aB
    constructor
    · have hB := BIG_e
      repeat' split
      all_goals omega
    · split <;> omega
theorem L_s (hc : ∀ i j, -10 ≤ cst i j ∧ cst i j ≤ 10) {d u : Nat} (hd : d ≤ 7) (hu : fc u m = d + 1) : Lc m ok cst (d + 1) u = fe mn BIG (fun j => ok (m - (d + 1)) j && !u.testBit j) (fun j => aB (cst (m - (d + 1)) j) (Lc m ok cst d (u ||| 2 ^ j))) m := by
  unfold Lc
  show fd _ _ _ ((d + 1) * fac d) = _
  rw [fd_mul mn_a mn_i]
  rw [fd_cong (g := fun t => (fun j => if ok (m - (d + 1)) j = true then aB (cst (m - (d + 1)) j) (Lc m ok cst d (u ||| 2 ^ j)) else BIG) (nx m u t)) (d + 1) (fun i hi => ?_)]
  · rw [← hu, fd_nx (op := mn) (e := BIG) (m := m) (u := u) (fun j => if ok (m - (fc u m)) j = true then aB (cst (m - (fc u m)) j) (Lc m ok cst d (u ||| 2 ^ j)) else BIG) m (Nat.le_refl m), fe_if (fun n => fem_i _ _ n)]
    rfl
  · dsimp only
    by_cases ho : ok (m - (d + 1)) (nx m u i) = true
    · rw [if_pos ho]
      unfold Lc
      rw [← (aB_fd (hc _ _) (fac d) (fun t _ => vF_b hc hd _ t)).1]
      exact fd_cong _ (fun t ht => by
        rw [vF_s hc hd, dv ht, dm ht, if_pos ho])
    · rw [if_neg ho]
      rw [fd_cong (g := fun _ => BIG) _ (fun t ht => by
        rw [vF_s hc hd, dv ht, dm ht, if_neg ho])]
      exact fd_e (by decide) _
/-- s is the first of the least among the first n -/
def isAM (v : Nat → Int) (n s : Nat) : Prop := s < n ∧ v s = fd mn BIG v n ∧ ∀ t, t < s → v t ≠ fd mn BIG v n
theorem AM_ex {v : Nat → Int} {n : Nat} (h : fd mn BIG v n ≠ BIG) : ∃ s, isAM v n s := by
  obtain ⟨h1, h2, h3⟩ := ff_spec (fun s => decide (v s = fd mn BIG v n)) n
  rcases mn_at v n with q | ⟨i, hi, q⟩
  · exact absurd q h
  · have hl : ff (fun s => decide (v s = fd mn BIG v n)) n < n := by
      rcases Nat.lt_or_ge i (ff (fun s => decide (v s = fd mn BIG v n)) n) with z | z
      · have := h2 i z
        simp at this
        exact absurd q this
      · omega
    refine ⟨_, hl, ?_, fun t ht => ?_⟩
    · have := h3 hl
      simpa using this
    · have := h2 t ht
      simpa using this
theorem AM_u {v : Nat → Int} {n s t : Nat} (h1 : isAM v n s) (h2 : isAM v n t) : s = t := by
  rcases Nat.lt_trichotomy s t with q | q | q
  · exact absurd h1.2.1 (h2.2.2 s q)
  · exact q
  · exact absurd h2.2.1 (h1.2.2 t q)
theorem AM_s (hc : ∀ i j, -10 ≤ cst i j ∧ cst i j ≤ 10) {d u s : Nat} (hd : d ≤ 7) (hu : fc u m = d + 1) (hA : isAM (vF m ok cst (d + 1) u) (fac (d + 1)) s) (hL : Lc m ok cst (d + 1) u ≠ BIG) : ∃ j, j < m ∧ u.testBit j = false ∧ nx m u (s / fac d) = j ∧ ok (m - (d + 1)) j = true ∧ aB (cst (m - (d + 1)) j) (Lc m ok cst d (u ||| 2 ^ j)) = Lc m ok cst (d + 1) u ∧ isAM (vF m ok cst d (u ||| 2 ^ j)) (fac d) (s % fac d) ∧ Lc m ok cst d (u ||| 2 ^ j) ≠ BIG ∧ ∀ i, i < j → u.testBit i = false → ok (m - (d + 1)) i = true → aB (cst (m - (d + 1)) i) (Lc m ok cst d (u ||| 2 ^ i)) ≠ Lc m ok cst (d + 1) u := by
  have hB := BIG_e
  obtain ⟨a1, a2, a3⟩ := hA
  have hD := fac_pos d
  have hs : s / fac d < fc u m := by
    rw [hu]; exact (Nat.div_lt_iff_lt_mul hD).mpr a1
  obtain ⟨j, hj, hf, hjc⟩ := nx_ex hs
  have hn : nx m u (s / fac d) = j := by rw [← hjc]; exact nx_at hj hf
  have hsm : s % fac d < fac d := Nat.mod_lt _ hD
  have hse : s = fc u j * fac d + s % fac d := by rw [hjc, Nat.mul_comm]; exact (Nat.div_add_mod s (fac d)).symm
  -- the value at a place
  have va : ∀ i t, i < m → u.testBit i = false → t < fac d → vF m ok cst (d + 1) u (fc u i * fac d + t) = if ok (m - (d + 1)) i = true then aB (cst (m - (d + 1)) i) (vF m ok cst d (u ||| 2 ^ i) t) else BIG := by
    intro i t hi hfi ht
    rw [vF_s hc hd, dv ht, dm ht, nx_at hi hfi]
  have vl : ∀ i t, i < m → u.testBit i = false → t < fac d → fc u i * fac d + t < fac (d + 1) := by
    intro i t hi hfi ht
    have h1 : fc u i + 1 ≤ d + 1 := by rw [← hu, ← fc_1 hfi]; exact fc_mono m (by omega)
    have h2 : (fc u i + 1) * fac d ≤ (d + 1) * fac d := Nat.mul_le_mul_right _ h1
    have h3 : (fc u i + 1) * fac d = fc u i * fac d + fac d := Nat.succ_mul _ _
    show fc u i * fac d + t < (d + 1) * fac d
    omega
  have e1 := va j (s % fac d) hj hf hsm
  rw [← hse, a2] at e1
  have hok : ok (m - (d + 1)) j = true := by
    by_cases q : ok (m - (d + 1)) j = true
    · exact q
    · rw [if_neg q] at e1; exact absurd e1 hL
  rw [if_pos hok] at e1
  have hLe : Lc m ok cst (d + 1) u = fd mn BIG (vF m ok cst (d + 1) u) (fac (d + 1)) := rfl
  have hLd : Lc m ok cst d (u ||| 2 ^ j) = fd mn BIG (vF m ok cst d (u ||| 2 ^ j)) (fac d) := rfl
  have hcj := hc (m - (d + 1)) j
  have hvb := vF_b (m := m) (ok := ok) hc hd (u ||| 2 ^ j) (s % fac d)
  have hvn : vF m ok cst d (u ||| 2 ^ j) (s % fac d) ≠ BIG := by
    intro q
    unfold aB at e1
    rw [if_pos q] at e1
    exact hL e1
  have e2 : Lc m ok cst (d + 1) u = vF m ok cst d (u ||| 2 ^ j) (s % fac d) + cst (m - (d + 1)) j := by
    unfold aB at e1
    rw [if_neg hvn] at e1
    exact e1
  have l1 : Lc m ok cst d (u ||| 2 ^ j) ≤ vF m ok cst d (u ||| 2 ^ j) (s % fac d) := mn_lb _ hsm
  have hLn : Lc m ok cst d (u ||| 2 ^ j) ≠ BIG := by omega
  have att : ∀ i, Lc m ok cst d (u ||| 2 ^ i) ≠ BIG → ∃ t, t < fac d ∧ vF m ok cst d (u ||| 2 ^ i) t = Lc m ok cst d (u ||| 2 ^ i) := by
    intro i hi
    rcases mn_at (vF m ok cst d (u ||| 2 ^ i)) (fac d) with q | ⟨t, ht, q⟩
    · exact absurd q hi
    · exact ⟨t, ht, q⟩
  have e3 : vF m ok cst d (u ||| 2 ^ j) (s % fac d) = Lc m ok cst d (u ||| 2 ^ j) := by
    obtain ⟨t, ht, q⟩ := att j hLn
    have b1 := va j t hj hf ht
    have b2 := mn_lb (vF m ok cst (d + 1) u) (vl j t hj hf ht)
    rw [← hLe] at b2
    rw [if_pos hok, q] at b1
    unfold aB at b1
    rw [if_neg hLn] at b1
    omega
  have e4 : aB (cst (m - (d + 1)) j) (Lc m ok cst d (u ||| 2 ^ j)) = Lc m ok cst (d + 1) u := by
    unfold aB
    rw [if_neg hLn, ← e3]
    exact e2.symm
  refine ⟨j, hj, hf, hn, hok, e4, ⟨hsm, e3, fun t ht q => ?_⟩, hLn, fun i hij hfi hoki q => ?_⟩
  · have b1 := va j t hj hf (by omega)
    rw [if_pos hok, q, ← hLd, e4] at b1
    exact a3 (fc u j * fac d + t) (by omega) b1
  · have hi : i < m := by omega
    have hLi : Lc m ok cst d (u ||| 2 ^ i) ≠ BIG := by
      intro z
      unfold aB at q
      rw [if_pos z] at q
      exact hL q.symm
    obtain ⟨t, ht, z⟩ := att i hLi
    have b1 := va i t hi hfi ht
    rw [if_pos hoki, z, q] at b1
    have h1 : fc u i + 1 ≤ fc u j := by rw [← fc_1 hfi]; exact fc_mono j (by omega)
    have h2 : (fc u i + 1) * fac d ≤ fc u j * fac d := Nat.mul_le_mul_right _ h1
    have h3 : (fc u i + 1) * fac d = fc u i * fac d + fac d := Nat.succ_mul _ _
    exact a3 (fc u i * fac d + t) (by omega) b1
end RW2
end RW1
