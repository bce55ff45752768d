/-! the invariant -/
def IMR (M : gMem) (i : Nat) : Prop := (M.1 0 35 i = 0 ∧ M.1 0 70 i = 0) ∨ (M.1 0 35 i = 1 ∧ M.1 0 70 i = 1 ∧ HRel (M.1 (2 + i)) (fun k => M.1 0 71 (70 * i + k)) (fun k => M.1 0 72 (128 * i + k)) (M.1 0 73 i))
def TXR (M : gMem) : Prop := ∃ t, t ≤ 150 ∧ M.1 0 36 1 = nI t ∧ M.1 0 59 5 = nI t ∧ ∀ k, k < t → M.1 0 37 k = M.1 0 62 k ∧ ∃ b, b < 128 ∧ M.1 0 62 k = nI b
def RFR (M : gMem) : Prop := ∀ k, k < 3 → M.1 0 50 k = M.1 0 61 k
def LNR (M : gMem) : Prop := M.2 34 7 = M.2 59 1 ∧ M.2 34 8 = M.2 59 2
def SLR (M : gMem) : Prop := ∃ sl, sl < 8 ∧ M.1 1 0 11 = nI sl
def INV (M : gMem) : Prop := HRel (M.1 0) (M.1 0 60) (M.1 0 64) (M.1 0 59 14) ∧ (IMR M 0 ∧ IMR M 1) ∧ TXR M ∧ RFR M ∧ LNR M ∧ SLR M
theorem IMR.congr {M N : gMem} {i : Nat} (h : IMR M i) (h1 : ∀ o, o < 34 → N.1 (2 + i) o = M.1 (2 + i) o) (h2 : N.1 0 35 = M.1 0 35) (h3 : N.1 0 70 = M.1 0 70) (h4 : N.1 0 71 = M.1 0 71) (h5 : N.1 0 72 = M.1 0 72) (h6 : N.1 0 73 = M.1 0 73) : IMR N i := by
  unfold IMR
  rw [h2, h3, h4, h5, h6]
  rcases h with h | ⟨a, b, c⟩
  · exact Or.inl h
  · exact Or.inr ⟨a, b, c.congr h1 rfl rfl rfl⟩
theorem TXR.congr {M N : gMem} (h : TXR M) (h1 : N.1 0 36 = M.1 0 36) (h2 : N.1 0 59 5 = M.1 0 59 5) (h3 : N.1 0 37 = M.1 0 37) (h4 : N.1 0 62 = M.1 0 62) : TXR N := by
  unfold TXR
  rw [h1, h2, h3, h4]
  exact h
/-- the cells that hold the house that is open, and what is used and thrown away -/
def HP (c o : Nat) : Prop := c = 0 ∧ (o < 34 ∨ (38 ≤ o ∧ o < 50) ∨ o = 59 ∨ o = 60 ∨ (63 ≤ o ∧ o < 70))
def SP (c o : Nat) : Prop := c = 0 ∧ ((38 ≤ o ∧ o < 50) ∨ o = 59 ∨ o = 63 ∨ (65 ≤ o ∧ o < 70))
theorem INV.mv {M N : gMem} (h : INV M) (f : fr HP M N) (h5 : N.1 0 59 5 = M.1 0 59 5) (hh : HRel (N.1 0) (N.1 0 60) (N.1 0 64) (N.1 0 59 14)) : INV N := by
  obtain ⟨_, ⟨i0, i1⟩, t, r, l, s⟩ := h
  have k : ∀ c o, ¬ HP c o → N.1 c o = M.1 c o := f.2
  refine ⟨hh, ⟨i0.congr (fun o _ => k _ _ ?_) (k _ _ ?_) (k _ _ ?_) (k _ _ ?_) (k _ _ ?_) (k _ _ ?_), i1.congr (fun o _ => k _ _ ?_) (k _ _ ?_) (k _ _ ?_) (k _ _ ?_) (k _ _ ?_) (k _ _ ?_)⟩, t.congr (k _ _ ?_) h5 (k _ _ ?_) (k _ _ ?_), ?_, ?_, ?_⟩
  all_goals try (unfold HP; omega)
  · unfold RFR; rw [k 0 50 (by unfold HP; omega), k 0 61 (by unfold HP; omega)]; exact r
  · unfold LNR; rw [f.1]; exact l
  · unfold SLR; rw [k 1 0 (by unfold HP; omega)]; exact s
theorem INV.sc {M N : gMem} (h : INV M) (f : fr SP M N) (h5 : N.1 0 59 5 = M.1 0 59 5) (h14 : N.1 0 59 14 = M.1 0 59 14) : INV N := by
  refine h.mv (f.mono (fun c o q => ?_)) h5 (h.1.congr (fun o _ => f.2 _ _ ?_) (f.2 _ _ ?_) (f.2 _ _ ?_) h14)
  all_goals (first | (unfold SP HP at *; omega) | (unfold SP; omega))
theorem INV.rf {M : gMem} (h : INV M) {k : Nat} (hk : k < 3) : INV (gwr (gwr M 0 50 k (M.1 0 50 k + 1)) 0 61 k ((gwr M 0 50 k (M.1 0 50 k + 1)).1 0 61 k + 1)) := by
  obtain ⟨hh, ⟨i0, i1⟩, t, r, l, s⟩ := h
  have q : ∀ c o, ¬ (c = 0 ∧ (o = 50 ∨ o = 61)) → (gwr (gwr M 0 50 k (M.1 0 50 k + 1)) 0 61 k ((gwr M 0 50 k (M.1 0 50 k + 1)).1 0 61 k + 1)).1 c o = M.1 c o := fun c o n => (gwr_o (by omega)).trans (gwr_o (by omega))
  refine ⟨hh.congr (fun o _ => q _ _ ?_) (q _ _ ?_) (q _ _ ?_) ?_, ⟨i0.congr (fun o _ => q _ _ ?_) (q _ _ ?_) (q _ _ ?_) (q _ _ ?_) (q _ _ ?_) (q _ _ ?_), i1.congr (fun o _ => q _ _ ?_) (q _ _ ?_) (q _ _ ?_) (q _ _ ?_) (q _ _ ?_) (q _ _ ?_)⟩, t.congr (q _ _ ?_) ?_ (q _ _ ?_) (q _ _ ?_), ?_, ?_, ?_⟩
  all_goals try omega
  · rw [q 0 59 (by omega)]
  · rw [q 0 59 (by omega)]
  · intro j hj
    rw [gwr_s, gwr_o (by omega), gwr_s, gwr_o (by omega), ← r k hk]
    by_cases e : j = k
    · subst e; rw [pk_us, pk_us]
    · rw [pk_un e, pk_un e]; exact r j hj
  · exact l
  · unfold SLR; rw [q 1 0 (by omega)]; exact s
/-! which case an argument is -/
theorem i64_lt (x y : Int32) : x.toInt64 < y.toInt64 ↔ x < y := by rw [Int64.lt_iff_toInt_lt, Int32.toInt_toInt64, Int32.toInt_toInt64, Int32.lt_iff_toInt_lt]
theorem in_e (p lo hi : Int32) {a b : Int64} (ha : a = lo.toInt64) (hb : b = hi.toInt64) : x_X11_in p.toInt64 a b = if p < lo then some 0 else if hi < p then some 0 else some 1 := by
  subst ha; subst hb
  unfold x_X11_in
  simp only [lg_cmp_lt, lg_cmp_gt, i64_lt]
theorem i32_le (x y : Int32) : x ≤ y ↔ x.toInt ≤ y.toInt := Int32.le_iff_toInt_le
theorem i32_lt (x y : Int32) : x < y ↔ x.toInt < y.toInt := Int32.lt_iff_toInt_lt
theorem below_e (p q s : Int32) {b : Int64} (m : Nat) (hm : m < 2 ^ 31) (hq : q = nI m) (hs : q = s + 1) (hs2 : s.toInt + 1 = m) (hb : b = s.toInt64) : (∃ j, j < m ∧ p = nI j ∧ x_X10_isBelow p q = some 1 ∧ x_X11_in p.toInt64 0 b = some 1) ∨ (x_X10_isBelow p q = some 0 ∧ x_X11_in p.toInt64 0 b = some 0) := by
  unfold x_X10_isBelow
  rw [in_e p 0 s (a := 0) (by decide) hb]
  by_cases h0 : p < 0
  · rw [if_pos h0, if_pos h0]; exact Or.inr ⟨rfl, rfl⟩
  · rw [if_neg h0, if_neg h0]
    obtain ⟨j, hj, rfl⟩ := nI_of h0
    by_cases h1 : j < m
    · left
      refine ⟨j, h1, rfl, ?_, ?_⟩
      · rw [hq, if_neg (by rw [nI_leI hm hj]; omega)]
      · rw [if_neg (by rw [i32_lt, nI_toInt hj]; omega)]
    · right
      refine ⟨?_, ?_⟩
      · rw [hq, if_pos (by rw [nI_leI hm hj]; omega)]
      · rw [if_pos (by rw [i32_lt, nI_toInt hj]; omega)]
theorem guest_e (p : Int32) {n : Nat} (hn : n ≤ 7) : (∃ g, g < n ∧ p = nI g ∧ (∀ (M : gMem) c, M.1 c 0 13 = nI n → x_X1_isGuest M c p = some 1) ∧ ∀ M : gMem, M.1 0 60 16 = nI n → x_X11_isGuest M p = some 1) ∨ ((∀ (M : gMem) c, M.1 c 0 13 = nI n → x_X1_isGuest M c p = some 0) ∧ ∀ M : gMem, M.1 0 60 16 = nI n → x_X11_isGuest M p = some 0) := by
  have hs : (nI n - 1).toInt = (n : Int) - 1 := by
    have : ∀ n, n < 8 → (nI n - 1).toInt = (n : Int) - 1 := by decide +kernel
    exact this n (by omega)
  have c1 : ∀ (M : gMem) c, M.1 c 0 13 = nI n → x_X1_isGuest M c p = if p < 0 then some 0 else if nI n ≤ p then some 0 else some 1 := fun M c h => by unfold x_X1_isGuest; rw [h]
  have c2 : ∀ M : gMem, M.1 0 60 16 = nI n → x_X11_isGuest M p = if p < 0 then some 0 else if nI n ≤ p then some 0 else some 1 := fun M h => by
    unfold x_X11_isGuest
    rw [h, in_e p 0 (nI n - 1) (a := 0) (b := (nI n - 1).toInt64) (by decide) rfl]
    have e : (nI n - 1 < p) = (nI n ≤ p) := propext (by rw [i32_lt, i32_le, hs, nI_toInt (by omega)]; omega)
    simp only [e]
    by_cases q1 : p < 0
    · rw [if_pos q1]; rfl
    · rw [if_neg q1]
      by_cases q2 : nI n ≤ p
      · rw [if_pos q2]; rfl
      · rw [if_neg q2]; rfl
  by_cases h0 : p < 0
  · right; exact ⟨fun M c h => by rw [c1 M c h, if_pos h0], fun M h => by rw [c2 M h, if_pos h0]⟩
  · obtain ⟨j, hj, e⟩ := nI_of h0
    by_cases h1 : j < n
    · left
      exact ⟨j, h1, e, fun M c h => by rw [c1 M c h, if_neg h0, e, if_neg (by rw [nI_leI (by omega) (by omega)]; omega)], fun M h => by rw [c2 M h, if_neg h0, e, if_neg (by rw [nI_leI (by omega) (by omega)]; omega)]⟩
    · right
      exact ⟨fun M c h => by rw [c1 M c h, if_neg h0, e, if_pos (by rw [nI_leI (by omega) (by omega)]; omega)], fun M h => by rw [c2 M h, if_neg h0, e, if_pos (by rw [nI_leI (by omega) (by omega)]; omega)]⟩
