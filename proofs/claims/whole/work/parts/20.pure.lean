/-! pure rows: loops, numbers -/
theorem itr_at {σ ρ : Type} {step : σ → Option (σ ⊕ ρ)} (f : Nat → σ) (k : Nat) (r : ρ) (h : ∀ i, i < k → step (f i) = some (.inl (f (i + 1)))) (he : step (f k) = some (.inr r)) : ∀ (F j : Nat), j ≤ k → k - j < F → itr F step (f j) = some r
  | 0, j, _, h2 => by omega
  | F + 1, j, h1, h2 => by
    unfold itr
    by_cases hj : j = k
    · subst hj
      rw [he]
      rfl
    · rw [h j (by omega)]
      exact itr_at f k r h he F (j + 1) (by omega) (by omega)
/-- a loop by its trace: f i is the state at the i-th turn, k turns go on -/
theorem itr_tr {σ ρ : Type} {step : σ → Option (σ ⊕ ρ)} (f : Nat → σ) (k : Nat) (r : ρ) {s : σ} (hs : s = f 0) (hk : k < 1000000) (h : ∀ i, i < k → step (f i) = some (.inl (f (i + 1)))) (he : step (f k) = some (.inr r)) : itr FU step s = some r := by
  subst hs
  exact itr_at f k r h he FU 0 (Nat.zero_le _) (Nat.lt_of_lt_of_le hk FU_ge)
/-- a loop by an invariant that counts -/
theorem itr_iv {σ ρ : Type} {step : σ → Option (σ ⊕ ρ)} (I : Nat → σ → Prop) (Q : ρ → Prop) (n : Nat) (h : ∀ i s, I i s → (∃ r, step s = some (.inr r) ∧ Q r) ∨ (i < n ∧ ∃ s', step s = some (.inl s') ∧ I (i + 1) s')) : ∀ (F i : Nat) (s : σ), I i s → n - i < F → ∃ r, itr F step s = some r ∧ Q r
  | 0, i, s, _, h2 => by omega
  | F + 1, i, s, hI, h2 => by
    unfold itr
    rcases h i s hI with ⟨r, h3, h4⟩ | ⟨h3, s', h4, h5⟩
    · exact ⟨r, by rw [h3]; rfl, h4⟩
    · obtain ⟨r, h6, h7⟩ := itr_iv I Q n h F (i + 1) s' h5 (by omega)
      exact ⟨r, by rw [h4]; exact h6, h7⟩
theorem itr_inv {σ ρ : Type} {step : σ → Option (σ ⊕ ρ)} (I : Nat → σ → Prop) (Q : ρ → Prop) (n : Nat) {s : σ} (hn : n < 1000000) (h0 : I 0 s) (h : ∀ i s, I i s → (∃ r, step s = some (.inr r) ∧ Q r) ∨ (i < n ∧ ∃ s', step s = some (.inl s') ∧ I (i + 1) s')) : ∃ r, itr FU step s = some r ∧ Q r :=
  itr_iv I Q n h FU 0 s h0 (Nat.lt_of_lt_of_le hn FU_ge)
theorem gin_n {k n : Nat} (h : k < n) (hn : n < 2 ^ 31) : gin (nI k) n := vp_in_nI h hn
theorem bindS {α β : Type} {x : Option α} {a : α} {f : α → Option β} (h : x = some a) : Option.bind x f = f a := by rw [h]; rfl
/-- the first k < n with p k; n, if there is none -/
def ff (p : Nat → Bool) (n : Nat) : Nat := match n with
  | 0 => 0
  | n + 1 => if ff p n < n then ff p n else if p n = true then n else n + 1
theorem ff_spec (p : Nat → Bool) : ∀ n, ff p n ≤ n ∧ (∀ j, j < ff p n → p j = false) ∧ (ff p n < n → p (ff p n) = true)
  | 0 => ⟨Nat.le_refl _, fun j h => absurd h (Nat.not_lt_zero j), fun h => absurd h (Nat.lt_irrefl 0)⟩
  | n + 1 => by
    obtain ⟨h1, h2, h3⟩ := ff_spec p n
    unfold ff
    by_cases h : ff p n < n
    · rw [if_pos h]
      exact ⟨by omega, h2, fun _ => h3 h⟩
    · rw [if_neg h]
      have e : ff p n = n := by omega
      rw [e] at h2
      by_cases hp : p n = true
      · rw [if_pos hp]
        exact ⟨by omega, h2, fun _ => hp⟩
      · rw [if_neg hp]
        refine ⟨Nat.le_refl _, fun j hj => ?_, fun q => absurd q (Nat.lt_irrefl _)⟩
        rcases Nat.lt_succ_iff_lt_or_eq.mp hj with h4 | h4
        · exact h2 j h4
        · subst h4
          exact Bool.eq_false_iff.mpr hp
/-! the guests, as a table T (1 kind, 2 want, 3 can, 4 duty, 5 tips), n of them -/
def HC (M : gMem) (c n : Nat) (T : Nat → Nat → Int32) : Prop := M.1 c 0 13 = nI n ∧ ∀ g, g < n → M.1 c 1 g = T 1 g ∧ M.1 c 2 g = T 2 g ∧ M.1 c 3 g = T 3 g ∧ M.1 c 4 g = T 4 g ∧ M.1 c 5 g = T 5 g
def HM (M : gMem) (n : Nat) (T : Nat → Nat → Int32) : Prop := M.1 0 60 16 = nI n ∧ ∀ g, g < n → M.1 0 60 (17 + g) = T 1 g ∧ M.1 0 60 (24 + g) = T 2 g ∧ M.1 0 60 (31 + g) = T 3 g ∧ M.1 0 60 (2 + g) = T 4 g ∧ M.1 0 60 (9 + g) = T 5 g
def WFT (n : Nat) (T : Nat → Nat → Int32) : Prop := n ≤ 7 ∧ ∀ g, g < n → (∃ k, k < 6 ∧ T 1 g = nI k) ∧ (∃ w, w < 8 ∧ T 2 g = nI w) ∧ (T 4 g = -1 ∨ ∃ d, d < n ∧ d ≠ g ∧ T 4 g = nI d)
def b2i (b : Bool) : Int32 := if b = true then 1 else 0
theorem b2i_0 {b : Bool} : b2i b = 0 ↔ b = false := by cases b <;> simp [b2i]
def csv (T : Nat → Nat → Int32) (g w : Nat) : Bool := decide (¬ ((T 3 g >>> (T 2 w &&& 31)) &&& 1) = 0)
theorem and1 (x : Int32) : x &&& 1 = 0 ∨ x &&& 1 = 1 := by
  have h : (x &&& 1) = nI (x.toBitVec.toNat % 2 ^ 1) := pk_and x (m := 1) 1 rfl
  rcases Nat.mod_two_eq_zero_or_one x.toBitVec.toNat with e | e
  · left; rw [h, show x.toBitVec.toNat % 2 ^ 1 = 0 from e]; rfl
  · right; rw [h, show x.toBitVec.toNat % 2 ^ 1 = 1 from e]; rfl
theorem has_e (x y : Int32) : x_X11_has x y = some (b2i (decide (¬ ((x >>> (y &&& 31)) &&& 1) = 0))) := by
  unfold x_X11_has b2i
  rcases and1 (x >>> (y &&& 31)) with e | e <;> rw [e] <;> rfl
theorem nI_ne {a b : Nat} (ha : a < 2 ^ 31) (hb : b < 2 ^ 31) (h : a ≠ b) : ¬ nI a = nI b := fun q => h ((nI_eq ha hb).mp q)
theorem nI_nm1 {a : Nat} (ha : a < 2 ^ 31) : ¬ nI a = -1 := fun q => by
  have := congrArg Int32.toInt q
  rw [nI_toInt ha] at this
  have h2 : (-1 : Int32).toInt = -1 := rfl
  omega
section PH
variable {M : gMem} {c n : Nat} {T : Nat → Nat → Int32}
theorem C_can (h : HC M c n T) (hW : WFT n T) {g w : Nat} (hg : g < n) (hw : w < n) : x_X1_canServe M c (nI g) (nI w) = some (b2i (csv T g w)) := by
  have hn := hW.1
  unfold x_X1_canServe
  rw [gd_i (gin_n (by omega) (by omega)), gd_i (gin_n (by omega) (by omega)), nI_clamp (by omega), nI_clamp (by omega), (h.2 g hg).2.2.1, (h.2 w hw).2.1]
  unfold csv b2i
  by_cases e : ((T 3 g >>> (T 2 w &&& 31)) &&& 1) = 0
  · rw [if_pos e]; simp [e]
  · rw [if_neg e]; simp [e]
theorem M_can (h : HM M n T) (hW : WFT n T) {g w : Nat} (hg : g < n) (hw : w < n) : x_X11_canServe M (nI g) (nI w) = some (b2i (decide (g ≠ w) && csv T g w)) := by
  have hn := hW.1
  unfold x_X11_canServe
  by_cases e : g = w
  · subst e
    rw [if_pos rfl]
    simp [b2i]
  · rw [if_neg (nI_ne (by omega) (by omega) e), show (31 : Int32) + nI g = nI (31 + g) from nI_add 31 g, show (24 : Int32) + nI w = nI (24 + w) from nI_add 24 w, gd_i (gin_n (by omega) (by omega)), gd_i (gin_n (by omega) (by omega)), nI_clamp (by omega), nI_clamp (by omega), (h.2 g hg).2.2.1, (h.2 w hw).2.1, has_e]
    show (if b2i (csv T g w) = 0 then some 0 else some 1) = _
    cases csv T g w <;> simp [b2i, e]
/-- who serves w: the place, n if nobody -/
def srv (n : Nat) (T : Nat → Nat → Int32) (w : Nat) : Nat := ff (fun g => decide (T 4 g = nI w) && csv T g w) n
def srvI (n : Nat) (T : Nat → Nat → Int32) (w : Nat) : Int32 := if srv n T w < n then nI (srv n T w) else -1
theorem C_does (h : HC M c n T) (hW : WFT n T) {g w : Nat} (hg : g < n) (hw : w < n) : x_X1_doesServe M c (nI g) (nI w) = some (b2i (decide (T 4 g = nI w) && csv T g w)) := by
  have hn := hW.1
  unfold x_X1_doesServe
  rw [gd_i (gin_n (by omega) (by omega)), nI_clamp (by omega), (h.2 g hg).2.2.2.1]
  by_cases e : T 4 g = nI w
  · rw [if_pos e, C_can h hW hg hw]
    show (if b2i (csv T g w) = 0 then some 0 else some 1) = _
    cases csv T g w <;> simp [b2i, e]
  · rw [if_neg e]
    simp [b2i, e]
theorem C_srv (h : HC M c n T) (hW : WFT n T) {w : Nat} (hw : w < n) : x_X1_serverOf M c (nI w) = some (srvI n T w) := by
  have hn := hW.1
  obtain ⟨f1, f2, f3⟩ := ff_spec (fun g => decide (T 4 g = nI w) && csv T g w) n
  have hstep : ∀ i, i < srv n T w → s_X1_serverOf_2 M c (nI w) (nI i) = some (.inl (nI (i + 1))) := by
    intro i hi
    have hin : i < n := Nat.lt_of_lt_of_le hi f1
    unfold s_X1_serverOf_2
    rw [h.1, if_neg (by rw [nI_leI (by omega) (by omega)]; omega), C_does h hW hin hw]
    show (if b2i (decide (T 4 i = nI w) && csv T i w) = 0 then some (Sum.inl (nI i + 1)) else some (Sum.inr (Sum.inr (nI i)))) = _
    rw [f2 i hi, if_pos (b2i_0.mpr rfl), nI_1]
  unfold x_X1_serverOf srvI
  by_cases hs : srv n T w < n
  · rw [if_pos hs]
    refine (bindS (itr_tr (fun i => nI i) (srv n T w) (.inr (nI (srv n T w))) rfl (by omega) hstep ?_)).trans rfl
    · unfold s_X1_serverOf_2
      rw [h.1, if_neg (by rw [nI_leI (by omega) (by omega)]; omega), C_does h hW hs hw]
      show (if b2i (decide (T 4 (srv n T w) = nI w) && csv T (srv n T w) w) = 0 then some (Sum.inl (nI (srv n T w) + 1)) else some (Sum.inr (Sum.inr (nI (srv n T w))))) = _
      have e : (decide (T 4 (srv n T w) = nI w) && csv T (srv n T w) w) = true := f3 hs
      rw [e]
      rfl
  · have e : srv n T w = n := Nat.le_antisymm f1 (Nat.le_of_not_lt hs)
    rw [if_neg hs]
    refine (bindS (itr_tr (fun i => nI i) n (.inl (nI n)) rfl (by omega) (fun i hi => hstep i (by rw [e]; exact hi)) ?_)).trans rfl
    · unfold s_X1_serverOf_2
      rw [h.1, if_pos (by rw [nI_leI (by omega) (by omega)]; omega)]
theorem M_srv (h : HM M n T) (hW : WFT n T) {w : Nat} (hw : w < n) : x_X11_serverOf M (nI w) = some (srvI n T w) := by
  have hn := hW.1
  obtain ⟨f1, f2, f3⟩ := ff_spec (fun g => decide (T 4 g = nI w) && csv T g w) n
  have key : ∀ i, i < n → s_X11_serverOf_2 M (nI w) (nI i) = if (decide (T 4 i = nI w) && csv T i w) = true then some (.inr (.inr (nI i))) else some (.inl (nI (i + 1))) := by
    intro i hin
    unfold s_X11_serverOf_2 j_X11_serverOf_2_36
    rw [h.1, if_neg (by rw [nI_leI (by omega) (by omega)]; omega), show (2 : Int32) + nI i = nI (2 + i) from nI_add 2 i, gd_i (gin_n (by omega) (by omega)), nI_clamp (by omega), (h.2 i hin).2.2.2.1, M_can h hW hin hw, nI_1]
    by_cases e : T 4 i = nI w
    · have hne : i ≠ w := by
        rcases (hW.2 i hin).2.2 with q | ⟨d, hd, hdi, q⟩
        · rw [q] at e; exact absurd e.symm (nI_nm1 (by omega))
        · rw [q] at e
          have := (nI_eq (by omega) (by omega)).mp e
          omega
      rw [if_pos e]
      show (if b2i (decide (i ≠ w) && csv T i w) = 0 then some (Sum.inl (nI (i + 1))) else some (Sum.inr (Sum.inr (nI i)))) = _
      cases csv T i w <;> simp [b2i, e, hne]
    · rw [if_neg e]
      simp [e]
  have hstep : ∀ i, i < srv n T w → s_X11_serverOf_2 M (nI w) (nI i) = some (.inl (nI (i + 1))) := by
    intro i hi
    rw [key i (Nat.lt_of_lt_of_le hi f1), f2 i hi]
    rfl
  unfold x_X11_serverOf srvI
  by_cases hs : srv n T w < n
  · rw [if_pos hs]
    refine (bindS (itr_tr (fun i => nI i) (srv n T w) (.inr (nI (srv n T w))) rfl (by omega) hstep ?_)).trans rfl
    · show s_X11_serverOf_2 M (nI w) (nI (srv n T w)) = _
      rw [key _ hs]
      have e : (decide (T 4 (srv n T w) = nI w) && csv T (srv n T w) w) = true := f3 hs
      rw [e]
      rfl
  · have e : srv n T w = n := Nat.le_antisymm f1 (Nat.le_of_not_lt hs)
    rw [if_neg hs]
    refine (bindS (itr_tr (fun i => nI i) n (.inl (nI n)) rfl (by omega) (fun i hi => hstep i (by rw [e]; exact hi)) ?_)).trans rfl
    · unfold s_X11_serverOf_2
      rw [h.1, if_pos (by rw [nI_leI (by omega) (by omega)]; omega)]
end PH
