section RW9
abbrev okA (T : Nat → Nat → Int32) (n : Nat) : Nat → Nat → Bool := okW T (nx n 0)
def ctR (ok : Nat → Nat → Bool) (n r : Nat) : Nat := fd (fun x y => x + y) 0 (fun s => if okF n ok n 0 s = true then 1 else 0) r
theorem ctR_s (ok : Nat → Nat → Bool) (n r : Nat) : ctR ok n (r + 1) = ctR ok n r + (if okF n ok n 0 r = true then 1 else 0) := rfl
theorem ctR_le (ok : Nat → Nat → Bool) (n : Nat) : ∀ r, ctR ok n r ≤ r
  | 0 => Nat.le_refl _
  | r + 1 => by
    have := ctR_le ok n r
    rw [ctR_s]
    split <;> omega
theorem ctR_0 {ok : Nat → Nat → Bool} {n : Nat} : ∀ {r}, ctR ok n r = 0 → ∀ t, t < r → okF n ok n 0 t = false
  | 0, _, t, ht => absurd ht (Nat.not_lt_zero t)
  | r + 1, h, t, ht => by
    rw [ctR_s] at h
    by_cases e : t = r
    · subst e
      cases ho : okF n ok n 0 t
      · rfl
      · rw [ho, if_pos rfl] at h; omega
    · exact ctR_0 (r := r) (by omega) t (by omega)
theorem ctR_1 {ok : Nat → Nat → Bool} {n : Nat} : ∀ {r}, (∀ t, t < r → okF n ok n 0 t = false) → ctR ok n r = 0
  | 0, _ => rfl
  | r + 1, h => by
    rw [ctR_s, ctR_1 (r := r) (fun t ht => h t (by omega)), h r (by omega)]
    rfl
def lW (x : Int) : Int32 := if x = BIG then -1 else iI x
def lC (x : Int) : Int32 := if x = BIG then -1 else iI (-x)
abbrev vW (M : gMem) (n : Nat) (T : Nat → Nat → Int32) : Nat → Int := vF n (okA T n) (cW T n) n 0
abbrev vC (M : gMem) (n : Nat) (T : Nat → Nat → Int32) : Nat → Int := vF n (okA T n) (cC T (M.1 0 60 0) n) n 0
def FR (M : gMem) (n : Nat) (T : Nat → Nat → Int32) (r : Nat) (N : gMem) : Prop := N.1 0 59 16 = nI n ∧ (∀ i, i < n → N.1 0 65 i = nI i) ∧ N.1 0 59 19 = nI (ctR (okA T n) n r) ∧ N.1 0 59 20 = lW (fd mn BIG (vW M n T) r) ∧ N.1 0 59 21 = lC (fd mn BIG (vC M n T) r) ∧ (∀ s, s < r → okF n (okA T n) n 0 s = true → (∀ t, t < s → okF n (okA T n) n 0 t = false) → ∀ g, g < n → N.1 0 67 g = nI (rwF n n 0 s g)) ∧ (∀ s, isAM (vC M n T) r s → vC M n T s ≠ BIG → ∀ g, g < n → N.1 0 68 g = nI (rwF n n 0 s g)) ∧ (∀ j, j ≠ 16 → j ≠ 19 → j ≠ 20 → j ≠ 21 → N.1 0 59 j = M.1 0 59 j) ∧ fr (fun c o => c = 0 ∧ (o = 59 ∨ (65 ≤ o ∧ o < 69))) M N
theorem am_back {v : Nat → Int} {r s : Nat} (h : isAM v (r + 1) s) (hv : v s ≠ BIG) (hk : fd mn BIG v (r + 1) = fd mn BIG v r) : isAM v r s := by
  obtain ⟨h1, h2, h3⟩ := h
  rw [hk] at h2 h3
  refine ⟨?_, h2, h3⟩
  rcases Nat.lt_or_ge s r with q | q
  · exact q
  · have e : s = r := by omega
    subst e
    rcases mn_at v s with z | ⟨i, hi, z⟩
    · rw [z] at h2; exact absurd h2 hv
    · exact absurd z (h3 i hi)
theorem am_new {v : Nat → Int} {r s : Nat} (h : isAM v (r + 1) s) (hl : v r < fd mn BIG v r) : s = r := by
  have e : fd mn BIG v (r + 1) = v r := by show mn _ _ = _; rw [mn_e, if_pos hl]
  refine AM_u h ⟨by omega, e.symm, fun t ht q => ?_⟩
  have := mn_lb v ht
  rw [e] at q
  omega
theorem kW {α : Type} {x w : Int} (hx : x = BIG ∨ (0 ≤ x ∧ x ≤ 70)) (hw : 0 ≤ w ∧ w ≤ 70) (A : Int32 → α) : (if lW x < 0 then A (iI w) else if lW x ≤ iI w then A (lW x) else A (iI w)) = A (lW (mn x w)) := by
  have hB := BIG_e
  have hwb : ¬ w = BIG := by omega
  rw [mn_e]
  by_cases e : x = BIG
  · have : lW x = -1 := by unfold lW; rw [if_pos e]
    rw [this, if_pos (by decide), if_pos (by omega)]
    unfold lW
    rw [if_neg hwb]
  · have : lW x = iI x := by unfold lW; rw [if_neg e]
    have h0 : ¬ iI x < 0 := by
      have := iI_lt (a := x) (b := 0) (by omega) (by omega) (by omega) (by omega)
      intro q
      have := this.mp q
      omega
    rw [this, if_neg h0]
    by_cases q : x ≤ w
    · rw [if_pos ((iI_le (by omega) (by omega) (by omega) (by omega)).mpr q), if_neg (by omega), this]
    · rw [if_neg (fun z => q ((iI_le (by omega) (by omega) (by omega) (by omega)).mp z)), if_pos (by omega)]
      unfold lW
      rw [if_neg hwb]
theorem kCl {y v : Int} (hy : y = BIG ∨ (-70 ≤ y ∧ y ≤ 0)) (hv : -70 ≤ v ∧ v ≤ 0) : iI (-v) ≤ lC y ↔ ¬ v < y := by
  have hB := BIG_e
  unfold lC
  by_cases e : y = BIG
  · rw [if_pos e]
    have := iI_le (a := -v) (b := -1) (by omega) (by omega) (by omega) (by omega)
    have e1 : iI (-1) = -1 := rfl
    rw [e1] at this
    rw [this]
    omega
  · rw [if_neg e, iI_le (by omega) (by omega) (by omega) (by omega)]
    omega
theorem kC {α : Type} {y v : Int} (hy : y = BIG ∨ (-70 ≤ y ∧ y ≤ 0)) (hv : -70 ≤ v ∧ v ≤ 0) (A : Int32 → α) : (if iI (-v) ≤ lC y then A (lC y) else A (iI (-v))) = A (lC (mn y v)) := by
  have hB := BIG_e
  rw [mn_e]
  by_cases q : v < y
  · rw [if_neg (fun z => (kCl hy hv).mp z q), if_pos q]
    unfold lC
    rw [if_neg (by omega)]
  · rw [if_pos ((kCl hy hv).mpr q), if_neg q]
variable {M : gMem} {n : Nat} {T : Nat → Nat → Int32}
theorem vW_b (hW : WFT n T) (s : Nat) : vW M n T s = BIG ∨ (0 ≤ vW M n T s ∧ vW M n T s ≤ 70) := by
  have hn := hW.1
  have h1 := co_b (m := n) (cst := cW T n) (fun i j => by have := cW_b hW i j; omega) n 0 s
  have h2 := co_lo (m := n) (cst := cW T n) (fun i j => (cW_b hW i j).1) n 0 s
  show vF _ _ _ _ _ _ = _ ∨ _
  unfold vW vF
  split
  · right; omega
  · left; rfl
theorem vC_b (hn : n ≤ 7) (s : Nat) : vC M n T s = BIG ∨ (-70 ≤ vC M n T s ∧ vC M n T s ≤ 0) := by
  have h1 := co_b (m := n) (cst := cC T (M.1 0 60 0) n) (fun i j => by have := cC_b n T (M.1 0 60 0) i j; omega) n 0 s
  have h2 := co_hi (m := n) (cst := cC T (M.1 0 60 0) n) (fun i j => (cC_b n T (M.1 0 60 0) i j).2) n 0 s
  show vF _ _ _ _ _ _ = _ ∨ _
  unfold vC vF
  split
  · right; omega
  · left; rfl
theorem co_all {m : Nat} (cst : Nat → Nat → Int) (s : Nat) : coF m cst m 0 s = fd (fun x y => x + y) 0 (fun i => cst i (rwF m m 0 s i)) m := by
  rw [co_sum cst m (Nat.le_refl m)]
  exact fd_cong m (fun t _ => by rw [Nat.sub_self, Nat.zero_add])
theorem FRS (hM : HM M n T) (hW : WFT n T) {r : Nat} (hr : r < fac n) {N : gMem} (h : FR M n T r N) : ∃ N', s_X11_findRows_33 (nI (fac n)) (nI r) N = some (.inl (nI (r + 1), N')) ∧ FR M n T (r + 1) N' := by
  have hn := hW.1
  have hB := BIG_e
  have hfb := fac_b n (by omega)
  obtain ⟨f16, f65, f19, f20, f21, f67, f68, f59, ff⟩ := h
  have N60 : N.1 0 60 = M.1 0 60 := ff.2 0 60 (by omega)
  have hR : RWM N n (fun i => i) (okA T n) := ⟨f16, fun i hi => ⟨f65 i hi, show i < 7 by omega⟩, fun i j _ _ q => q, fun K hK i j hi hj => by
    have hKw : HMw K n T := by
      unfold HMw
      rw [hK, N60]
      exact ⟨hM.1, fun g hg => ⟨(hM.2 g hg).2.1, (hM.2 g hg).2.2.1⟩⟩
    rw [M_canw hKw hn hi hj]
    unfold okA okW
    rw [nx0 hi, nx0 hj]⟩
  obtain ⟨N1, n1, n2, n3⟩ := M_row hR hn hr
  have N1o : ∀ o, o ≠ 66 → N1.1 0 o = N.1 0 o := fun o ho => n2.2 0 o (by omega)
  unfold s_X11_findRows_33
  rw [if_neg (by rw [nI_leI (by omega) (by omega)]; omega), bindS n1]
  cases ho : okF n (okA T n) n 0 r
  · have vr : ∀ cst, vF n (okA T n) cst n 0 r = BIG := fun cst => by unfold vF; rw [ho]; rfl
    have f1 : ∀ cst, fd mn BIG (vF n (okA T n) cst n 0) (r + 1) = fd mn BIG (vF n (okA T n) cst n 0) r := fun cst => by
      show mn _ (vF n (okA T n) cst n 0 r) = _
      rw [vr, mn_i]
    refine ⟨N1, ?_, by rw [N1o 59 (by omega)]; exact f16, fun i hi => by rw [N1o 65 (by omega)]; exact f65 i hi, ?_, ?_, ?_, fun s hs hos hts g hg => ?_, fun s hs hvs g hg => ?_, fun j h1 h2 h3 h4 => by rw [N1o 59 (by omega)]; exact f59 j h1 h2 h3 h4, ff.tr (n2.mono (fun c o q => ⟨q.1, by omega⟩))⟩
    · rw [if_pos (b2i_0.mpr rfl)]
      unfold j_X11_findRows_33_198
      rw [nI_1]
    · rw [N1o 59 (by omega), ctR_s, ho, f19]; rfl
    · rw [N1o 59 (by omega), f1, f20]
    · rw [N1o 59 (by omega), f1, f21]
    · have : s ≠ r := fun q => by rw [q, ho] at hos; cases hos
      rw [N1o 67 (by omega)]
      exact f67 s (by omega) hos hts g hg
    · rw [N1o 68 (by omega)]
      exact f68 s (am_back hs hvs (f1 _)) hvs g hg
  · have h66 : ∀ g, g < n → N1.1 0 66 g = nI (rwF n n 0 r g) ∧ rwF n n 0 r g < n := fun g hg => ⟨n3 ho g hg, rwF_lt hn n 0 r (Nat.two_pow_pos n) (fc0 n) hr g (by omega) hg⟩
    have hHM : HM N1 n T := by unfold HM; rw [N1o 60 (by omega), N60]; exact hM
    have g16 : N1.1 0 59 16 = nI n := by rw [N1o 59 (by omega)]; exact f16
    have wr := M_rw hHM hW g16 h66
    have cr := M_rc hHM hW g16 h66
    rw [← co_all] at wr
    rw [N1o 60 (by omega), N60, ← co_all] at cr
    have eW : coF n (cW T n) n 0 r = vW M n T r := by unfold vW vF; rw [ho, if_pos rfl]
    have eC : coF n (cC T (M.1 0 60 0) n) n 0 r = vC M n T r := by unfold vC vF; rw [ho, if_pos rfl]
    rw [eW] at wr
    rw [eC] at cr
    have bW : 0 ≤ vW M n T r ∧ vW M n T r ≤ 70 := by
      rw [← eW]
      have h1 := co_b (m := n) (cst := cW T n) (fun i j => by have := cW_b hW i j; omega) n 0 r
      have h2 := co_lo (m := n) (cst := cW T n) (fun i j => (cW_b hW i j).1) n 0 r
      omega
    have bC : -70 ≤ vC M n T r ∧ vC M n T r ≤ 0 := by
      rw [← eC]
      have h1 := co_b (m := n) (cst := cC T (M.1 0 60 0) n) (fun i j => by have := cC_b n T (M.1 0 60 0) i j; omega) n 0 r
      have h2 := co_hi (m := n) (cst := cC T (M.1 0 60 0) n) (fun i j => (cC_b n T (M.1 0 60 0) i j).2) n 0 r
      omega
    have xW := fd_rng (vW_b (M := M) hW) r
    have yC := fd_rng (vC_b (M := M) (T := T) hn) r
    obtain ⟨N2, c1, c2, c3⟩ := M_cp hn g16 (nI (fac n)) (nI r) (iI (vW M n T r)) (iI (-(vC M n T r)))
    have N2o : ∀ o, o ≠ 66 → o ≠ 67 → o ≠ 68 → N2.1 0 o = N.1 0 o := fun o h1 h2 h3 => by rw [c3.2 0 o (by omega), N1o o h1]
    have d20 : N2.1 0 59 20 = lW (fd mn BIG (vW M n T) r) := by rw [N2o 59 (by omega) (by omega) (by omega)]; exact f20
    have d21 : N2.1 0 59 21 = lC (fd mn BIG (vC M n T) r) := by rw [N2o 59 (by omega) (by omega) (by omega)]; exact f21
    have d19 : N2.1 0 59 19 = nI (ctR (okA T n) n r) := by rw [N2o 59 (by omega) (by omega) (by omega)]; exact f19
    have sW : fd mn BIG (vW M n T) (r + 1) = mn (fd mn BIG (vW M n T) r) (vW M n T r) := rfl
    have sC : fd mn BIG (vC M n T) (r + 1) = mn (fd mn BIG (vC M n T) r) (vC M n T r) := rfl
    obtain ⟨N3, hN3⟩ : ∃ N3, N3 = gwr N2 0 59 20 (lW (fd mn BIG (vW M n T) (r + 1))) := ⟨_, rfl⟩
    obtain ⟨N4, hN4⟩ : ∃ N4, N4 = gwr (gwr N3 0 59 21 (lC (fd mn BIG (vC M n T) (r + 1)))) 0 59 19 (nI (ctR (okA T n) n r) + 1) := ⟨_, rfl⟩
    have N4j : ∀ j, j ≠ 19 → j ≠ 20 → j ≠ 21 → N4.1 0 59 j = N.1 0 59 j := fun j h1 h2 h3 => by
      rw [hN4, gwr_k _ _ _ _ h1, gwr_k _ _ _ _ h3, hN3, gwr_k _ _ _ _ h2, N2o 59 (by omega) (by omega) (by omega)]
    have N4o : ∀ c o, ¬ (c = 0 ∧ o = 59) → N4.1 c o = N2.1 c o := fun c o q => by rw [hN4, gwr_o q, gwr_o q, hN3, gwr_o q]
    have hcl := ctR_le (okA T n) n r
    refine ⟨N4, ?_, by rw [N4j 16 (by decide) (by decide) (by decide)]; exact f16, fun i hi => by rw [N4o 0 65 (by omega), N2o 65 (by omega) (by omega) (by omega)]; exact f65 i hi, ?_, ?_, ?_, fun s hs hos hts g hg => ?_, fun s hs hvs g hg => ?_, fun j h1 h2 h3 h4 => by rw [N4j j h2 h3 h4]; exact f59 j h1 h2 h3 h4, ?_⟩
    · rw [if_neg (show ¬ b2i true = 0 by decide), bindS wr, bindS cr, bindS c1]
      unfold j_X11_findRows_33_155
      dsimp only
      rw [d20, kW xW bW (fun t => j_X11_findRows_33_163 (nI (fac n)) N2 (nI r) (iI (-(vC M n T r))) t), ← sW]
      unfold j_X11_findRows_33_163
      have e21 : (gwr N2 0 59 20 (lW (fd mn BIG (vW M n T) (r + 1)))).1 0 59 21 = lC (fd mn BIG (vC M n T) r) := by rw [gwr_k _ _ _ _ (by decide)]; exact d21
      rw [e21, kC yC bC (fun t => j_X11_findRows_33_185 (nI (fac n)) (gwr N2 0 59 20 (lW (fd mn BIG (vW M n T) (r + 1)))) (nI r) t), ← sC]
      unfold j_X11_findRows_33_185 j_X11_findRows_33_198
      rw [← hN3, nI_1]
      have e19 : (gwr N3 0 59 21 (lC (fd mn BIG (vC M n T) (r + 1)))).1 0 59 19 = nI (ctR (okA T n) n r) := by rw [gwr_k _ _ _ _ (by decide), hN3, gwr_k _ _ _ _ (by decide)]; exact d19
      rw [e19, ← hN4]
    · rw [hN4, gwr_j, ctR_s, ho, nI_1]; rfl
    · rw [hN4, gwr_k _ _ _ _ (by decide), gwr_k _ _ _ _ (by decide), hN3, gwr_j]
    · rw [hN4, gwr_k _ _ _ _ (by decide), gwr_j]
    · rw [N4o 0 67 (by omega), (c2 g hg).1, N1o 59 (by omega), f19]
      by_cases e : s = r
      · subst e
        rw [ctR_1 hts, if_pos (show nI 0 = 0 from rfl)]
        exact (h66 g hg).1
      · have hc0 : ctR (okA T n) n r ≠ 0 := fun q => by
          have := ctR_0 q s (by omega)
          rw [hos] at this; cases this
        rw [if_neg (nI_ne0 (by omega) (by omega)), N1o 67 (by omega)]
        exact f67 s (by omega) hos hts g hg
    · rw [N4o 0 68 (by omega), (c2 g hg).2, N1o 59 (by omega), f21]
      by_cases e : vC M n T r < fd mn BIG (vC M n T) r
      · rw [if_neg (fun q => (kCl yC bC).mp q e), am_new hs e]
        exact (h66 g hg).1
      · rw [if_pos ((kCl yC bC).mpr e), N1o 68 (by omega)]
        exact f68 s (am_back hs hvs (by rw [sC, mn_e, if_neg e])) hvs g hg
    · refine (ff.tr ((n2.mono (fun c o q => ⟨q.1, by omega⟩)).tr (c3.mono (fun c o q => ⟨q.1, by omega⟩)))).tr ?_
      rw [hN4, hN3]
      exact ((fr.rf.wr ⟨rfl, by omega⟩).wr ⟨rfl, by omega⟩).wr ⟨rfl, by omega⟩
theorem M_find (hM : HM M n T) (hW : WFT n T) : ∃ N, x_X11_findRows M = some N ∧ FR M n T (fac n) N := by
  have hn := hW.1
  have hfb := fac_b n (by omega)
  have p2 : 0 < 2 ^ n := Nat.two_pow_pos n
  obtain ⟨_, _, b3, b4⟩ := bf_full n (by omega)
  have ev : x_X11_everybody M = some (nI (2 ^ n - 1)) := by unfold x_X11_everybody; rw [hM.1, b3]
  obtain ⟨K, k1, k2, k3, k4, k5⟩ := M_tk M (a := 2 ^ n - 1) (by omega)
  have hb : ∀ j, j < n → (127 - (2 ^ n - 1)).testBit j = (0 : Nat).testBit j := by
    have : ∀ n, n < 8 → ∀ j, j < n → (127 - (2 ^ n - 1)).testBit j = (0 : Nat).testBit j := by decide +kernel
    exact this n (by omega)
  have ec : fc (127 - (2 ^ n - 1)) n = n := by rw [fc_cg n hb]; exact fc0 n
  have e7 : fc (127 - (2 ^ n - 1)) 7 = n := by rw [← bf_cn n (by omega) (2 ^ n - 1) (by omega)]; exact ec
  rw [e7] at k2 k3
  have k65 : ∀ i, i < n → K.1 0 65 i = nI i := fun i hi => by rw [k3 i hi, nx_up hn (by rw [ec]; exact hi), nx_cg hb, nx0 hi]
  obtain ⟨L0, hL0⟩ : ∃ L0, L0 = gwr (gwr (gwr K 0 59 19 0) 0 59 20 (-1)) 0 59 21 (-1) := ⟨_, rfl⟩
  have L16 : L0.1 0 59 16 = nI n := by rw [hL0, gwr_k _ _ _ _ (by decide), gwr_k _ _ _ _ (by decide), gwr_k _ _ _ _ (by decide)]; exact k2
  have F0 : FR M n T 0 L0 := by
    refine ⟨L16, fun i hi => ?_, ?_, ?_, ?_, fun s hs => absurd hs (Nat.not_lt_zero s), fun s hs => absurd hs.1 (Nat.not_lt_zero s), fun j h1 h2 h3 h4 => ?_, ?_⟩
    · rw [hL0, gwr_o (by omega), gwr_o (by omega), gwr_o (by omega)]; exact k65 i hi
    · rw [hL0, gwr_k _ _ _ _ (by decide), gwr_k _ _ _ _ (by decide), gwr_j]; rfl
    · rw [hL0, gwr_k _ _ _ _ (by decide), gwr_j]; rfl
    · rw [hL0, gwr_j]; rfl
    · rw [hL0, gwr_k _ _ _ _ h4, gwr_k _ _ _ _ h3, gwr_k _ _ _ _ h2]; exact k4 j h1
    · rw [hL0]
      exact (((k5.mono (fun c o q => ⟨q.1, by omega⟩)).wr ⟨rfl, by omega⟩).wr ⟨rfl, by omega⟩).wr ⟨rfl, by omega⟩
  obtain ⟨⟨z, N⟩, hr, q1⟩ := itr_inv (step := fun s => s_X11_findRows_33 (nI (fac n)) s.1 s.2) (s := (0, L0)) (fun r s => r ≤ fac n ∧ s.1 = nI r ∧ FR M n T r s.2) (fun r => FR M n T (fac n) r.2) (fac n) (by omega) ⟨Nat.zero_le _, rfl, F0⟩ (by
    rintro r ⟨x, N⟩ ⟨h1, rfl, h2⟩
    dsimp only at *
    by_cases e : r = fac n
    · subst e
      refine Or.inl ⟨(nI (fac n), N), ?_, h2⟩
      unfold s_X11_findRows_33
      rw [if_pos (by rw [nI_leI (by omega) (by omega)]; omega)]
    · obtain ⟨N', w1, w2⟩ := FRS hM hW (show r < fac n by omega) h2
      exact Or.inr ⟨by omega, _, w1, by omega, rfl, w2⟩)
  refine ⟨N, ?_, q1⟩
  unfold x_X11_findRows
  refine (bindS ev).trans ((bindS k1).trans ?_)
  rw [← hL0, L16]
  exact (bindS (M_fac (by omega))).trans ((bindS hr).trans rfl)
end RW9
