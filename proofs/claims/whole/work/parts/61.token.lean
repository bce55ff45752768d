/-! tokens -/
section RD1
/-- how long the run of bytes lo .. hi is that begins at s, of the n bytes that are left -/
def rl (b : Nat → Nat) (lo hi s n : Nat) : Nat := ff (fun k => !(decide (lo ≤ b (s + k)) && decide (b (s + k) ≤ hi))) n
theorem rl_spec (b : Nat → Nat) (lo hi s n : Nat) : rl b lo hi s n ≤ n ∧ (∀ k, k < rl b lo hi s n → lo ≤ b (s + k) ∧ b (s + k) ≤ hi) ∧ (rl b lo hi s n < n → b (s + rl b lo hi s n) < lo ∨ hi < b (s + rl b lo hi s n)) := by
  obtain ⟨h1, h2, h3⟩ := ff_spec (fun k => !(decide (lo ≤ b (s + k)) && decide (b (s + k) ≤ hi))) n
  refine ⟨h1, fun k hk => ?_, fun h => ?_⟩
  · have := h2 k hk
    simp at this
    exact this
  · have := h3 h
    simp only [Bool.not_eq_true', Bool.and_eq_false_iff, decide_eq_false_iff_not] at this
    show b (s + rl b lo hi s n) < lo ∨ hi < b (s + rl b lo hi s n)
    unfold rl
    omega
def dgv (b : Nat → Nat) (p : Nat) : Nat → Nat
  | 0 => 0
  | k + 1 => 10 * dgv b p k + b (p + k) - 48
def tp (b : Nat → Nat) (t e : Nat) : Nat := e + rl b 32 32 e (t - e)
def tl (b : Nat → Nat) (t p : Nat) : Nat := p + rl b 97 122 p (t - p)
def td (b : Nat → Nat) (t p : Nat) : Nat := p + rl b 48 57 p (t - p)
def tk (b : Nat → Nat) (t p : Nat) : Nat := if p < tl b t p then 1 else if p < td b t p then (if td b t p - p ≤ 2 then 2 else 5) else if t ≤ p then 0 else if b p = 59 then 3 else 4
def te (b : Nat → Nat) (t p : Nat) : Nat := if p < tl b t p then tl b t p else if p < td b t p then td b t p else if t ≤ p then t else p + 1
def tv (b : Nat → Nat) (t p : Nat) : Nat := dgv b p (td b t p - p)
def scl (k : Nat) : Int32 := if k = 5 then 2 else nI k
def srf (k : Nat) : Int32 := if k = 0 then 3 else if k = 3 then 4 else if k = 4 then 0 else if k = 5 then 0 else nI k
theorem tp_b {b : Nat → Nat} {t e : Nat} (h : e ≤ t) : e ≤ tp b t e ∧ tp b t e ≤ t := by
  have := (rl_spec b 32 32 e (t - e)).1
  unfold tp; omega
theorem tl_b {b : Nat → Nat} {t p : Nat} (h : p ≤ t) : p ≤ tl b t p ∧ tl b t p ≤ t := by
  have := (rl_spec b 97 122 p (t - p)).1
  unfold tl; omega
theorem td_b {b : Nat → Nat} {t p : Nat} (h : p ≤ t) : p ≤ td b t p ∧ td b t p ≤ t := by
  have := (rl_spec b 48 57 p (t - p)).1
  unfold td; omega
theorem te_b {b : Nat → Nat} {t p : Nat} (h : p ≤ t) : p ≤ te b t p ∧ te b t p ≤ t ∧ (tk b t p ≠ 0 → p < te b t p) ∧ (tk b t p = 0 → p = t) := by
  have h1 := tl_b (b := b) h
  have h2 := td_b (b := b) h
  unfold te tk
  by_cases e1 : p < tl b t p
  · rw [if_pos e1, if_pos e1]; omega
  · rw [if_neg e1, if_neg e1]
    by_cases e2 : p < td b t p
    · rw [if_pos e2, if_pos e2]
      refine ⟨by omega, by omega, fun _ => e2, fun q => ?_⟩
      split at q <;> cases q
    · rw [if_neg e2, if_neg e2]
      by_cases e3 : t ≤ p
      · rw [if_pos e3, if_pos e3]; omega
      · rw [if_neg e3, if_neg e3]
        refine ⟨by omega, by omega, fun _ => by omega, fun q => ?_⟩
        split at q <;> cases q
theorem dgv_b {b : Nat → Nat} {p : Nat} (h : ∀ k, k < 2 → b (p + k) ≤ 57) : dgv b p 1 ≤ 9 ∧ dgv b p 2 ≤ 99 := by
  have h0 := h 0 (by omega)
  have h1 := h 1 (by omega)
  show 10 * 0 + b (p + 0) - 48 ≤ 9 ∧ 10 * (10 * 0 + b (p + 0) - 48) + b (p + 1) - 48 ≤ 99
  omega
theorem tv_b {b : Nat → Nat} {t p : Nat} (h : tk b t p = 2) : tv b t p < 100 := by
  unfold tk at h
  by_cases e1 : p < tl b t p
  · rw [if_pos e1] at h; cases h
  · rw [if_neg e1] at h
    by_cases e2 : p < td b t p
    · rw [if_pos e2] at h
      by_cases e3 : td b t p - p ≤ 2
      · have hs := (rl_spec b 48 57 p (t - p)).2.1
        have hd : td b t p = p + rl b 48 57 p (t - p) := rfl
        unfold tv
        rcases (show td b t p - p = 1 ∨ td b t p - p = 2 by omega) with q | q
        · rw [q]
          have h0 := hs 0 (by omega)
          show 10 * 0 + b (p + 0) - 48 < 100
          omega
        · rw [q]
          have h0 := hs 0 (by omega)
          have h1 := hs 1 (by omega)
          show 10 * (10 * 0 + b (p + 0) - 48) + b (p + 1) - 48 < 100
          omega
      · rw [if_neg e3] at h; cases h
    · rw [if_neg e2] at h
      split at h
      · cases h
      · split at h <;> cases h
abbrev P36 (c o : Nat) : Prop := c = 0 ∧ o = 36
abbrev P59 (c o : Nat) : Prop := c = 0 ∧ o = 59
def TXA (M : gMem) (t : Nat) (b : Nat → Nat) : Prop := t ≤ 150 ∧ M.1 0 36 1 = nI t ∧ ∀ k, k < t → M.1 0 37 k = nI (b k) ∧ b k < 128
variable {M : gMem} {t : Nat} {b : Nat → Nat}
theorem TXA.fr {N : gMem} (h : TXA M t b) (f : fr P36 M N) (h1 : N.1 0 36 1 = M.1 0 36 1) : TXA N t b := by
  refine ⟨h.1, h1.trans h.2.1, ?_⟩
  rw [f.2 0 37 (by omega)]
  exact h.2.2
theorem C_eor (h : TXA M t b) {s lo hi : Nat} (hs : s ≤ t) (hl : lo < 128) (hh : hi < 128) : x_X9_endOfRun M (nI s) (nI lo) (nI hi) = some (nI (s + rl b lo hi s (t - s))) := by
  obtain ⟨ht, h1, h2⟩ := h
  obtain ⟨r1, r2, r3⟩ := rl_spec b lo hi s (t - s)
  unfold x_X9_endOfRun
  refine (bindS (itr_tr (fun i => nI (s + i)) (rl b lo hi s (t - s)) (nI (s + rl b lo hi s (t - s))) rfl (by omega) (fun i hi' => ?_) ?_)).trans rfl
  · obtain ⟨e1, e2⟩ := h2 (s + i) (by omega)
    have e3 := r2 i hi'
    show s_X9_endOfRun_3 M (nI lo) (nI hi) (nI (s + i)) = _
    unfold s_X9_endOfRun_3
    have g1 : gin (nI (s + i)) 150 := gin_n (by omega) (by omega)
    have c1 : (nI (s + i)).toNatClampNeg = s + i := nI_clamp (by omega)
    rw [h1, if_neg (by rw [nI_leI (by omega) (by omega)]; omega)]
    simp only [gd_i g1, c1, e1]
    rw [if_neg (by rw [nI_ltI (by omega) (by omega)]; omega), if_neg (by rw [nI_ltI (by omega) (by omega)]; omega), nI_1]
    rfl
  · show s_X9_endOfRun_3 M (nI lo) (nI hi) (nI (s + rl b lo hi s (t - s))) = _
    unfold s_X9_endOfRun_3
    by_cases e : rl b lo hi s (t - s) < t - s
    · obtain ⟨e1, e2⟩ := h2 (s + rl b lo hi s (t - s)) (by omega)
      have g1 : gin (nI (s + rl b lo hi s (t - s))) 150 := gin_n (by omega) (by omega)
      have c1 : (nI (s + rl b lo hi s (t - s))).toNatClampNeg = s + rl b lo hi s (t - s) := nI_clamp (by omega)
      rw [h1, if_neg (by rw [nI_leI (by omega) (by omega)]; omega)]
      simp only [gd_i g1, c1, e1]
      rcases r3 e with q | q
      · rw [if_pos (by rw [nI_ltI (by omega) (by omega)]; omega)]
      · by_cases q2 : b (s + rl b lo hi s (t - s)) < lo
        · rw [if_pos (by rw [nI_ltI (by omega) (by omega)]; omega)]
        · rw [if_neg (by rw [nI_ltI (by omega) (by omega)]; omega), if_pos (by rw [nI_ltI (by omega) (by omega)]; omega)]
    · rw [h1, if_pos (by rw [nI_leI (by omega) (by omega)]; omega)]
theorem C_num (h : TXA M t b) {p d : Nat} (hp : M.1 0 36 2 = nI p) (hd : M.1 0 36 3 = nI d) (hpd : p ≤ d) (hdt : d ≤ t) (hd2 : d - p ≤ 2) (hb : ∀ k, k < d - p → 48 ≤ b (p + k) ∧ b (p + k) ≤ 57) : x_X9_numberHere M = some (nI (dgv b p (d - p))) := by
  obtain ⟨ht, h1, h2⟩ := h
  unfold x_X9_numberHere
  rw [hp]
  refine (bindS (itr_tr (fun i => (nI (dgv b p i), nI (p + i))) (d - p) (nI (dgv b p (d - p)), nI d) rfl (by omega) (fun i hi => ?_) ?_)).trans rfl
  · dsimp only
    obtain ⟨e1, e2⟩ := h2 (p + i) (by omega)
    have e3 := hb i hi
    unfold s_X9_numberHere_7
    rw [hd, if_neg (by rw [nI_leI (by omega) (by omega)]; omega), gd_i (gin_n (by omega) (by omega)), nI_clamp (by omega), e1, show (10 : Int32) = nI 10 from rfl, pk_mul, nI_add, show (48 : Int32) = nI 48 from rfl, pk_sub (by omega), nI_1]
    rfl
  · dsimp only
    unfold s_X9_numberHere_7
    rw [hd, show p + (d - p) = d by omega, if_pos (by rw [nI_leI (by omega) (by omega)]; omega)]
theorem C_step (h : TXA M t b) {e : Nat} (he : M.1 0 36 3 = nI e) (het : e ≤ t) : ∃ N, x_X9_step M = some N ∧ N.1 0 36 2 = nI (tp b t e) ∧ N.1 0 36 3 = nI (te b t (tp b t e)) ∧ N.1 0 36 4 = scl (tk b t (tp b t e)) ∧ (tk b t (tp b t e) = 2 → N.1 0 36 5 = nI (tv b t (tp b t e))) ∧ (tk b t (tp b t e) = 5 → N.1 0 36 5 = -1) ∧ TXA N t b ∧ fr P36 M N := by
  have ht := h.1
  have hpb := tp_b (b := b) het
  have hee : x_X9_endOfRun M (M.1 0 36 3) 32 32 = some (nI (tp b t e)) := by
    rw [he]; exact C_eor h het (lo := 32) (hi := 32) (by omega) (by omega)
  generalize tp b t e = p at *
  have hlb := tl_b (b := b) hpb.2
  have hdb := td_b (b := b) hpb.2
  obtain ⟨K1, hK1⟩ : ∃ K1, K1 = gwr M 0 36 2 (nI p) := ⟨_, rfl⟩
  have f1 : fr P36 M K1 := by rw [hK1]; exact fr.rf.wr ⟨rfl, rfl⟩
  have K1k : ∀ j, j ≠ 2 → K1.1 0 36 j = M.1 0 36 j := fun j hj => by rw [hK1, gwr_k _ _ _ _ hj]
  have K12 : K1.1 0 36 2 = nI p := by rw [hK1, gwr_j]
  have x1 : TXA K1 t b := h.fr f1 (K1k 1 (by decide))
  have el : x_X9_endOfRun K1 (nI p) 97 122 = some (nI (tl b t p)) := C_eor x1 hpb.2 (lo := 97) (hi := 122) (by omega) (by omega)
  obtain ⟨K2, hK2⟩ : ∃ K2, K2 = gwr K1 0 36 3 (nI (tl b t p)) := ⟨_, rfl⟩
  have f2 : fr P36 M K2 := by rw [hK2]; exact f1.wr ⟨rfl, rfl⟩
  have K2k : ∀ j, j ≠ 2 → j ≠ 3 → K2.1 0 36 j = M.1 0 36 j := fun j h1 h2 => by rw [hK2, gwr_k _ _ _ _ h2, K1k j h1]
  have K22 : K2.1 0 36 2 = nI p := by rw [hK2, gwr_k _ _ _ _ (by decide), K12]
  have K23 : K2.1 0 36 3 = nI (tl b t p) := by rw [hK2, gwr_j]
  have x2 : TXA K2 t b := h.fr f2 (K2k 1 (by decide) (by decide))
  unfold x_X9_step
  rw [bindS hee]
  rw [← hK1, K12, bindS el, ← hK2, K22, K23]
  unfold tk te
  by_cases e1 : p < tl b t p
  · rw [if_neg (by rw [nI_leI (by omega) (by omega)]; omega), if_pos e1, if_pos e1]
    refine ⟨_, rfl, ?_, ?_, ?_, fun q => (by cases q), fun q => (by cases q), h.fr (f2.wr ⟨rfl, rfl⟩) ?_, f2.wr ⟨rfl, rfl⟩⟩
    · rw [gwr_k _ _ _ _ (by decide), K22]
    · rw [gwr_k _ _ _ _ (by decide), K23]
    · rw [gwr_j]; rfl
    · rw [gwr_k _ _ _ _ (by decide), K2k 1 (by decide) (by decide)]
  · rw [if_pos (by rw [nI_leI (by omega) (by omega)]; omega), if_neg e1, if_neg e1]
    have ed : x_X9_endOfRun K2 (nI p) 48 57 = some (nI (td b t p)) := C_eor x2 hpb.2 (lo := 48) (hi := 57) (by omega) (by omega)
    obtain ⟨K3, hK3⟩ : ∃ K3, K3 = gwr K2 0 36 3 (nI (td b t p)) := ⟨_, rfl⟩
    have f3 : fr P36 M K3 := by rw [hK3]; exact f2.wr ⟨rfl, rfl⟩
    have K3k : ∀ j, j ≠ 2 → j ≠ 3 → K3.1 0 36 j = M.1 0 36 j := fun j h1 h2 => by rw [hK3, gwr_k _ _ _ _ h2, K2k j h1 h2]
    have K32 : K3.1 0 36 2 = nI p := by rw [hK3, gwr_k _ _ _ _ (by decide), K22]
    have K33 : K3.1 0 36 3 = nI (td b t p) := by rw [hK3, gwr_j]
    have x3 : TXA K3 t b := h.fr f3 (K3k 1 (by decide) (by decide))
    rw [bindS ed, ← hK3, K32, K33]
    by_cases e2 : p < td b t p
    · rw [if_neg (by rw [nI_leI (by omega) (by omega)]; omega), if_pos e2, if_pos e2]
      obtain ⟨K4, hK4⟩ : ∃ K4, K4 = gwr K3 0 36 4 2 := ⟨_, rfl⟩
      have f4 : fr P36 M K4 := by rw [hK4]; exact f3.wr ⟨rfl, rfl⟩
      have K42 : K4.1 0 36 2 = nI p := by rw [hK4, gwr_k _ _ _ _ (by decide), K32]
      have K43 : K4.1 0 36 3 = nI (td b t p) := by rw [hK4, gwr_k _ _ _ _ (by decide), K33]
      have K44 : K4.1 0 36 4 = 2 := by rw [hK4, gwr_j]
      have K41 : K4.1 0 36 1 = M.1 0 36 1 := by rw [hK4, gwr_k _ _ _ _ (by decide), K3k 1 (by decide) (by decide)]
      have x4 : TXA K4 t b := h.fr f4 K41
      rw [← hK4, K42, K43, pk_sub (by omega)]
      unfold j_X9_step_103
      by_cases e3 : td b t p - p ≤ 2
      · have le2 : nI (td b t p - p) ≤ 2 := show nI (td b t p - p) ≤ nI 2 from by rw [nI_leI (by omega) (by omega)]; omega
        have hnum := C_num x4 K42 K43 (by omega) hdb.2 e3 (fun k hk => (rl_spec b 48 57 p (t - p)).2.1 k (by unfold td at hk; omega))
        rw [if_pos le2, if_pos e3, bindS hnum]
        refine ⟨_, rfl, ?_, ?_, ?_, fun _ => gwr_j _ _ _ _ _, fun q => (by cases q), h.fr (f4.wr ⟨rfl, rfl⟩) ?_, f4.wr ⟨rfl, rfl⟩⟩
        · rw [gwr_k _ _ _ _ (by decide), K42]
        · rw [gwr_k _ _ _ _ (by decide), K43]
        · rw [gwr_k _ _ _ _ (by decide), K44]; rfl
        · rw [gwr_k _ _ _ _ (by decide), K41]
      · have le2 : ¬ nI (td b t p - p) ≤ 2 := show ¬ nI (td b t p - p) ≤ nI 2 from by rw [nI_leI (by omega) (by omega)]; omega
        rw [if_neg le2, if_neg e3]
        refine ⟨_, rfl, ?_, ?_, ?_, fun q => (by cases q), fun _ => gwr_j _ _ _ _ _, h.fr (f4.wr ⟨rfl, rfl⟩) ?_, f4.wr ⟨rfl, rfl⟩⟩
        · rw [gwr_k _ _ _ _ (by decide), K42]
        · rw [gwr_k _ _ _ _ (by decide), K43]
        · rw [gwr_k _ _ _ _ (by decide), K44]; rfl
        · rw [gwr_k _ _ _ _ (by decide), K41]
    · rw [if_pos (by rw [nI_leI (by omega) (by omega)]; omega), if_neg e2, if_neg e2]
      have K31 : K3.1 0 36 1 = nI t := by rw [K3k 1 (by decide) (by decide)]; exact h.2.1
      have fin : ∀ s, x_X9_signHere K3 = some s → (Option.bind (x_X9_signHere K3) fun v9 => some (gwr (gwr K3 0 36 4 v9) 0 36 3 (if (gwr K3 0 36 4 v9).1 0 36 1 < (gwr K3 0 36 4 v9).1 0 36 2 + 1 then (gwr K3 0 36 4 v9).1 0 36 1 else (gwr K3 0 36 4 v9).1 0 36 2 + 1))) = some (gwr (gwr K3 0 36 4 s) 0 36 3 (nI (if t ≤ p then t else p + 1))) := by
        intro s hs
        rw [bindS hs, gwr_k _ _ _ _ (by decide), gwr_k _ _ _ _ (by decide), K31, K32, nI_1]
        by_cases q : t ≤ p
        · rw [if_pos q, if_pos (by rw [nI_ltI (by omega) (by omega)]; omega)]
        · rw [if_neg q, if_neg (by rw [nI_ltI (by omega) (by omega)]; omega)]
      have done : ∀ s, x_X9_signHere K3 = some s → s = scl (if t ≤ p then 0 else if b p = 59 then 3 else 4) → ∃ N, (Option.bind (x_X9_signHere K3) fun v9 => some (gwr (gwr K3 0 36 4 v9) 0 36 3 (if (gwr K3 0 36 4 v9).1 0 36 1 < (gwr K3 0 36 4 v9).1 0 36 2 + 1 then (gwr K3 0 36 4 v9).1 0 36 1 else (gwr K3 0 36 4 v9).1 0 36 2 + 1))) = some N ∧ N.1 0 36 2 = nI p ∧ N.1 0 36 3 = nI (if t ≤ p then t else p + 1) ∧ N.1 0 36 4 = scl (if t ≤ p then 0 else if b p = 59 then 3 else 4) ∧ ((if t ≤ p then 0 else if b p = 59 then 3 else 4) = 2 → N.1 0 36 5 = nI (tv b t p)) ∧ ((if t ≤ p then 0 else if b p = 59 then 3 else 4) = 5 → N.1 0 36 5 = -1) ∧ TXA N t b ∧ fr P36 M N := by
        intro s hs hsc
        refine ⟨_, fin s hs, ?_, gwr_j _ _ _ _ _, ?_, fun q => ?_, fun q => ?_, h.fr ((f3.wr ⟨rfl, rfl⟩).wr ⟨rfl, rfl⟩) ?_, (f3.wr ⟨rfl, rfl⟩).wr ⟨rfl, rfl⟩⟩
        · rw [gwr_k _ _ _ _ (by decide), gwr_k _ _ _ _ (by decide), K32]
        · rw [gwr_k _ _ _ _ (by decide), gwr_j]; exact hsc
        · split at q
          · cases q
          · split at q <;> cases q
        · split at q
          · cases q
          · split at q <;> cases q
        · rw [gwr_k _ _ _ _ (by decide), gwr_k _ _ _ _ (by decide), K3k 1 (by decide) (by decide)]
      by_cases e3 : t ≤ p
      · refine done 0 ?_ (by rw [if_pos e3]; rfl)
        unfold x_X9_signHere
        rw [K31, K32, if_neg (by rw [nI_ltI (by omega) (by omega)]; omega)]
      · have hby := x3.2.2 p (by omega)
        by_cases e4 : b p = 59
        · refine done 3 ?_ (by rw [if_neg e3, if_pos e4]; rfl)
          unfold x_X9_signHere
          rw [K31, K32, if_pos (by rw [nI_ltI (by omega) (by omega)]; omega), gd_i (gin_n (by omega) (by omega)), nI_clamp (by omega), hby.1, e4, if_pos (show nI 59 = 59 from rfl)]
        · refine done 4 ?_ (by rw [if_neg e3, if_neg e4]; rfl)
          unfold x_X9_signHere
          have n59 : ¬ nI (b p) = 59 := show ¬ nI (b p) = nI 59 from nI_ne (by omega) (by omega) e4
          rw [K31, K32, if_pos (by rw [nI_ltI (by omega) (by omega)]; omega), gd_i (gin_n (by omega) (by omega)), nI_clamp (by omega), hby.1, if_neg n59]
end RD1
