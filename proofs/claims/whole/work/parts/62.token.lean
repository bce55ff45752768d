section RD2
def TXB (M : gMem) (t : Nat) (b : Nat → Nat) : Prop := t ≤ 150 ∧ M.1 0 59 5 = nI t ∧ ∀ k, k < t → M.1 0 62 k = nI (b k) ∧ b k < 128
variable {M : gMem} {t : Nat} {b : Nat → Nat}
theorem TXB.fr {N : gMem} (h : TXB M t b) (f : fr P59 M N) (h1 : N.1 0 59 5 = M.1 0 59 5) : TXB N t b := by
  refine ⟨h.1, h1.trans h.2.1, ?_⟩
  rw [f.2 0 62 (by omega)]
  exact h.2.2
theorem M_by (h : TXB M t b) {q : Nat} (hq : q ≤ t) : x_X11_byteAt M (nI q) = some (if q < t then nI (b q) else -1) := by
  obtain ⟨ht, h1, h2⟩ := h
  unfold x_X11_byteAt
  by_cases e : q < t
  · rw [h1, if_neg (by rw [nI_leI (by omega) (by omega)]; omega), gd_i (gin_n (by omega) (by omega)), nI_clamp (by omega), (h2 q e).1, if_pos e]
  · rw [h1, if_pos (by rw [nI_leI (by omega) (by omega)]; omega), if_neg e]
theorem M_bin (hb : ∀ k, k < t → b k < 128) {q lo hi : Nat} (hl : lo < 128) (hh : hi < 128) {a c : Int64} (ha : a = (nI lo).toInt64) (hc : c = (nI hi).toInt64) : x_X11_in (Int32.toInt64 (if q < t then nI (b q) else -1)) a c = some (b2i (decide (q < t) && (decide (lo ≤ b q) && decide (b q ≤ hi)))) := by
  rw [in_e _ (nI lo) (nI hi) ha hc]
  by_cases e : q < t
  · have hbq := hb q e
    rw [if_pos e]
    by_cases e1 : b q < lo
    · rw [if_pos (by rw [nI_ltI (by omega) (by omega)]; omega)]
      simp [b2i, e, show ¬ lo ≤ b q by omega]
    · rw [if_neg (by rw [nI_ltI (by omega) (by omega)]; omega)]
      by_cases e2 : hi < b q
      · rw [if_pos (by rw [nI_ltI (by omega) (by omega)]; omega)]
        simp [b2i, show ¬ b q ≤ hi by omega]
      · rw [if_neg (by rw [nI_ltI (by omega) (by omega)]; omega)]
        simp [b2i, e, show lo ≤ b q by omega, show b q ≤ hi by omega]
  · rw [if_neg e, if_pos]
    · simp [b2i, e]
    · rw [i32_lt, nI_toInt (by omega)]
      have : (-1 : Int32).toInt = -1 := rfl
      omega
theorem M_l0 (h : TXB M t b) {e : Nat} (he : M.1 0 59 6 = nI e) (het : e ≤ t) : ∃ N, itr FU (fun s => s_X11_nextToken_0 s) M = some N ∧ N.1 0 59 6 = nI (tp b t e) ∧ (∀ j, j ≠ 6 → N.1 0 59 j = M.1 0 59 j) ∧ fr P59 M N := by
  obtain ⟨r1, r2, r3⟩ := rl_spec b 32 32 e (t - e)
  have ht := h.1
  obtain ⟨N, hr, q⟩ := itr_inv (step := fun s => s_X11_nextToken_0 s) (s := M) (fun i N => i ≤ rl b 32 32 e (t - e) ∧ N.1 0 59 6 = nI (e + i) ∧ (∀ j, j ≠ 6 → N.1 0 59 j = M.1 0 59 j) ∧ fr P59 M N) (fun N => N.1 0 59 6 = nI (tp b t e) ∧ (∀ j, j ≠ 6 → N.1 0 59 j = M.1 0 59 j) ∧ fr P59 M N) (rl b 32 32 e (t - e)) (by omega) ⟨by omega, he, fun _ _ => rfl, fr.rf⟩ (by
    rintro i N ⟨hi, h6, hj, hf⟩
    have hN : TXB N t b := h.fr hf (hj 5 (by decide))
    unfold s_X11_nextToken_0
    rw [h6, bindS (M_by hN (q := e + i) (by omega)), nI_1]
    by_cases ei : i < rl b 32 32 e (t - e)
    · have hb := r2 i ei
      rw [if_pos (show e + i < t by omega), show b (e + i) = 32 by omega, if_pos (show nI 32 = 32 from rfl)]
      exact Or.inr ⟨ei, _, rfl, by omega, gwr_j _ _ _ _ _, fun j hj6 => (gwr_k _ _ _ _ hj6).trans (hj j hj6), hf.wr ⟨rfl, rfl⟩⟩
    · have e2 : i = rl b 32 32 e (t - e) := by omega
      have hne : ¬ (if e + i < t then nI (b (e + i)) else -1) = 32 := by
        by_cases ew : e + i < t
        · rw [if_pos ew]
          have hbl := (hN.2.2 (e + i) ew).2
          have := r3 (by omega)
          rw [← e2] at this
          exact show ¬ nI (b (e + i)) = nI 32 from nI_ne (by omega) (by omega) (by omega)
        · rw [if_neg ew]; decide
      rw [if_neg hne]
      exact Or.inl ⟨N, rfl, by rw [h6, e2]; rfl, hj, hf⟩)
  exact ⟨N, hr, q⟩
theorem M_l1 (h : TXB M t b) {p : Nat} (hp : M.1 0 59 6 = nI p) (hpt : p ≤ t) {t0 : Int32} (h7 : M.1 0 59 7 = t0) (ht0 : p < t → t0 = 0) : ∃ N, itr FU (fun s => s_X11_nextToken_59 s) M = some N ∧ N.1 0 59 6 = nI (tl b t p) ∧ N.1 0 59 7 = (if p < tl b t p then 1 else t0) ∧ (∀ j, j ≠ 6 → j ≠ 7 → N.1 0 59 j = M.1 0 59 j) ∧ fr P59 M N := by
  obtain ⟨r1, r2, r3⟩ := rl_spec b 97 122 p (t - p)
  have ht := h.1
  obtain ⟨N, hr, q⟩ := itr_inv (step := fun s => s_X11_nextToken_59 s) (s := M) (fun i N => i ≤ rl b 97 122 p (t - p) ∧ N.1 0 59 6 = nI (p + i) ∧ N.1 0 59 7 = (if 0 < i then 1 else t0) ∧ (∀ j, j ≠ 6 → j ≠ 7 → N.1 0 59 j = M.1 0 59 j) ∧ fr P59 M N) (fun N => N.1 0 59 6 = nI (tl b t p) ∧ N.1 0 59 7 = (if p < tl b t p then 1 else t0) ∧ (∀ j, j ≠ 6 → j ≠ 7 → N.1 0 59 j = M.1 0 59 j) ∧ fr P59 M N) (rl b 97 122 p (t - p)) (by omega) ⟨by omega, hp, h7, fun _ _ _ => rfl, fr.rf⟩ (by
    rintro i N ⟨hi, h6, h7', hj, hf⟩
    have hN : TXB N t b := h.fr hf (hj 5 (by decide) (by decide))
    unfold s_X11_nextToken_59
    rw [h6, bindS (M_by hN (q := p + i) (by omega)), bindS (M_bin (t := t) (b := b) (fun k hk => (hN.2.2 k hk).2) (q := p + i) (lo := 97) (hi := 122) (a := 97) (c := 122) (by omega) (by omega) (by decide) (by decide))]
    by_cases ei : i < rl b 97 122 p (t - p)
    · have hb := r2 i ei
      have hbb : (decide (p + i < t) && (decide (97 ≤ b (p + i)) && decide (b (p + i) ≤ 122))) = true := by simp [hb.1, hb.2, show p + i < t by omega]
      have n2 : ¬ (2 : Int32) ≤ (if 0 < i then 1 else t0) := by
        rw [ht0 (by omega)]
        split <;> decide
      rw [hbb, if_neg (show ¬ b2i true = 0 by decide), h7', if_neg n2]
      refine Or.inr ⟨ei, _, rfl, by omega, ?_, ?_, fun j h1 h2 => ?_, (hf.wr ⟨rfl, rfl⟩).wr ⟨rfl, rfl⟩⟩
      · rw [gwr_j, gwr_k _ _ _ _ (by decide), h6, nI_1]; rfl
      · rw [gwr_k _ _ _ _ (by decide), gwr_j]; rfl
      · rw [gwr_k _ _ _ _ h1, gwr_k _ _ _ _ h2]; exact hj j h1 h2
    · have e2 : i = rl b 97 122 p (t - p) := by omega
      have hbb : (decide (p + i < t) && (decide (97 ≤ b (p + i)) && decide (b (p + i) ≤ 122))) = false := by
        by_cases ew : p + i < t
        · have := r3 (by omega)
          rw [← e2] at this
          rcases this with z | z
          · simp [show ¬ 97 ≤ b (p + i) by omega]
          · simp [show ¬ b (p + i) ≤ 122 by omega]
        · simp [ew]
      rw [hbb, if_pos (show b2i false = 0 from rfl)]
      refine Or.inl ⟨N, rfl, by rw [h6, e2]; rfl, ?_, hj, hf⟩
      rw [h7', e2]
      unfold tl
      by_cases z : 0 < rl b 97 122 p (t - p)
      · rw [if_pos z, if_pos (by omega)]
      · rw [if_neg z, if_neg (by omega)])
  exact ⟨N, hr, q⟩
theorem M_l2 (h : TXB M t b) {p : Nat} (hp : M.1 0 59 6 = nI p) (hpt : p ≤ t) {t0 : Int32} (h7 : M.1 0 59 7 = t0) (ht0 : p < t → t0 = 0) (h8 : M.1 0 59 8 = 0) : ∃ N, itr FU (fun s => s_X11_nextToken_106 s) M = some N ∧ N.1 0 59 6 = nI (td b t p) ∧ N.1 0 59 7 = (if p < td b t p then 2 else t0) ∧ (td b t p - p ≤ 2 → N.1 0 59 8 = nI (dgv b p (td b t p - p))) ∧ (∀ j, j ≠ 6 → j ≠ 7 → j ≠ 8 → N.1 0 59 j = M.1 0 59 j) ∧ fr P59 M N := by
  obtain ⟨r1, r2, r3⟩ := rl_spec b 48 57 p (t - p)
  have ht := h.1
  obtain ⟨N, hr, q⟩ := itr_inv (step := fun s => s_X11_nextToken_106 s) (s := M) (fun i N => i ≤ rl b 48 57 p (t - p) ∧ N.1 0 59 6 = nI (p + i) ∧ N.1 0 59 7 = (if 0 < i then 2 else t0) ∧ (i ≤ 2 → N.1 0 59 8 = nI (dgv b p i)) ∧ (∀ j, j ≠ 6 → j ≠ 7 → j ≠ 8 → N.1 0 59 j = M.1 0 59 j) ∧ fr P59 M N) (fun N => N.1 0 59 6 = nI (td b t p) ∧ N.1 0 59 7 = (if p < td b t p then 2 else t0) ∧ (td b t p - p ≤ 2 → N.1 0 59 8 = nI (dgv b p (td b t p - p))) ∧ (∀ j, j ≠ 6 → j ≠ 7 → j ≠ 8 → N.1 0 59 j = M.1 0 59 j) ∧ fr P59 M N) (rl b 48 57 p (t - p)) (by omega) ⟨by omega, hp, h7, fun _ => h8, fun _ _ _ _ => rfl, fr.rf⟩ (by
    rintro i N ⟨hi, h6, h7', h8', hj, hf⟩
    have hN : TXB N t b := h.fr hf (hj 5 (by decide) (by decide) (by decide))
    unfold s_X11_nextToken_106
    rw [h6, bindS (M_by hN (q := p + i) (by omega)), bindS (M_bin (t := t) (b := b) (fun k hk => (hN.2.2 k hk).2) (q := p + i) (lo := 48) (hi := 57) (a := 48) (c := 57) (by omega) (by omega) (by decide) (by decide))]
    by_cases ei : i < rl b 48 57 p (t - p)
    · have hb := r2 i ei
      have hbb : (decide (p + i < t) && (decide (48 ≤ b (p + i)) && decide (b (p + i) ≤ 57))) = true := by simp [hb.1, hb.2, show p + i < t by omega]
      have n2 : ¬ (if 0 < i then 2 else t0) = 1 := by
        rw [ht0 (by omega)]
        split <;> decide
      rw [hbb, if_neg (show ¬ b2i true = 0 by decide), h7', if_neg n2]
      refine Or.inr ⟨ei, ?_⟩
      obtain ⟨K, hK⟩ : ∃ K, K = gwr N 0 59 7 2 := ⟨_, rfl⟩
      have K6 : K.1 0 59 6 = nI (p + i) := by rw [hK, gwr_k _ _ _ _ (by decide), h6]
      have K8 : K.1 0 59 8 = N.1 0 59 8 := by rw [hK, gwr_k _ _ _ _ (by decide)]
      have K62 : K.1 0 62 (p + i) = nI (b (p + i)) := by rw [hK, gwr_o (by omega)]; exact (hN.2.2 (p + i) (by omega)).1
      have fin : ∀ v, (i + 1 ≤ 2 → v = nI (dgv b p (i + 1))) → ∃ s', j_X11_nextToken_106_177 K v = some (.inl s') ∧ i + 1 ≤ rl b 48 57 p (t - p) ∧ s'.1 0 59 6 = nI (p + (i + 1)) ∧ s'.1 0 59 7 = (if 0 < i + 1 then 2 else t0) ∧ (i + 1 ≤ 2 → s'.1 0 59 8 = nI (dgv b p (i + 1))) ∧ (∀ j, j ≠ 6 → j ≠ 7 → j ≠ 8 → s'.1 0 59 j = M.1 0 59 j) ∧ fr P59 M s' := by
        intro v hv
        unfold j_X11_nextToken_106_177
        refine ⟨_, rfl, by omega, ?_, ?_, fun q => ?_, fun j h1 h2 h3 => ?_, ?_⟩
        · rw [gwr_j, gwr_k _ _ _ _ (by decide), K6, nI_1]; rfl
        · rw [gwr_k _ _ _ _ (by decide), gwr_k _ _ _ _ (by decide), hK, gwr_j]; rfl
        · rw [gwr_k _ _ _ _ (by decide), gwr_j]; exact hv q
        · rw [gwr_k _ _ _ _ h1, gwr_k _ _ _ _ h3, hK, gwr_k _ _ _ _ h2]; exact hj j h1 h2 h3
        · rw [hK]; exact ((hf.wr ⟨rfl, rfl⟩).wr ⟨rfl, rfl⟩).wr ⟨rfl, rfl⟩
      rw [← hK, K6, gd_i (gin_n (by omega) (by omega)), nI_clamp (by omega), K62, K8]
      by_cases e2 : i ≤ 1
      · have hd9 : dgv b p i ≤ 9 := by
          rcases (show i = 0 ∨ i = 1 by omega) with rfl | rfl
          · exact Nat.zero_le _
          · have h0 := r2 0 (by omega)
            show 10 * 0 + b (p + 0) - 48 ≤ 9
            omega
        rw [h8' (by omega)]
        have le99 : nI (dgv b p i) ≤ 99 := show nI (dgv b p i) ≤ nI 99 from by rw [nI_leI (by omega) (by omega)]; omega
        rw [if_pos le99]
        refine fin _ (fun _ => ?_)
        rw [show (10 : Int32) = nI 10 from rfl, pk_mul, nI_add, show (48 : Int32) = nI 48 from rfl, pk_sub (by omega)]
        rfl
      · by_cases e3 : N.1 0 59 8 ≤ 99
        · rw [if_pos e3]; exact fin _ (fun q => by omega)
        · rw [if_neg e3]; exact fin _ (fun q => by omega)
    · have e2 : i = rl b 48 57 p (t - p) := by omega
      have hbb : (decide (p + i < t) && (decide (48 ≤ b (p + i)) && decide (b (p + i) ≤ 57))) = false := by
        by_cases ew : p + i < t
        · have := r3 (by omega)
          rw [← e2] at this
          rcases this with z | z
          · simp [show ¬ 48 ≤ b (p + i) by omega]
          · simp [show ¬ b (p + i) ≤ 57 by omega]
        · simp [ew]
      rw [hbb, if_pos (show b2i false = 0 from rfl)]
      have etd : td b t p - p = i := by unfold td; omega
      refine Or.inl ⟨N, rfl, by rw [h6, e2]; rfl, ?_, fun q => by rw [etd] at q ⊢; exact h8' q, hj, hf⟩
      rw [h7', e2]
      unfold td
      by_cases z : 0 < rl b 48 57 p (t - p)
      · rw [if_pos z, if_pos (by omega)]
      · rw [if_neg z, if_neg (by omega)])
  exact ⟨N, hr, q⟩
theorem M_l2w {q : Nat} (h : TXB M t b) (hq : M.1 0 59 6 = nI q) (hqt : q ≤ t) (h7 : M.1 0 59 7 = 1) : itr FU (fun s => s_X11_nextToken_106 s) M = some M := by
  refine itr_tr (fun _ => M) 0 M rfl (by omega) (fun i hi => absurd hi (Nat.not_lt_zero i)) ?_
  show s_X11_nextToken_106 M = _
  unfold s_X11_nextToken_106
  rw [hq, bindS (M_by h hqt), bindS (M_bin (t := t) (b := b) (fun k hk => (h.2.2 k hk).2) (q := q) (lo := 48) (hi := 57) (a := 48) (c := 57) (by omega) (by omega) (by decide) (by decide))]
  cases (decide (q < t) && (decide (48 ≤ b q) && decide (b q ≤ 57)))
  · rw [if_pos (show b2i false = 0 from rfl)]
  · rw [if_neg (show ¬ b2i true = 0 by decide), h7, if_pos rfl]
theorem M_tok (h : TXB M t b) {e : Nat} (he : M.1 0 59 6 = nI e) (het : e ≤ t) : ∃ N, x_X11_nextToken M = some N ∧ N.1 0 59 9 = nI (tp b t e) ∧ N.1 0 59 6 = nI (te b t (tp b t e)) ∧ N.1 0 59 7 = srf (tk b t (tp b t e)) ∧ (tk b t (tp b t e) = 2 → N.1 0 59 8 = nI (tv b t (tp b t e))) ∧ TXB N t b ∧ (∀ j, j ≠ 6 → j ≠ 7 → j ≠ 8 → j ≠ 9 → N.1 0 59 j = M.1 0 59 j) ∧ fr P59 M N := by
  have ht := h.1
  have hpb := tp_b (b := b) het
  obtain ⟨N0, n1, n2, n3, n4⟩ := M_l0 h he het
  generalize tp b t e = p at *
  have hlb := tl_b (b := b) hpb.2
  have hdb := td_b (b := b) hpb.2
  obtain ⟨K, hK⟩ : ∃ K, K = gwr (gwr N0 0 59 9 (nI p)) 0 59 8 0 := ⟨_, rfl⟩
  have K6 : K.1 0 59 6 = nI p := by rw [hK, gwr_k _ _ _ _ (by decide), gwr_k _ _ _ _ (by decide), n2]
  have K5 : K.1 0 59 5 = nI t := by rw [hK, gwr_k _ _ _ _ (by decide), gwr_k _ _ _ _ (by decide), n3 5 (by decide)]; exact h.2.1
  have Kj : ∀ j, j ≠ 6 → j ≠ 8 → j ≠ 9 → K.1 0 59 j = M.1 0 59 j := fun j h1 h2 h3 => by rw [hK, gwr_k _ _ _ _ h2, gwr_k _ _ _ _ h3, n3 j h1]
  have K8 : K.1 0 59 8 = 0 := by rw [hK, gwr_j]
  have K9 : K.1 0 59 9 = nI p := by rw [hK, gwr_k _ _ _ _ (by decide), gwr_j]
  have fK : fr P59 M K := by rw [hK]; exact (n4.wr ⟨rfl, rfl⟩).wr ⟨rfl, rfl⟩
  have main : ∀ t0 : Int32, (p < t → t0 = 0) → (p = t → t0 = 3) → ∃ N, j_X11_nextToken_56 M K t0 = some N ∧ N.1 0 59 9 = nI p ∧ N.1 0 59 6 = nI (te b t p) ∧ N.1 0 59 7 = srf (tk b t p) ∧ (tk b t p = 2 → N.1 0 59 8 = nI (tv b t p)) ∧ TXB N t b ∧ (∀ j, j ≠ 6 → j ≠ 7 → j ≠ 8 → j ≠ 9 → N.1 0 59 j = M.1 0 59 j) ∧ fr P59 M N := by
    intro t0 z1 z2
    obtain ⟨L, hL⟩ : ∃ L, L = gwr K 0 59 7 t0 := ⟨_, rfl⟩
    have Lj : ∀ j, j ≠ 7 → L.1 0 59 j = K.1 0 59 j := fun j hj => by rw [hL, gwr_k _ _ _ _ hj]
    have L7 : L.1 0 59 7 = t0 := by rw [hL, gwr_j]
    have fL : fr P59 M L := by rw [hL]; exact fK.wr ⟨rfl, rfl⟩
    have xL : TXB L t b := h.fr fL (by rw [Lj 5 (by decide), K5]; exact h.2.1.symm)
    obtain ⟨A, a1, a2, a3, a4, a5⟩ := M_l1 xL (by rw [Lj 6 (by decide)]; exact K6) hpb.2 L7 z1
    have fA := fL.tr a5
    have xA : TXB A t b := xL.fr a5 (a4 5 (by decide) (by decide))
    unfold j_X11_nextToken_56
    rw [← hL, bindS a1]
    unfold tk te
    by_cases e1 : p < tl b t p
    · rw [if_pos e1] at a3
      rw [bindS (M_l2w xA a2 hlb.2 a3), a3, if_neg (by decide), if_pos e1, if_pos e1]
      unfold j_X11_nextToken_222
      rw [a3, if_neg (by decide)]
      refine ⟨A, rfl, ?_, a2, a3, fun q => (by cases q), xA, fun j h1 h2 h3 h4 => ?_, fA⟩
      · rw [a4 9 (by decide) (by decide), Lj 9 (by decide), K9]
      · rw [a4 j h1 h2, Lj j h2, Kj j h1 h3 h4]
    · rw [if_neg e1] at a3
      have etl : tl b t p = p := by omega
      rw [etl] at a2
      obtain ⟨B, b1, b2, b3, b4, b5, b6⟩ := M_l2 xA a2 hpb.2 a3 z1 (by rw [a4 8 (by decide) (by decide), Lj 8 (by decide), K8])
      have fB := fA.tr b6
      have xB : TXB B t b := xA.fr b6 (b5 5 (by decide) (by decide) (by decide))
      have B9 : B.1 0 59 9 = nI p := by rw [b5 9 (by decide) (by decide) (by decide), a4 9 (by decide) (by decide), Lj 9 (by decide), K9]
      have Bj : ∀ j, j ≠ 6 → j ≠ 7 → j ≠ 8 → j ≠ 9 → B.1 0 59 j = M.1 0 59 j := fun j h1 h2 h3 h4 => by rw [b5 j h1 h2 h3, a4 j h1 h2, Lj j h2, Kj j h1 h3 h4]
      rw [bindS b1, if_neg e1, if_neg e1]
      by_cases e2 : p < td b t p
      · rw [if_pos e2] at b3
        rw [b3, if_pos rfl, b2, B9, pk_sub (by omega), if_pos e2, if_pos e2]
        by_cases e3 : td b t p - p ≤ 2
        · have le2 : nI (td b t p - p) ≤ 2 := show nI (td b t p - p) ≤ nI 2 from by rw [nI_leI (by omega) (by omega)]; omega
          rw [if_pos le2, if_pos e3]
          unfold j_X11_nextToken_222
          rw [b3, if_neg (by decide)]
          exact ⟨B, rfl, B9, b2, b3, fun _ => b4 e3, xB, Bj, fB⟩
        · have le2 : ¬ nI (td b t p - p) ≤ 2 := show ¬ nI (td b t p - p) ≤ nI 2 from by rw [nI_leI (by omega) (by omega)]; omega
          rw [if_neg le2, if_neg e3]
          refine ⟨_, rfl, ?_, ?_, gwr_j _ _ _ _ _, fun q => (by cases q), xB.fr (fr.rf.wr ⟨rfl, rfl⟩) (gwr_k _ _ _ _ (by decide)), fun j h1 h2 h3 h4 => ?_, fB.wr ⟨rfl, rfl⟩⟩
          · rw [gwr_k _ _ _ _ (by decide), B9]
          · rw [gwr_k _ _ _ _ (by decide), b2]
          · rw [gwr_k _ _ _ _ h2]; exact Bj j h1 h2 h3 h4
      · rw [if_neg e2] at b3
        have etd : td b t p = p := by omega
        rw [etd] at b2
        rw [if_neg e2, if_neg e2]
        by_cases e3 : t ≤ p
        · have z3 := z2 (by omega)
          rw [z3] at b3
          rw [b3, if_neg (by decide), if_pos e3, if_pos e3]
          unfold j_X11_nextToken_222
          rw [b3, if_neg (by decide)]
          exact ⟨B, rfl, B9, by rw [b2, show p = t by omega], b3, fun q => (by cases q), xB, Bj, fB⟩
        · have z3 := z1 (by omega)
          rw [z3] at b3
          rw [b3, if_neg (by decide), if_neg e3, if_neg e3]
          unfold j_X11_nextToken_222 j_X11_nextToken_248
          rw [b3, if_pos rfl, b2, bindS (M_by xB hpb.2), if_pos (show p < t by omega)]
          have hbp := (xB.2.2 p (by omega)).2
          have fin : ∀ v : Int32, ∃ N, some (gwr (gwr B 0 59 7 v) 0 59 6 ((gwr B 0 59 7 v).1 0 59 6 + 1)) = some N ∧ N.1 0 59 9 = nI p ∧ N.1 0 59 6 = nI (p + 1) ∧ N.1 0 59 7 = v ∧ TXB N t b ∧ (∀ j, j ≠ 6 → j ≠ 7 → j ≠ 8 → j ≠ 9 → N.1 0 59 j = M.1 0 59 j) ∧ fr P59 M N := by
            intro v
            refine ⟨_, rfl, ?_, ?_, ?_, xB.fr ((fr.rf.wr ⟨rfl, rfl⟩).wr ⟨rfl, rfl⟩) ?_, fun j h1 h2 h3 h4 => ?_, (fB.wr ⟨rfl, rfl⟩).wr ⟨rfl, rfl⟩⟩
            · rw [gwr_k _ _ _ _ (by decide), gwr_k _ _ _ _ (by decide), B9]
            · rw [gwr_j, gwr_k _ _ _ _ (by decide), b2, nI_1]
            · rw [gwr_k _ _ _ _ (by decide), gwr_j]
            · rw [gwr_k _ _ _ _ (by decide), gwr_k _ _ _ _ (by decide)]
            · rw [gwr_k _ _ _ _ h1, gwr_k _ _ _ _ h2]; exact Bj j h1 h2 h3 h4
          by_cases e4 : b p = 59
          · rw [e4, if_pos (show nI 59 = 59 from rfl), if_pos rfl]
            obtain ⟨N, w1, w2, w3, w4, w5⟩ := fin 4
            exact ⟨N, w1, w2, w3, w4, fun q => (by cases q), w5⟩
          · have n59 : ¬ nI (b p) = 59 := show ¬ nI (b p) = nI 59 from nI_ne (by omega) (by omega) e4
            rw [if_neg n59, if_neg e4]
            obtain ⟨N, w1, w2, w3, w4, w5⟩ := fin 0
            exact ⟨N, w1, w2, w3, w4, fun q => (by cases q), w5⟩
  unfold x_X11_nextToken
  rw [bindS n1, n2, ← hK, K6, K5]
  by_cases e2 : p = t
  · rw [if_pos (by rw [e2])]
    exact main 3 (fun q => by omega) (fun _ => rfl)
  · rw [if_neg (nI_ne (by omega) (by omega) e2)]
    exact main 0 (fun _ => rfl) (fun q => absurd q e2)
end RD2
