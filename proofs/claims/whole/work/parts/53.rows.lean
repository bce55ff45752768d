/-! the reference's rows -/
section RW5
theorem bf_hl : ∀ m, m < 8 → ∀ u, u < 2 ^ m → ∀ i, i < m → x_X11_has (nI (2 ^ m - (u + 1))) (nI i) = some (b2i (!u.testBit i)) := by decide +kernel
theorem bf_lf : ∀ m, m < 8 → ∀ u, u < 2 ^ m → ∀ j, j < m → nI (2 ^ m - (u + 1)) &&& ((1 <<< (nI j &&& 31)) ^^^ (-1)) = nI (2 ^ m - ((u ||| 2 ^ j) + 1)) := by decide +kernel
theorem M_fac {n : Nat} (hn : n < 8) : x_X11_factorial (nI n) = some (nI (fac n)) := by
  have hd : ∀ n, n < 8 → ∃ z, itr 10 (fun s => s_X11_factorial_4 (nI n) s.1 s.2) (1, 2) = some (nI (fac n), z) := by
    intro n hn
    rcases (show n = 0 ∨ n = 1 ∨ n = 2 ∨ n = 3 ∨ n = 4 ∨ n = 5 ∨ n = 6 ∨ n = 7 by omega) with rfl | rfl | rfl | rfl | rfl | rfl | rfl | rfl
    · exact ⟨2, by decide +kernel⟩
    · exact ⟨2, by decide +kernel⟩
    · exact ⟨3, by decide +kernel⟩
    · exact ⟨4, by decide +kernel⟩
    · exact ⟨5, by decide +kernel⟩
    · exact ⟨6, by decide +kernel⟩
    · exact ⟨7, by decide +kernel⟩
    · exact ⟨8, by decide +kernel⟩
  obtain ⟨z, hz⟩ := hd n hn
  unfold x_X11_factorial
  exact (bindS (itr_mo 10 FU _ hz (by have := FU_ge; omega))).trans rfl
theorem fac_b : ∀ k, k < 8 → fac k ≤ 5040 := by decide
abbrev P66 (c o : Nat) : Prop := c = 0 ∧ o = 66
theorem M_tk (M : gMem) {a : Nat} (ha : a < 128) : ∃ N, x_X11_takeSet M (nI a) = some N ∧ N.1 0 59 16 = nI (fc (127 - a) 7) ∧ (∀ i, i < fc (127 - a) 7 → N.1 0 65 i = nI (nx 7 (127 - a) i)) ∧ (∀ j, j ≠ 16 → N.1 0 59 j = M.1 0 59 j) ∧ fr (fun c o => c = 0 ∧ (o = 59 ∨ o = 65)) M N := by
  obtain ⟨⟨z, N⟩, hr, q1, q2, q3, q4⟩ := itr_inv (step := fun s => s_X11_takeSet_7 (nI a) s.1 s.2) (s := (0, gwr M 0 59 16 0)) (fun g s => g ≤ 7 ∧ s.1 = nI g ∧ s.2.1 0 59 16 = nI (fc (127 - a) g) ∧ (∀ i, i < fc (127 - a) g → s.2.1 0 65 i = nI (nx 7 (127 - a) i)) ∧ (∀ j, j ≠ 16 → s.2.1 0 59 j = M.1 0 59 j) ∧ fr (fun c o => c = 0 ∧ (o = 59 ∨ o = 65)) M s.2) (fun r => r.2.1 0 59 16 = nI (fc (127 - a) 7) ∧ (∀ i, i < fc (127 - a) 7 → r.2.1 0 65 i = nI (nx 7 (127 - a) i)) ∧ (∀ j, j ≠ 16 → r.2.1 0 59 j = M.1 0 59 j) ∧ fr (fun c o => c = 0 ∧ (o = 59 ∨ o = 65)) M r.2) 7 (by omega) ⟨by omega, rfl, gwr_j _ _ _ _ _, fun i hi => absurd hi (Nat.not_lt_zero i), fun j hj => gwr_k _ _ _ _ hj, fr.rf.wr ⟨rfl, by omega⟩⟩ (by
    rintro g ⟨x, N⟩ ⟨hg, rfl, h1, h2, h2', h3⟩
    dsimp only at *
    unfold s_X11_takeSet_7 j_X11_takeSet_7_41
    by_cases e : g = 7
    · subst e
      rw [if_pos (by decide)]
      exact Or.inl ⟨_, rfl, h1, h2, h2', h3⟩
    · have p1 : ¬ (7 : Int32) ≤ nI g := show ¬ nI 7 ≤ nI g from by rw [nI_leI (by omega) (by omega)]; omega
      rw [if_neg p1, bindS (bf_has a ha g (by omega))]
      have hq := bf_c a ha g (by omega)
      have hl := fc_le (127 - a) g
      cases hab : a.testBit g
      · rw [hab] at hq
        rw [if_pos (b2i_0.mpr rfl)]
        refine Or.inr ⟨by omega, _, rfl, by omega, nI_1 g, ?_, ?_, h2', h3⟩
        · rw [fc_0 hq]; exact h1
        · rw [fc_0 hq]; exact h2
      · rw [hab] at hq
        rw [if_neg (by rw [b2i_0]; decide), h1, gd_i (gin_n (by omega) (by omega)), nI_clamp (by omega)]
        refine Or.inr ⟨by omega, _, rfl, by omega, nI_1 g, ?_, fun i hi => ?_, fun j hj => ?_, (h3.wr ⟨rfl, by omega⟩).wr ⟨rfl, by omega⟩⟩
        · rw [fc_1 hq, gwr_j, gwr_o (by omega), h1, nI_1]
        · rw [fc_1 hq] at hi
          rw [gwr_o (by omega)]
          by_cases ei : i = fc (127 - a) g
          · subst ei; rw [gwr_j, nx_at (by omega) hq]
          · rw [gwr_k _ _ _ _ ei]; exact h2 i (by omega)
        · rw [gwr_k _ _ _ _ hj, gwr_o (by omega)]; exact h2' j hj)
  refine ⟨N, ?_, q1, q2, q3, q4⟩
  unfold x_X11_takeSet
  exact (bindS hr).trans rfl
theorem M_fnd {m u t : Nat} (hm : m ≤ 7) (hu : u < 2 ^ m) (ht : t < fc u m) (N : gMem) (a3 a5 : Int32) : itr FU (fun s => s_X11_isRow_62 N (nI (2 ^ m - (u + 1))) a3 a5 (nI t) s.1 s.2) (0, 0) = some (nI (nx m u t), nI t) := by
  obtain ⟨j, hj, hf, hc⟩ := nx_ex ht
  have hn : nx m u t = j := by rw [← hc]; exact nx_at hj hf
  rw [hn]
  have hcb : ∀ i, i ≤ 7 → fc u i ≤ 7 := fun i hi => Nat.le_trans (fc_le u i) hi
  refine itr_tr (fun i => (nI i, nI (fc u i))) j _ rfl (by omega) (fun i hi => ?_) ?_
  · dsimp only
    unfold s_X11_isRow_62 j_X11_isRow_62_78 j_X11_isRow_62_94
    have hh := bf_hl m (by omega) u hu i (by omega)
    refine (bindS hh).trans ?_
    cases hb : u.testBit i
    · have h1 : fc u (i + 1) ≤ fc u j := fc_mono j (by omega)
      rw [fc_1 hb] at h1
      have := hcb j (by omega)
      rw [if_neg (by rw [b2i_0]; decide), if_neg (by rw [nI_leI (by omega) (by omega)]; omega)]
      rw [hb] at hh
      refine (bindS hh).trans ?_
      rw [if_neg (by rw [b2i_0]; decide), fc_1 hb, nI_1, nI_1]
    · rw [if_pos (show b2i (!true) = 0 from rfl)]
      rw [hb] at hh
      refine (bindS hh).trans ?_
      rw [if_pos (show b2i (!true) = 0 from rfl), fc_0 hb, nI_1, Int32.add_zero]
  · dsimp only
    unfold s_X11_isRow_62
    refine (bindS (bf_hl m (by omega) u hu j hj)).trans ?_
    have := hcb j (by omega)
    rw [hf, if_neg (by rw [b2i_0]; decide), hc, if_pos (by rw [nI_leI (by omega) (by omega)]; omega)]
def RWM (M : gMem) (m : Nat) (who : Nat → Nat) (ok : Nat → Nat → Bool) : Prop := M.1 0 59 16 = nI m ∧ (∀ i, i < m → M.1 0 65 i = nI (who i) ∧ who i < 7) ∧ (∀ i j, i < m → j < m → i ≠ j → who i ≠ who j) ∧ ∀ N : gMem, N.1 0 60 = M.1 0 60 → ∀ i j, i < m → j < m → x_X11_canServe N (nI (who i)) (nI (who j)) = some (b2i (ok i j))
variable {M : gMem} {m : Nat} {who : Nat → Nat} {ok : Nat → Nat → Bool}
theorem M_row (h : RWM M m who ok) (hm : m ≤ 7) {r : Nat} (hr : r < fac m) : ∃ N, x_X11_isRow M (nI r) = some (b2i (okF m ok m 0 r), N) ∧ fr P66 M N ∧ (okF m ok m 0 r = true → ∀ i, i < m → N.1 0 66 (who i) = nI (who (rwF m m 0 r i))) := by
  obtain ⟨h16, h65, hin, hcs⟩ := h
  obtain ⟨b1, b2, b3, b4⟩ := bf_full m (by omega)
  have p2 : 0 < 2 ^ m := Nat.two_pow_pos m
  obtain ⟨⟨z1, z2, z3, z4, N⟩, hi, q1, q2, q3⟩ := itr_inv (step := fun s => s_X11_isRow_17 s.1 s.2.1 s.2.2.1 s.2.2.2.1 s.2.2.2.2) (s := (nI (2 ^ m - (0 + 1)), nI r, 1, 0, M)) (fun k s => k ≤ m ∧ ∃ u t b N, s = (nI (2 ^ m - (u + 1)), nI t, b2i b, nI k, N) ∧ u < 2 ^ m ∧ fc u m = m - k ∧ t < fac (m - k) ∧ okF m ok m 0 r = (b && okF m ok (m - k) u t) ∧ fr P66 M N ∧ (∀ i, i < k → N.1 0 66 (who i) = nI (who (rwF m m 0 r i))) ∧ ∀ i, k ≤ i → rwF m (m - k) u t i = rwF m m 0 r i) (fun s => s.2.2.1 = b2i (okF m ok m 0 r) ∧ fr P66 M s.2.2.2.2 ∧ (okF m ok m 0 r = true → ∀ i, i < m → s.2.2.2.2.1 0 66 (who i) = nI (who (rwF m m 0 r i)))) m (by omega) ⟨by omega, 0, r, true, M, rfl, p2, b2, hr, by rw [Nat.sub_zero, Bool.true_and], fr.rf, fun i hi => absurd hi (Nat.not_lt_zero i), fun i _ => rfl⟩ (by
    rintro k s ⟨hk, u, t, b, N, rfl, hu, hf, ht, hok, hfr, hc, hrw⟩
    dsimp only at *
    have n16 : N.1 0 59 16 = nI m := by rw [hfr.2 0 59 (by omega)]; exact h16
    have n65 : ∀ i, i < m → N.1 0 65 i = nI (who i) := fun i hi => by rw [hfr.2 0 65 (by omega)]; exact (h65 i hi).1
    unfold s_X11_isRow_17
    by_cases e : k = m
    · subst e
      rw [n16, if_pos (by rw [nI_leI (by omega) (by omega)]; omega)]
      refine Or.inl ⟨_, rfl, ?_, hfr, fun _ => hc⟩
      rw [Nat.sub_self] at hok
      have : okF k ok 0 u t = true := rfl
      rw [hok, this, Bool.and_true]
    · rw [n16, if_neg (by rw [nI_leI (by omega) (by omega)]; omega)]
      cases b with
      | false =>
        rw [if_pos (b2i_0.mpr rfl)]
        rw [Bool.false_and] at hok
        refine Or.inl ⟨_, rfl, by rw [hok], hfr, fun q => ?_⟩
        rw [hok] at q; cases q
      | true =>
        rw [if_neg (by rw [b2i_0]; decide)]
        obtain ⟨d, hd⟩ : ∃ d, m - k = d + 1 := ⟨m - k - 1, by omega⟩
        have hfd := fac_b d (by omega)
        have hfp := fac_pos d
        have hfd1 := fac_b (d + 1) (by omega)
        rw [hd] at hf ht hok hrw
        have htd : t / fac d < fc u m := by rw [hf]; exact (Nat.div_lt_iff_lt_mul hfp).mpr ht
        obtain ⟨j, hj, hjf, hjc⟩ := nx_ex htd
        have hn : nx m u (t / fac d) = j := by rw [← hjc]; exact nx_at hj hjf
        have hup := bf_up m (by omega) u hu j hj hjf
        have a1 : (nI m - 1) - nI k = nI d := by
          rw [show (1 : Int32) = nI 1 from rfl, pk_sub (by omega), pk_sub (by omega), show m - 1 - k = d by omega]
        have dv1 : nI t / nI (fac d) = nI (t / fac d) := pk_div (by omega) hfp (by omega)
        have rm1 : nI t - nI (t / fac d) * nI (fac d) = nI (t % fac d) := by rw [← dv1]; exact pk_rem (by omega) hfp (by omega)
        have nz : ¬ nI (fac d) = 0 := nI_ne0 hfp (by omega)
        have gk : gin (nI k) 7 := gin_n (by omega) (by omega)
        have gj : gin (nI j) 7 := gin_n (by omega) (by omega)
        have ck : (nI k).toNatClampNeg = k := nI_clamp (by omega)
        have cj : (nI j).toNatClampNeg = j := nI_clamp (by omega)
        have hwk := (h65 k (by omega)).2
        have gw : gin (nI (who k)) 7 := gin_n hwk (by omega)
        have cw : (nI (who k)).toNatClampNeg = who k := nI_clamp (by omega)
        have w65 : ∀ x v, (gwr N 0 66 x v).1 0 65 = N.1 0 65 := fun x v => gwr_o (by omega)
        have cs := hcs (gwr N 0 66 (who k) (nI (who j))) (by rw [gwr_o (by omega), hfr.2 0 60 (by omega)]) k j (by omega) hj
        have fnd := M_fnd hm hu htd N (nI (t % fac d)) (nI k)
        rw [hn] at fnd
        have hd2 : m - (k + 1) = d := by omega
        have hkm : m - (d + 1) = k := by omega
        refine Or.inr ⟨by omega, (nI (2 ^ m - ((u ||| 2 ^ j) + 1)), nI (t % fac d), b2i (ok k j), nI (k + 1), gwr N 0 66 (who k) (nI (who j))), ?_, by omega, u ||| 2 ^ j, t % fac d, ok k j, gwr N 0 66 (who k) (nI (who j)), rfl, hup.1, by omega, ?_, ?_, hfr.wr ⟨rfl, rfl⟩, fun i hi => ?_, fun i hi => ?_⟩
        · rw [a1]
          refine (bindS (M_fac (by omega))).trans ?_
          rw [gd_i nz, gd_i nz, dv1, rm1]
          refine (bindS fnd).trans ?_
          simp only [gd_i gk, gd_i gj, ck, cj, n65 k (by omega), n65 j hj, gd_i gw, cw, w65]
          refine (bindS cs).trans ?_
          rw [bf_lf m (by omega) u hu j hj, nI_1]
        · rw [hd2]; exact Nat.mod_lt _ hfp
        · rw [hok, hd2, Bool.true_and, okF_s, hn, hkm]
        · by_cases ei : i = k
          · subst ei
            rw [gwr_j, ← hrw i (Nat.le_refl i), rwF_s, hkm, if_pos rfl, hn]
          · rw [gwr_k _ _ _ _ (hin i k (by omega) (by omega) ei)]
            exact hc i (by omega)
        · rw [hd2, ← hrw i (by omega), rwF_s, hkm, if_neg (by omega), hn])
  dsimp only at *
  refine ⟨N, ?_, q2, q3⟩
  unfold x_X11_isRow
  rw [h16, b3]
  refine (bindS hi).trans ?_
  dsimp only
  rw [q1, gd_i (by cases okF m ok m 0 r <;> simp [b2i])]
theorem M_clo {a : Nat} (ha : a < 128) (hcs : ∀ N : gMem, N.1 0 60 = M.1 0 60 → ∀ i j, i < fc (127 - a) 7 → j < fc (127 - a) 7 → x_X11_canServe N (nI (nx 7 (127 - a) i)) (nI (nx 7 (127 - a) j)) = some (b2i (ok i j))) : ∃ N, x_X11_closes M (nI a) = some (b2i (decide (0 < Wy (fc (127 - a) 7) ok (fc (127 - a) 7) 0)), N) ∧ (∀ j, j ≠ 16 → N.1 0 59 j = M.1 0 59 j) ∧ fr (fun c o => c = 0 ∧ (o = 59 ∨ o = 65 ∨ o = 66)) M N := by
  obtain ⟨N0, n1, n2, n3, n4, n5⟩ := M_tk M ha
  have hm : fc (127 - a) 7 ≤ 7 := fc_le _ _
  have hR : RWM N0 (fc (127 - a) 7) (nx 7 (127 - a)) ok := by
    refine ⟨n2, fun i hi => ⟨n3 i hi, ?_⟩, fun i j hi hj hne => ?_, fun N hN i j hi hj => hcs N (by rw [hN, n5.2 0 60 (by omega)]) i j hi hj⟩
    · obtain ⟨j, j1, j2, j3⟩ := nx_ex hi
      rw [← j3, nx_at j1 j2]; exact j1
    · obtain ⟨x, x1, x2, x3⟩ := nx_ex hi
      obtain ⟨y, y1, y2, y3⟩ := nx_ex hj
      rw [← x3, nx_at x1 x2, ← y3, nx_at y1 y2]
      intro q
      rw [q, y3] at x3
      exact hne x3.symm
  generalize nx 7 (127 - a) = who at *
  generalize fc (127 - a) 7 = m at *
  have hfb := fac_b m (by omega)
  have rk : ∀ N, fr P66 N0 N → RWM N m who ok := fun N f => ⟨by rw [f.2 0 59 (by omega)]; exact hR.1, fun i hi => by rw [f.2 0 65 (by omega)]; exact hR.2.1 i hi, hR.2.2.1, fun K hK => hR.2.2.2 K (by rw [hK, f.2 0 60 (by omega)])⟩
  obtain ⟨r, hr, N, f1, f2⟩ := itr_inv (step := fun s => s_X11_closes_15 (nI (fac m)) s.1 s.2) (s := (0, N0)) (fun i s => i ≤ fac m ∧ s.1 = nI i ∧ fr P66 N0 s.2 ∧ fd (fun x y => x + y) 0 (fun s => if okF m ok m 0 s = true then 1 else 0) i = 0) (fun r => ∃ N, fr P66 N0 N ∧ Sum.elim (fun s11 => some (0, s11.2)) (fun z12 => some z12) r = some (b2i (decide (0 < Wy m ok m 0)), N)) (fac m) (by omega) ⟨by omega, rfl, fr.rf, rfl⟩ (by
    rintro i ⟨x, N⟩ ⟨hi, rfl, h1, h2⟩
    dsimp only at *
    unfold s_X11_closes_15
    by_cases e : i = fac m
    · subst e
      rw [if_pos (by rw [nI_leI (by omega) (by omega)]; omega)]
      refine Or.inl ⟨_, rfl, N, h1, ?_⟩
      have : Wy m ok m 0 = 0 := h2
      rw [this]
      rfl
    · rw [if_neg (by rw [nI_leI (by omega) (by omega)]; omega)]
      obtain ⟨N', m1, m2, _⟩ := M_row (rk N h1) hm (show i < fac m by omega)
      rw [bindS m1]
      cases ho : okF m ok m 0 i
      · refine Or.inr ⟨by omega, (nI i + 1, N'), ?_, by omega, nI_1 i, h1.tr m2, ?_⟩
        · rw [if_pos (b2i_0.mpr rfl)]
        · show fd (fun x y => x + y) 0 (fun s => if okF m ok m 0 s = true then 1 else 0) i + (if okF m ok m 0 i = true then 1 else 0) = 0
          rw [h2, ho]; rfl
      · refine Or.inl ⟨.inr (1, N'), ?_, N', h1.tr m2, ?_⟩
        · rw [if_neg (by rw [b2i_0]; decide)]
        · have hpos : 0 < Wy m ok m 0 := by
            have hmono : ∀ k, i < k → 0 < fd (fun x y => x + y) 0 (fun s => if okF m ok m 0 s = true then 1 else 0) k := by
              intro k hk
              induction k with
              | zero => omega
              | succ k ih =>
                show 0 < fd (fun x y => x + y) 0 (fun s => if okF m ok m 0 s = true then 1 else 0) k + (if okF m ok m 0 k = true then 1 else 0)
                by_cases ek : i = k
                · subst ek; rw [ho]; simp
                · have := ih (by omega); omega
            exact hmono (fac m) (by omega)
          simp [hpos, b2i])
  refine ⟨N, ?_, fun j hj => by rw [f1.2 0 59 (by omega)]; exact n4 j hj, (n5.mono (fun c o q => ⟨q.1, by omega⟩)).tr (f1.mono (fun c o q => ⟨q.1, by omega⟩))⟩
  unfold x_X11_closes
  refine (bindS n1).trans ?_
  rw [n2]
  exact (bindS (M_fac (by omega))).trans ((bindS hr).trans f2)
end RW5
