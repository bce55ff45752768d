theorem itr_r2 {σ1 ρ1 σ2 ρ2 : Type} {s1 : σ1 → Option (σ1 ⊕ ρ1)} {s2 : σ2 → Option (σ2 ⊕ ρ2)} (R : Nat → σ1 → σ2 → Prop) (Q : ρ1 → ρ2 → Prop) (n : Nat) (h : ∀ i a b, R i a b → (∃ r1 r2, s1 a = some (.inr r1) ∧ s2 b = some (.inr r2) ∧ Q r1 r2) ∨ (i < n ∧ ∃ a' b', s1 a = some (.inl a') ∧ s2 b = some (.inl b') ∧ R (i + 1) a' b')) : ∀ (F i : Nat) (a : σ1) (b : σ2), R i a b → n - i < F → ∃ r1 r2, itr F s1 a = some r1 ∧ itr F s2 b = some r2 ∧ Q r1 r2
  | 0, i, a, b, _, h2 => by omega
  | F + 1, i, a, b, hR, h2 => by
    unfold itr
    rcases h i a b hR with ⟨r1, r2, h3, h4, h5⟩ | ⟨h3, a', b', h4, h5, h6⟩
    · exact ⟨r1, r2, by rw [h3]; rfl, by rw [h4]; rfl, h5⟩
    · obtain ⟨r1, r2, h7, h8, h9⟩ := itr_r2 R Q n h F (i + 1) a' b' h6 (by omega)
      exact ⟨r1, r2, by rw [h4]; exact h7, by rw [h5]; exact h8, h9⟩
theorem itr_rel {σ1 ρ1 σ2 ρ2 : Type} {s1 : σ1 → Option (σ1 ⊕ ρ1)} {s2 : σ2 → Option (σ2 ⊕ ρ2)} (R : Nat → σ1 → σ2 → Prop) (Q : ρ1 → ρ2 → Prop) (n : Nat) {a : σ1} {b : σ2} (hn : n < 1000000) (h0 : R 0 a b) (h : ∀ i a b, R i a b → (∃ r1 r2, s1 a = some (.inr r1) ∧ s2 b = some (.inr r2) ∧ Q r1 r2) ∨ (i < n ∧ ∃ a' b', s1 a = some (.inl a') ∧ s2 b = some (.inl b') ∧ R (i + 1) a' b')) : ∃ r1 r2, itr FU s1 a = some r1 ∧ itr FU s2 b = some r2 ∧ Q r1 r2 :=
  itr_r2 R Q n h FU 0 a b h0 (Nat.lt_of_lt_of_le hn FU_ge)
/-- nothing but the cells of P has changed -/
def fr (P : Nat → Nat → Prop) (M N : gMem) : Prop := N.2 = M.2 ∧ ∀ c o, ¬ P c o → N.1 c o = M.1 c o
theorem fr.rf {P : Nat → Nat → Prop} {M : gMem} : fr P M M := ⟨rfl, fun _ _ _ => rfl⟩
theorem fr.tr {P : Nat → Nat → Prop} {M N K : gMem} (h1 : fr P M N) (h2 : fr P N K) : fr P M K := ⟨h2.1.trans h1.1, fun c o h => (h2.2 c o h).trans (h1.2 c o h)⟩
theorem fr.up {P : Nat → Nat → Prop} {M N : gMem} {c o : Nat} {g : Nat → Int32} (h : fr P M N) (hp : P c o) : fr P M (gup N c o g) := ⟨h.1, fun c' o' hq => by
  show (if c' = c ∧ o' = o then g else N.1 c' o') = _
  rw [if_neg (fun q => hq (by rw [q.1, q.2]; exact hp))]
  exact h.2 c' o' hq⟩
theorem fr.wr {P : Nat → Nat → Prop} {M N : gMem} {c o j : Nat} {v : Int32} (h : fr P M N) (hp : P c o) : fr P M (gwr N c o j v) := h.up hp
theorem fr.mono {P Q : Nat → Nat → Prop} {M N : gMem} (h : fr P M N) (hpq : ∀ c o, P c o → Q c o) : fr Q M N := ⟨h.1, fun c o hq => h.2 c o (fun q => hq (hpq c o q))⟩
theorem gup_o {M : gMem} {c o : Nat} {g : Nat → Int32} {c' o' : Nat} (h : ¬ (c' = c ∧ o' = o)) : (gup M c o g).1 c' o' = M.1 c' o' := if_neg h
theorem gwr_o {M : gMem} {c o j : Nat} {v : Int32} {c' o' : Nat} (h : ¬ (c' = c ∧ o' = o)) : (gwr M c o j v).1 c' o' = M.1 c' o' := if_neg h
theorem gwr_s (M : gMem) (c o j : Nat) (v : Int32) : (gwr M c o j v).1 c o = upd (M.1 c o) j v := gup_at M c o _
theorem gwr_j (M : gMem) (c o j : Nat) (v : Int32) : (gwr M c o j v).1 c o j = v := by rw [gwr_s]; exact pk_us
theorem gwr_k (M : gMem) (c o : Nat) {j k : Nat} (v : Int32) (h : k ≠ j) : (gwr M c o j v).1 c o k = M.1 c o k := by rw [gwr_s]; exact pk_un h
def TT (T : Nat → Nat → Int32) (tp : Nat → Int32) : Nat → Nat → Int32 := fun o => if o = 5 then tp else T o
theorem TT_csv {T : Nat → Nat → Int32} {tp : Nat → Int32} (g w : Nat) : csv (TT T tp) g w = csv T g w := rfl
theorem TT_srv {n : Nat} {T : Nat → Nat → Int32} {tp : Nat → Int32} (w : Nat) : srv n (TT T tp) w = srv n T w := rfl
theorem TT_srvI {n : Nat} {T : Nat → Nat → Int32} {tp : Nat → Int32} (w : Nat) : srvI n (TT T tp) w = srvI n T w := rfl
theorem TT_WFT {n : Nat} {T : Nat → Nat → Int32} {tp : Nat → Int32} (h : WFT n T) : WFT n (TT T tp) := h
theorem TT_TT {T : Nat → Nat → Int32} {tp tq : Nat → Int32} : TT (TT T tp) tq = TT T tq := by
  funext o
  unfold TT
  split <;> rfl
def mdS (n : Nat) (T : Nat → Nat → Int32) (hr md : Int32) : Nat → Int32
  | 0 => md
  | i + 1 => mdS n T hr md i + coT n T hr i
def tp1 (n : Nat) (T : Nat → Nat → Int32) (i : Nat) (tp : Nat → Int32) : Nat → Int32 := if srv n T i < n then (if tp i ≤ 0 then tp else upd (upd tp i (tp i - 1)) (srv n T i) (upd tp i (tp i - 1) (srv n T i) + 1)) else tp
def tpS (n : Nat) (T : Nat → Nat → Int32) : Nat → Nat → Int32
  | 0 => T 5
  | i + 1 => tp1 n T i (tpS n T i)
section PP
variable {M : gMem} {c n : Nat} {T : Nat → Nat → Int32}
theorem HC.wr0 (h : HC M c n T) {j : Nat} {v : Int32} (hj : j ≠ 13) : HC (gwr M c 0 j v) c n T := by
  refine ⟨by rw [gwr_k _ _ _ _ (fun q => hj q.symm)]; exact h.1, fun g hg => ?_⟩
  rw [gwr_o (by omega), gwr_o (by omega), gwr_o (by omega), gwr_o (by omega), gwr_o (by omega)]
  exact h.2 g hg
theorem HC.up5 (h : HC M c n T) {tp : Nat → Int32} {t : Nat → Int32} (ht : ∀ g, g < n → t g = tp g) : HC (gup M c 5 t) c n (TT T tp) := by
  refine ⟨by rw [gup_o (by omega)]; exact h.1, fun g hg => ?_⟩
  rw [gup_o (by omega), gup_o (by omega), gup_o (by omega), gup_o (by omega), gup_at]
  have := h.2 g hg
  exact ⟨this.1, this.2.1, this.2.2.1, this.2.2.2.1, ht g hg⟩
theorem C_pass (h : HC M c n T) (hW : WFT n T) : ∃ M', x_X1_passHour M c = some M' ∧ HC M' c n (TT T (tpS n T n)) ∧ M'.1 c 0 14 = M.1 c 0 14 + 1 ∧ M'.1 c 0 15 = mdS n T (M.1 c 0 14) (M.1 c 0 15) n ∧ M'.1 c 0 11 = M.1 c 0 11 ∧ M'.1 c 0 12 = M.1 c 0 12 ∧ fr (fun c' o' => c' = c ∧ (o' = 0 ∨ o' = 5)) M M' := by
  have hn := hW.1
  obtain ⟨e1, h1, hc1, hm1, hf1, hk1⟩ := itr_inv (step := fun s => s_X1_passHour_2 c s.1 s.2) (s := (0, M)) (fun i s => i ≤ n ∧ s.1 = nI i ∧ HC s.2 c n T ∧ s.2.1 c 0 15 = mdS n T (M.1 c 0 14) (M.1 c 0 15) i ∧ fr (fun c' o' => c' = c ∧ o' = 0) M s.2 ∧ ∀ j, j ≠ 15 → s.2.1 c 0 j = M.1 c 0 j) (fun r => HC r.2 c n T ∧ r.2.1 c 0 15 = mdS n T (M.1 c 0 14) (M.1 c 0 15) n ∧ fr (fun c' o' => c' = c ∧ o' = 0) M r.2 ∧ ∀ j, j ≠ 15 → r.2.1 c 0 j = M.1 c 0 j) n (by omega) ⟨Nat.zero_le _, rfl, h, rfl, fr.rf, fun _ _ => rfl⟩ (by
    rintro i ⟨b1, N⟩ ⟨hi, rfl, hc, hm, hf, hk⟩
    dsimp only at *
    unfold s_X1_passHour_2
    by_cases e : i = n
    · subst e
      rw [hc.1, if_pos (by rw [nI_leI (by omega) (by omega)]; omega)]
      exact Or.inl ⟨_, rfl, hc, hm, hf, hk⟩
    · have hin : i < n := by omega
      rw [hc.1, if_neg (by rw [nI_leI (by omega) (by omega)]; omega), C_co hc hW hin]
      refine Or.inr ⟨hin, _, rfl, by omega, nI_1 i, hc.wr0 (by decide), ?_, hf.wr ⟨rfl, rfl⟩, fun j hj => ?_⟩
      · show (gwr N c 0 15 (N.1 c 0 15 + coT n T (N.1 c 0 14) i)).1 c 0 15 = _
        rw [gwr_j, hm, hk 14 (by decide)]
        rfl
      · show (gwr N c 0 15 (N.1 c 0 15 + coT n T (N.1 c 0 14) i)).1 c 0 j = _
        rw [gwr_k _ _ _ _ hj]
        exact hk j hj)
  obtain ⟨e2, h2, hc2, hf2⟩ := itr_inv (step := fun s => s_X1_passHour_32 c s.1 s.2) (s := (0, e1.2)) (fun i s => i ≤ n ∧ s.1 = nI i ∧ HC s.2 c n (TT T (tpS n T i)) ∧ fr (fun c' o' => c' = c ∧ o' = 5) e1.2 s.2) (fun r => HC r.2 c n (TT T (tpS n T n)) ∧ fr (fun c' o' => c' = c ∧ o' = 5) e1.2 r.2) n (by omega) ⟨Nat.zero_le _, rfl, hc1, fr.rf⟩ (by
    rintro i ⟨b1, N⟩ ⟨hi, rfl, hc, hf⟩
    dsimp only at *
    unfold s_X1_passHour_32 j_X1_passHour_32_80
    by_cases e : i = n
    · subst e
      rw [hc.1, if_pos (by rw [nI_leI (by omega) (by omega)]; omega)]
      exact Or.inl ⟨_, rfl, hc, hf⟩
    · have hin : i < n := by omega
      have hti : N.1 c 5 i = tpS n T i i := (hc.2 i hin).2.2.2.2
      rw [hc.1, if_neg (by rw [nI_leI (by omega) (by omega)]; omega), C_srv hc (TT_WFT hW) hin, TT_srvI]
      refine Or.inr ⟨hin, ?_⟩
      unfold srvI
      by_cases hs : srv n T i < n
      · rw [if_pos hs]
        show ∃ s', (if nI (srv n T i) = -1 then some (Sum.inl (nI i + 1, N)) else _) = _ ∧ _
        have g1 : gin (nI i) 7 := gin_n (by omega) (by omega)
        have g2 : gin (nI (srv n T i)) 7 := gin_n (by omega) (by omega)
        have c1 : (nI i).toNatClampNeg = i := nI_clamp (by omega)
        have c2 : (nI (srv n T i)).toNatClampNeg = srv n T i := nI_clamp (by omega)
        rw [if_neg (nI_nm1 (by omega))]
        simp only [gd_i g1, gd_i g2, c1, c2, hti]
        by_cases ht : tpS n T i i ≤ 0
        · rw [if_pos ht]
          refine ⟨_, rfl, by omega, nI_1 i, ?_, hf⟩
          show HC N c n (TT T (tp1 n T i (tpS n T i)))
          unfold tp1
          rw [if_pos hs, if_pos ht]
          exact hc
        · rw [if_neg ht]
          refine ⟨_, rfl, by omega, nI_1 i, ?_, (hf.wr ⟨rfl, rfl⟩).wr ⟨rfl, rfl⟩⟩
          show HC (gwr (gwr N c 5 i (tpS n T i i - 1)) c 5 (srv n T i) ((gwr N c 5 i (tpS n T i i - 1)).1 c 5 (srv n T i) + 1)) c n (TT T (tp1 n T i (tpS n T i)))
          have hcc := (hc.up5 (tp := upd (tpS n T i) i (tpS n T i i - 1)) (t := upd (N.1 c 5) i (tpS n T i i - 1)) (fun g hg => by
            unfold upd
            split
            · rfl
            · exact (hc.2 g hg).2.2.2.2))
          rw [TT_TT] at hcc
          have hcd := (hcc.up5 (tp := upd (upd (tpS n T i) i (tpS n T i i - 1)) (srv n T i) (upd (tpS n T i) i (tpS n T i i - 1) (srv n T i) + 1)) (t := upd ((gup N c 5 (upd (N.1 c 5) i (tpS n T i i - 1))).1 c 5) (srv n T i) ((gup N c 5 (upd (N.1 c 5) i (tpS n T i i - 1))).1 c 5 (srv n T i) + 1)) (fun g hg => by
            have e5 : ∀ g, g < n → (gup N c 5 (upd (N.1 c 5) i (tpS n T i i - 1))).1 c 5 g = upd (tpS n T i) i (tpS n T i i - 1) g := fun g hg => (hcc.2 g hg).2.2.2.2
            by_cases e : g = srv n T i
            · subst e
              rw [pk_us, pk_us, e5 _ hs]
            · rw [pk_un e, pk_un e, e5 g hg]))
          rw [TT_TT] at hcd
          unfold tp1
          rw [if_pos hs, if_neg ht]
          exact hcd
      · rw [if_neg hs]
        refine ⟨(nI i + 1, N), rfl, by omega, nI_1 i, ?_, hf⟩
        show HC N c n (TT T (tp1 n T i (tpS n T i)))
        unfold tp1
        rw [if_neg hs]
        exact hc)
  refine ⟨_, (bindS h1).trans ((bindS h2).trans rfl), hc2.wr0 (by decide), ?_, ?_, ?_, ?_, ?_⟩
  · rw [gwr_j, hf2.2 c 0 (by omega), hk1 14 (by decide)]
  · rw [gwr_k _ _ _ _ (by decide), hf2.2 c 0 (by omega), hm1]
  · rw [gwr_k _ _ _ _ (by decide), hf2.2 c 0 (by omega), hk1 11 (by decide)]
  · rw [gwr_k _ _ _ _ (by decide), hf2.2 c 0 (by omega), hk1 12 (by decide)]
  · exact ((hf1.mono (fun a b q => ⟨q.1, Or.inl q.2⟩)).tr (hf2.mono (fun a b q => ⟨q.1, Or.inr q.2⟩))).wr ⟨rfl, Or.inl rfl⟩
end PP
