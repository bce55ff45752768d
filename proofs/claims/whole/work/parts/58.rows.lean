section RWA
variable {M : gMem} {n : Nat} {T : Nat → Nat → Int32}
theorem big_iff {ok : Nat → Nat → Bool} {cst : Nat → Nat → Int} (hc : ∀ i j, -10 ≤ cst i j ∧ cst i j ≤ 10) (hn : n ≤ 7) : Lc n ok cst n 0 = BIG ↔ ctR ok n (fac n) = 0 := by
  have hB := BIG_e
  constructor
  · intro h
    refine ctR_1 (fun t ht => ?_)
    cases ho : okF n ok n 0 t
    · rfl
    · have h1 := mn_lb (vF n ok cst n 0) ht
      have h2 : vF n ok cst n 0 t = coF n cst n 0 t := by unfold vF; rw [ho, if_pos rfl]
      have h3 := co_b (m := n) hc n 0 t
      have h4 : Lc n ok cst n 0 = fd mn BIG (vF n ok cst n 0) (fac n) := rfl
      omega
  · intro h
    unfold Lc
    rw [fd_cong (g := fun _ => BIG) _ (fun t ht => by unfold vF; rw [ctR_0 h t ht]; rfl)]
    exact fd_e (by decide) _
theorem co_z {m : Nat} : ∀ d u s, coF m (fun _ _ => 0) d u s = 0
  | 0, _, _ => rfl
  | d + 1, u, s => by rw [coF_s, co_z d]; rfl
theorem am_z {ok : Nat → Nat → Bool} {s : Nat} (hA : isAM (vF n ok (fun _ _ => 0) n 0) (fac n) s) (hL : Lc n ok (fun _ _ => 0) n 0 ≠ BIG) : okF n ok n 0 s = true ∧ ∀ t, t < s → okF n ok n 0 t = false := by
  obtain ⟨h1, h2, h3⟩ := hA
  have hz : ∀ t, okF n ok n 0 t = true → vF n ok (fun _ _ => 0) n 0 t = 0 := fun t ht => by unfold vF; rw [ht, if_pos rfl, co_z]
  have hos : okF n ok n 0 s = true := by
    cases ho : okF n ok n 0 s
    · exfalso
      apply hL
      unfold Lc
      rw [← h2]
      unfold vF
      rw [ho]; rfl
    · rfl
  refine ⟨hos, fun t ht => ?_⟩
  cases ho : okF n ok n 0 t
  · rfl
  · exact absurd ((hz t ho).trans ((hz s hos).symm.trans h2)) (h3 t ht)
/-- what the class gathers for everybody -/
theorem C_ga (hC : HC M 0 n T) (hW : WFT n T) (goal : Int32) {cst : Nat → Nat → Int} (hcost : ∀ K, fr PG M K → ∀ i j, i < n → j < n → x_X7_costOf K 0 (nI i) (nI j) goal = some (iI (cst i j))) : ∃ N, x_X7_gather M 0 127 goal = some N ∧ RWS N n (okA T n) cst ∧ (∀ i, i < n → N.1 0 39 i = nI i) ∧ fr PG M N := by
  have hn := hW.1
  have e : fc (127 - 127) n = n := fc0 n
  obtain ⟨N, n1, n2, n3, n4⟩ := C_gath (M := M) (c := 0) (n := n) (T := T) ⟨hC.1, fun g hg => ⟨(hC.2 g hg).2.1, (hC.2 g hg).2.2.1⟩⟩ hn (a := 127) (by omega) goal (cst := cst) (fun K f i j hi hj => by
    rw [e] at hi hj
    have e1 : nx n (127 - 127) i = i := nx0 hi
    have e2 : nx n (127 - 127) j = j := nx0 hj
    rw [e1, e2]
    exact hcost K f i j hi hj)
  rw [e] at n2 n3
  exact ⟨N, n1, n2, fun i hi => by rw [n3 i hi]; exact congrArg nI (nx0 hi), n4⟩
theorem HC.pg {K : gMem} (h : HC M 0 n T) (f : fr PG M K) : HC K 0 n T := by
  refine ⟨by rw [f.2 0 0 (by omega)]; exact h.1, fun g hg => ?_⟩
  rw [f.2 0 1 (by omega), f.2 0 2 (by omega), f.2 0 3 (by omega), f.2 0 4 (by omega), f.2 0 5 (by omega)]
  exact h.2 g hg
theorem cW_cost (hC : HC M 0 n T) (hW : WFT n T) : ∀ K, fr PG M K → ∀ i j, i < n → j < n → x_X7_costOf K 0 (nI i) (nI j) 1 = some (iI (cW T n i j)) := by
  intro K f i j hi hj
  have hn := hW.1
  have hK := hC.pg f
  unfold x_X7_costOf cW
  rw [if_pos rfl, gd_i (gin_n (by omega) (by omega)), nI_clamp (by omega), (hK.2 j hj).2.1, if_pos ⟨hi, hj⟩, iI_toInt]
  exact (bindS (C_wk hK hW hi (T 2 j))).trans rfl
theorem cC_cost (hC : HC M 0 n T) (hW : WFT n T) : ∀ K, fr PG M K → ∀ i j, i < n → j < n → x_X7_costOf K 0 (nI i) (nI j) 2 = some (iI (cC T (M.1 0 0 14) n i j)) := by
  intro K f i j hi hj
  have hK := hC.pg f
  have e14 : K.1 0 0 14 = M.1 0 0 14 := by rw [f.2 0 0 (by omega)]
  unfold x_X7_costOf cC
  rw [if_neg (by decide), if_pos rfl, if_pos ⟨hi, hj⟩, ← iI_neg, iI_toInt]
  refine (bindS (C_cb hK hW hj hi)).trans ?_
  rw [e14]
theorem fin3 {A B : gMem} (h : INV M) (fA : fr (fun c o => c = 0 ∧ 38 ≤ o ∧ o < 50) M A) (hF : FR A n T (fac n) B) : INV B := by
  obtain ⟨_, _, _, _, _, _, _, f59, ff⟩ := hF
  refine h.sc ((fA.mono (fun c o q => ?_)).tr (ff.mono (fun c o q => ?_))) ?_ ?_
  · unfold SP; omega
  · unfold SP; omega
  · rw [f59 5 (by decide) (by decide) (by decide) (by decide), fA.2 0 59 (by omega)]
  · rw [f59 14 (by decide) (by decide) (by decide) (by decide), fA.2 0 59 (by omega)]
theorem zb : ∀ i j : Nat, -10 ≤ (fun _ _ => (0 : Int)) i j ∧ (fun _ _ => (0 : Int)) i j ≤ 10 := fun _ _ => ⟨show (-10 : Int) ≤ 0 by decide, show (0 : Int) ≤ 10 by decide⟩
theorem st_least {M} (h : INV M) : ∃ r1 r2, x_X10_least M = some r1 ∧ x_X11_least r1.2 = some r2 ∧ r1.1 = r2.1 ∧ INV r2.2 := by
  obtain ⟨⟨n, T, m, u, sl, ⟨hW, hC, hM, hh, hd⟩, hN, hU⟩, _⟩ := id h
  have hn := hW.1
  have hB := BIG_e
  have hcb : ∀ i j, -10 ≤ cW T n i j ∧ cW T n i j ≤ 10 := fun i j => by have := cW_b hW i j; omega
  obtain ⟨A, a1, a2, a3, a4⟩ := C_ga (M := M) hC hW 1 (cW_cost (M := M) hC hW)
  obtain ⟨B, b1, b2, b3⟩ := C_least a2 hcb hn
  have fB : fr (fun c o => c = 0 ∧ 38 ≤ o ∧ o < 50) M B := (a4.mono (fun c o q => ⟨q.1, by omega, by omega⟩)).tr (b2.mono (fun c o q => ⟨q.1, by omega, by omega⟩))
  have hMB : HM B n T := by unfold HM; rw [fB.2 0 60 (by omega)]; exact hM
  obtain ⟨C, c1, c2⟩ := M_find hMB hW
  have hLb := L_b (m := n) (ok := okA T n) hcb hn 0
  refine ⟨(lW (Lc n (okA T n) (cW T n) n 0), B), (C.1 0 59 20, C), ?_, ?_, ?_, fin3 h fB c2⟩
  · unfold x_X10_least
    refine (bindS a1).trans ((bindS b1).trans ?_)
    dsimp only
    unfold lW
    by_cases e : Lc n (okA T n) (cW T n) n 0 = BIG
    · rw [if_pos e, if_pos ((iI_big (by omega) (by omega)).mpr e)]
    · rw [if_neg e, if_neg (fun q => e ((iI_big (by omega) (by omega)).mp q))]
  · show x_X11_least B = _
    unfold x_X11_least
    exact (bindS c1).trans rfl
  · exact c2.2.2.2.1.symm
theorem st_all {M} (h : INV M) (a1 : Int32) : ∃ r1 r2, x_X10_all M a1 = some r1 ∧ x_X11_all r1.2 a1 = some r2 ∧ r1.1 = r2.1 ∧ INV r2.2 := by
  obtain ⟨⟨n, T, m, u, sl, ⟨hW, hC, hM, hh, hd⟩, hN, hU⟩, _⟩ := id h
  have hn := hW.1
  have hfb := fac_b n (by omega)
  have one0 : ¬ (1 : Int32) = 0 := by decide
  have hB : (rbM M 0).1 0 60 16 = nI n := by rw [rb60]; exact hM.1
  have hC1 : M.1 0 0 13 = nI n := hC.1
  obtain ⟨A, g1, g2, g3, g4⟩ := C_ga (M := M) hC hW 0 (cst := fun _ _ => 0) (fun _ _ _ _ _ _ => rfl)
  have ref : ∀ B, fr (fun c o => c = 0 ∧ 38 ≤ o ∧ o < 50) M B → B.1 0 60 16 = nI n ∧ ∃ C, x_X11_findRows B = some C ∧ FR B n T (fac n) C := fun B fB => by
    have hMB : HM B n T := by unfold HM; rw [fB.2 0 60 (by omega)]; exact hM
    exact ⟨hMB.1, M_find hMB hW⟩
  by_cases em : a1 = -1
  · obtain ⟨B, b1, b2⟩ := C_ways g2 hn
    have fB : fr (fun c o => c = 0 ∧ 38 ≤ o ∧ o < 50) M B := (g4.mono (fun c o q => ⟨q.1, by omega, by omega⟩)).tr (b2.mono (fun c o q => ⟨q.1, by omega, by omega⟩))
    obtain ⟨_, C, c1, c2⟩ := ref B fB
    refine ⟨(nI (Wy n (okA T n) n 0), B), (C.1 0 59 19, C), ?_, ?_, ?_, fin3 h fB c2⟩
    · unfold x_X10_all j_X10_all_23
      rw [if_pos em]
      refine (bindS g1).trans ?_
      rw [if_pos em]
      exact (bindS b1).trans rfl
    · show x_X11_all B _ = _
      unfold x_X11_all
      have io : x_X11_isOne B a1 = some 1 := by unfold x_X11_isOne; rw [if_pos em]
      refine (bindS io).trans ?_
      rw [if_neg one0]
      refine (bindS c1).trans ?_
      rw [if_neg (by rw [em]; decide)]
    · exact c2.2.2.1.symm
  · rcases guest_e a1 hn with ⟨g, hg, rfl, e1, e2⟩ | ⟨e1, e2⟩
    · obtain ⟨B, b2, hcase⟩ := C_dib g2 zb hn hg
      have fB : fr (fun c o => c = 0 ∧ 38 ≤ o ∧ o < 50) M B := (g4.mono (fun c o q => ⟨q.1, by omega, by omega⟩)).tr (b2.mono (fun c o q => ⟨q.1, by omega, by omega⟩))
      obtain ⟨hB16, C, c1, c2⟩ := ref B fB
      have io : x_X11_isOne B (nI g) = some 1 := by unfold x_X11_isOne; rw [if_neg em, e2 B hB16]; rfl
      have cls : ∀ v, x_X7_dutyInBest A (nI g) = some (v, B) → x_X10_all M (nI g) = some (v, B) := fun v hv => by
        unfold x_X10_all j_X10_all_23
        rw [if_neg em]
        refine (bindS (e1 M 0 hC1)).trans ?_
        rw [if_neg one0]
        refine (bindS g1).trans ?_
        rw [if_neg em]
        exact (bindS hv).trans rfl
      have rfe : x_X11_all B (nI g) = if C.1 0 59 19 = 0 then some (-1, C) else some (C.1 0 67 g, C) := by
        unfold x_X11_all
        refine (bindS io).trans ?_
        rw [if_neg one0]
        refine (bindS c1).trans ?_
        rw [if_pos (nI_pos' (by omega)), gd_i (gin_n (by omega) (by omega)), nI_clamp (by omega)]
      rcases hcase with ⟨hL, hv⟩ | ⟨hL, hv⟩
      · have h0 := (big_iff zb hn).mp hL
        refine ⟨_, (-1, C), cls _ hv, ?_, rfl, fin3 h fB c2⟩
        show x_X11_all B _ = _
        rw [rfe, c2.2.2.1, h0, if_pos (show nI 0 = 0 from rfl)]
      · have h0 : ctR (okA T n) n (fac n) ≠ 0 := fun q => hL ((big_iff zb hn).mpr q)
        have hle := ctR_le (okA T n) n (fac n)
        obtain ⟨s, hs⟩ := AM_ex (v := vF n (okA T n) (fun _ _ => 0) n 0) (n := fac n) hL
        obtain ⟨hlt, hv⟩ := hv s hs
        obtain ⟨z1, z2⟩ := am_z hs hL
        refine ⟨_, (C.1 0 67 g, C), cls _ hv, ?_, ?_, fin3 h fB c2⟩
        · show x_X11_all B _ = _
          rw [rfe, c2.2.2.1, if_neg (nI_ne0 (by omega) (by omega))]
        · show A.1 0 39 (rwF n n 0 s g) = C.1 0 67 g
          rw [g3 _ hlt, c2.2.2.2.2.2.1 s hs.1 z1 z2 g hg]
    · refine rfB h (x2 := fun N => x_X11_all N _) 0 (by decide) (-10) ?_ ?_
      · unfold x_X10_all; rw [if_neg em, e1 M 0 hC1]; rfl
      · show x_X11_all _ _ = _
        unfold x_X11_all
        have io : x_X11_isOne (rbM M 0) a1 = some 0 := by unfold x_X11_isOne; rw [if_neg em, e2 _ hB]; rfl
        rw [io]; rfl
theorem st_most {M} (h : INV M) (a1 : Int32) : ∃ r1 r2, x_X10_most M a1 = some r1 ∧ x_X11_most r1.2 a1 = some r2 ∧ r1.1 = r2.1 ∧ INV r2.2 := by
  obtain ⟨⟨n, T, m, u, sl, ⟨hW, hC, hM, hh, hd⟩, hN, hU⟩, _⟩ := id h
  have hn := hW.1
  have hBI := BIG_e
  have hfb := fac_b n (by omega)
  have one0 : ¬ (1 : Int32) = 0 := by decide
  have hB : (rbM M 0).1 0 60 16 = nI n := by rw [rb60]; exact hM.1
  have hC1 : M.1 0 0 13 = nI n := hC.1
  have hh' : M.1 0 0 14 = M.1 0 60 0 := hh
  have hcb : ∀ i j, -10 ≤ cC T (M.1 0 60 0) n i j ∧ cC T (M.1 0 60 0) n i j ≤ 10 := fun i j => by have := cC_b n T (M.1 0 60 0) i j; omega
  have hco := cC_cost (M := M) hC hW
  rw [hh'] at hco
  obtain ⟨A, g1, g2, g3, g4⟩ := C_ga (M := M) hC hW 2 hco
  have hLb := L_b (m := n) (ok := okA T n) hcb hn 0
  have ref : ∀ B, fr (fun c o => c = 0 ∧ 38 ≤ o ∧ o < 50) M B → B.1 0 60 16 = nI n ∧ ∃ C, x_X11_findRows B = some C ∧ FR B n T (fac n) C ∧ C.1 0 59 21 = lC (Lc n (okA T n) (cC T (M.1 0 60 0) n) n 0) ∧ ∀ s, isAM (vF n (okA T n) (cC T (M.1 0 60 0) n) n 0) (fac n) s → vF n (okA T n) (cC T (M.1 0 60 0) n) n 0 s ≠ BIG → ∀ g, g < n → C.1 0 68 g = nI (rwF n n 0 s g) := fun B fB => by
    have e60 := fB.2 0 60 (by omega)
    have hMB : HM B n T := by unfold HM; rw [e60]; exact hM
    obtain ⟨C, c1, c2⟩ := M_find hMB hW
    have c2' := c2
    obtain ⟨_, _, _, _, q1, _, q2, _, _⟩ := c2'
    unfold vC at q1 q2
    rw [e60] at q1 q2
    exact ⟨hMB.1, C, c1, c2, q1, q2⟩
  by_cases em : a1 = -1
  · obtain ⟨B, b1, b2, _⟩ := C_least g2 hcb hn
    have fB : fr (fun c o => c = 0 ∧ 38 ≤ o ∧ o < 50) M B := (g4.mono (fun c o q => ⟨q.1, by omega, by omega⟩)).tr (b2.mono (fun c o q => ⟨q.1, by omega, by omega⟩))
    obtain ⟨_, C, c1, c2, c3, _⟩ := ref B fB
    refine ⟨(lC (Lc n (okA T n) (cC T (M.1 0 60 0) n) n 0), B), (C.1 0 59 21, C), ?_, ?_, c3.symm, fin3 h fB c2⟩
    · unfold x_X10_most j_X10_most_23
      rw [if_pos em]
      refine (bindS g1).trans ?_
      rw [if_pos em]
      refine (bindS b1).trans ?_
      dsimp only
      unfold lC
      by_cases e : Lc n (okA T n) (cC T (M.1 0 60 0) n) n 0 = BIG
      · rw [if_pos e, if_pos ((iI_big (by omega) (by omega)).mpr e)]
      · rw [if_neg e, if_neg (fun q => e ((iI_big (by omega) (by omega)).mp q)), iI_neg]
    · show x_X11_most B _ = _
      unfold x_X11_most
      have io : x_X11_isOne B a1 = some 1 := by unfold x_X11_isOne; rw [if_pos em]
      refine (bindS io).trans ?_
      rw [if_neg one0]
      refine (bindS c1).trans ?_
      have e0 : ¬ 0 ≤ a1 := by rw [em]; decide
      rw [if_neg e0]
      split <;> rfl
  · rcases guest_e a1 hn with ⟨g, hg, rfl, e1, e2⟩ | ⟨e1, e2⟩
    · obtain ⟨B, b2, hcase⟩ := C_dib g2 hcb hn hg
      have fB : fr (fun c o => c = 0 ∧ 38 ≤ o ∧ o < 50) M B := (g4.mono (fun c o q => ⟨q.1, by omega, by omega⟩)).tr (b2.mono (fun c o q => ⟨q.1, by omega, by omega⟩))
      obtain ⟨hB16, C, c1, c2, c3, c4⟩ := ref B fB
      have io : x_X11_isOne B (nI g) = some 1 := by unfold x_X11_isOne; rw [if_neg em, e2 B hB16]; rfl
      have cls : ∀ v, x_X7_dutyInBest A (nI g) = some (v, B) → x_X10_most M (nI g) = some (v, B) := fun v hv => by
        unfold x_X10_most j_X10_most_23
        rw [if_neg em]
        refine (bindS (e1 M 0 hC1)).trans ?_
        rw [if_neg one0]
        refine (bindS g1).trans ?_
        rw [if_neg em]
        exact (bindS hv).trans rfl
      have rfe : x_X11_most B (nI g) = if C.1 0 59 19 = 0 then some (C.1 0 59 21, C) else some (C.1 0 68 g, C) := by
        unfold x_X11_most
        refine (bindS io).trans ?_
        rw [if_neg one0]
        refine (bindS c1).trans ?_
        rw [if_pos (nI_pos' (by omega)), gd_i (gin_n (by omega) (by omega)), nI_clamp (by omega)]
      rcases hcase with ⟨hL, hv⟩ | ⟨hL, hv⟩
      · have h0 := (big_iff hcb hn).mp hL
        refine ⟨_, (C.1 0 59 21, C), cls _ hv, ?_, ?_, fin3 h fB c2⟩
        · show x_X11_most B _ = _
          rw [rfe, c2.2.2.1, h0, if_pos (show nI 0 = 0 from rfl)]
        · show (-1 : Int32) = C.1 0 59 21
          rw [c3]
          unfold lC
          rw [if_pos hL]
      · have h0 : ctR (okA T n) n (fac n) ≠ 0 := fun q => hL ((big_iff hcb hn).mpr q)
        have hle := ctR_le (okA T n) n (fac n)
        obtain ⟨s, hs⟩ := AM_ex (v := vF n (okA T n) (cC T (M.1 0 60 0) n) n 0) (n := fac n) hL
        obtain ⟨hlt, hv⟩ := hv s hs
        refine ⟨_, (C.1 0 68 g, C), cls _ hv, ?_, ?_, fin3 h fB c2⟩
        · show x_X11_most B _ = _
          rw [rfe, c2.2.2.1, if_neg (nI_ne0 (by omega) (by omega))]
        · show A.1 0 39 (rwF n n 0 s g) = C.1 0 68 g
          rw [g3 _ hlt, c4 s hs (by rw [hs.2.1]; exact hL) g hg]
    · refine rfB h (x2 := fun N => x_X11_most N _) 0 (by decide) (-10) ?_ ?_
      · unfold x_X10_most; rw [if_neg em, e1 M 0 hC1]; rfl
      · show x_X11_most _ _ = _
        unfold x_X11_most
        have io : x_X11_isOne (rbM M 0) a1 = some 0 := by unfold x_X11_isOne; rw [if_neg em, e2 _ hB]; rfl
        rw [io]; rfl
end RWA
