section ST11
variable {M : gMem} {n : Nat} {T : Nat → Nat → Int32}
/-- w would rather have g than who serves it now -/
def rth (n : Nat) (T : Nat → Nat → Int32) (hr : Int32) (w s g : Nat) : Bool := decide (g ≠ w) && csv T g w && decide (¬ ctT T hr w g ≤ ctT T hr w s)
def wsw (n : Nat) (T : Nat → Nat → Int32) (hr : Int32) (i j : Nat) : Bool := decide (srv n T i < n) && decide (srv n T j < n) && rth n T hr i (srv n T i) (srv n T j) && rth n T hr j (srv n T j) (srv n T i)
theorem C_rth (h : HC M 0 n T) (hW : WFT n T) {w s g : Nat} (hw : w < n) (hs : s < n) (hg : g < n) : x_X1_wouldRather M 0 (nI w) (nI s) (nI g) = some (b2i (rth n T (M.1 0 0 14) w s g)) := by
  have hn := hW.1
  unfold x_X1_wouldRather rth
  by_cases e : g = w
  · subst e; rw [if_pos rfl]; simp [b2i]
  · rw [if_neg (nI_ne (by omega) (by omega) e), C_can h hW hg hw, C_cb h hW hw hg, C_cb h hW hw hs]
    show (if b2i (csv T g w) = 0 then some 0 else if ctT T (M.1 0 0 14) w g ≤ ctT T (M.1 0 0 14) w s then some 0 else some 1) = _
    cases csv T g w
    · simp [b2i]
    · by_cases q : ctT T (M.1 0 0 14) w g ≤ ctT T (M.1 0 0 14) w s
      · simp [b2i, q]
      · simp [b2i, q, e]
theorem C_wsw (h : HC M 0 n T) (hW : WFT n T) {i j : Nat} (hi : i < n) (hj : j < n) : x_X1_wouldSwap M 0 (nI i) (nI j) = some (b2i (wsw n T (M.1 0 0 14) i j)) := by
  have hn := hW.1
  unfold x_X1_wouldSwap wsw
  rw [C_srv h hW hi, C_srv h hW hj]
  show (if srvI n T i = -1 then some 0 else if srvI n T j = -1 then some 0 else _) = _
  unfold srvI
  by_cases ei : srv n T i < n
  · rw [if_pos ei]
    by_cases ej : srv n T j < n
    · rw [if_pos ej, if_neg (nI_nm1 (by omega)), if_neg (nI_nm1 (by omega)), C_rth h hW hi ei ej, C_rth h hW hj ej ei]
      show (if b2i (rth n T (M.1 0 0 14) i (srv n T i) (srv n T j)) = 0 then some 0 else if b2i (rth n T (M.1 0 0 14) j (srv n T j) (srv n T i)) = 0 then some 0 else some 1) = _
      simp only [ei, ej, decide_true, Bool.true_and]
      cases rth n T (M.1 0 0 14) i (srv n T i) (srv n T j) <;> cases rth n T (M.1 0 0 14) j (srv n T j) (srv n T i) <;> rfl
    · rw [if_neg ej, if_neg (nI_nm1 (by omega)), if_pos rfl]
      simp [ej, b2i]
  · rw [if_neg ei, if_pos rfl]
    simp [ei, b2i]
theorem M_gn (h : HM M n T) (hW : WFT n T) {w g : Nat} (hw : w < n) (hg : g < n) (hs : srv n T w < n) : x_X11_gains M (nI w) (nI g) = some (b2i (rth n T (M.1 0 60 0) w (srv n T w) g)) := by
  have hn := hW.1
  unfold x_X11_gains rth
  rw [M_can h hW hg hw, M_ct h hW hw hg, M_srv h hW hw]
  show (if b2i (decide (g ≠ w) && csv T g w) = 0 then some 0 else Option.bind (x_X11_contentOf M (nI w) (srvI n T w)) (fun v9 => if ctT T (M.1 0 60 0) w g ≤ v9 then some 0 else some 1)) = _
  rw [M_co h hW hw]
  unfold coT
  rw [if_pos hs]
  show (if b2i (decide (g ≠ w) && csv T g w) = 0 then some 0 else if ctT T (M.1 0 60 0) w g ≤ ctT T (M.1 0 60 0) w (srv n T w) then some 0 else some 1) = _
  cases (decide (g ≠ w) && csv T g w)
  · rfl
  · by_cases q : ctT T (M.1 0 60 0) w g ≤ ctT T (M.1 0 60 0) w (srv n T w)
    · simp [b2i, q]
    · simp [b2i, q]
theorem st_swap {M} (h : INV M) (a1 : Int32) : ∃ r1 r2, x_X10_swap M a1 = some r1 ∧ x_X11_swap r1.2 a1 = some r2 ∧ r1.1 = r2.1 ∧ INV r2.2 := by
  obtain ⟨⟨n, T, m, u, sl, ⟨hW, hC, hM, hh, hd⟩, hN, hU⟩, _⟩ := id h
  have hn := hW.1
  have hC1 : M.1 0 0 13 = nI n := hC.1
  have hM1 : M.1 0 60 16 = nI n := hM.1
  have hh' : M.1 0 0 14 = M.1 0 60 0 := hh
  by_cases c1 : (-1 : Int32) ≤ a1
  · -- the inner step of the reference, said with wsw
    have hin : ∀ i j (b : Int32), i < n → j < n → s_X11_swap_30 M a1 (nI i) b (nI j) = if b2i (wsw n T (M.1 0 0 14) i j) = 0 then some (.inl (b, nI j + 1)) else if b = a1 then some (.inr (.inr ((10 * nI i) + nI j, M))) else some (.inl (b + 1, nI j + 1)) := by
      intro i j b hi hj
      unfold s_X11_swap_30 j_X11_swap_30_104 wsw
      rw [hM1, if_neg (by rw [nI_leI (by omega) (by omega)]; omega), M_srv (M := M) hM hW hi, M_srv (M := M) hM hW hj, hh']
      show (if srvI n T i < 0 then _ else if srvI n T j < 0 then _ else _) = _
      by_cases ei : srv n T i < n
      · have si : srvI n T i = nI (srv n T i) := if_pos ei
        by_cases ej : srv n T j < n
        · have sj : srvI n T j = nI (srv n T j) := if_pos ej
          rw [si, sj, if_neg (nI_pos (by omega)), if_neg (nI_pos (by omega)), M_gn (M := M) hM hW hi ej ei, M_gn (M := M) hM hW hj ei ej]
          simp only [ei, ej, decide_true, Bool.true_and]
          show (if b2i (rth n T (M.1 0 60 0) i (srv n T i) (srv n T j)) = 0 then some (Sum.inl (b, nI j + 1)) else if b2i (rth n T (M.1 0 60 0) j (srv n T j) (srv n T i)) = 0 then some (Sum.inl (b, nI j + 1)) else if b = a1 then some (Sum.inr (Sum.inr ((10 * nI i) + nI j, M))) else some (Sum.inl (b + 1, nI j + 1))) = _
          cases rth n T (M.1 0 60 0) i (srv n T i) (srv n T j) <;> cases rth n T (M.1 0 60 0) j (srv n T j) (srv n T i) <;> rfl
        · have sj : srvI n T j = -1 := if_neg ej
          rw [si, sj, if_neg (nI_pos (by omega)), if_pos (by decide)]
          simp [ej, b2i]
      · have si : srvI n T i = -1 := if_neg ei
        rw [si, if_pos (by decide)]
        simp [ei, b2i]
    have hcl : ∀ i j (b : Int32), i < n → j < n → s_X10_swap_32 M a1 (nI i) b (nI j) = s_X11_swap_30 M a1 (nI i) b (nI j) := by
      intro i j b hi hj
      rw [hin i j b hi hj]
      unfold s_X10_swap_32 j_X10_swap_32_73
      rw [hC1, if_neg (by rw [nI_leI (by omega) (by omega)]; omega), C_wsw hC hW hi hj]
      rfl
    have inner : ∀ i (b : Int32), i < n → ∃ r, itr FU (fun s => s_X10_swap_32 M a1 (nI i) s.1 s.2) (b, nI (i + 1)) = some r ∧ itr FU (fun s => s_X11_swap_30 M a1 (nI i) s.1 s.2) (b, nI (i + 1)) = some r ∧ (∀ z, r = .inr z → z.2 = M) := by
      intro i b hi
      obtain ⟨r1, r2, e1, e2, rfl, hz⟩ := itr_rel (s1 := fun s : Int32 × Int32 => s_X10_swap_32 M a1 (nI i) s.1 s.2) (s2 := fun s : Int32 × Int32 => s_X11_swap_30 M a1 (nI i) s.1 s.2) (a := (b, nI (i + 1))) (b := (b, nI (i + 1))) (fun k x y => i + 1 + k ≤ n ∧ x = y ∧ x.2 = nI (i + 1 + k)) (fun x y => x = y ∧ ∀ z, x = .inr z → z.2 = M) n (by omega) ⟨by omega, rfl, rfl⟩ (by
        rintro k ⟨b1, b2⟩ y ⟨hk, rfl, rfl⟩
        dsimp only
        by_cases e : i + 1 + k = n
        · unfold s_X10_swap_32 s_X11_swap_30
          rw [hC1, hM1, e, if_pos (by rw [nI_leI (by omega) (by omega)]; omega), if_pos (by rw [nI_leI (by omega) (by omega)]; omega)]
          exact Or.inl ⟨_, _, rfl, rfl, rfl, fun z hz => by cases hz⟩
        · rw [hcl i _ b1 hi (by omega), hin i _ b1 hi (by omega)]
          by_cases q1 : b2i (wsw n T (M.1 0 0 14) i (i + 1 + k)) = 0
          · rw [if_pos q1]
            exact Or.inr ⟨by omega, _, _, rfl, rfl, by omega, rfl, nI_1 _⟩
          · rw [if_neg q1]
            by_cases q2 : b1 = a1
            · rw [if_pos q2]
              exact Or.inl ⟨_, _, rfl, rfl, rfl, fun z hz => by cases hz; rfl⟩
            · rw [if_neg q2]
              exact Or.inr ⟨by omega, _, _, rfl, rfl, by omega, rfl, nI_1 _⟩)
      exact ⟨r1, e1, e2, hz⟩
    obtain ⟨r1, r2, e1, e2, rfl, hz⟩ := itr_rel (s1 := fun s : Int32 × Int32 => s_X10_swap_16 M a1 s.1 s.2) (s2 := fun s : Int32 × Int32 => s_X11_swap_14 M a1 s.1 s.2) (a := ((0 : Int32), (0 : Int32))) (b := ((0 : Int32), (0 : Int32))) (fun k x y => k ≤ n ∧ x = y ∧ x.2 = nI k) (fun x y => x = y ∧ ∀ z, x = .inr z → z.2 = M) n (by omega) ⟨by omega, rfl, rfl⟩ (by
      rintro k ⟨b1, b2⟩ y ⟨hk, rfl, rfl⟩
      dsimp only
      unfold s_X10_swap_16 s_X11_swap_14
      rw [hC1, hM1]
      by_cases e : k = n
      · rw [e, if_pos (by rw [nI_leI (by omega) (by omega)]; omega), if_pos (by rw [nI_leI (by omega) (by omega)]; omega)]
        exact Or.inl ⟨_, _, rfl, rfl, rfl, fun z hz => by cases hz⟩
      · rw [if_neg (by rw [nI_leI (by omega) (by omega)]; omega), if_neg (by rw [nI_leI (by omega) (by omega)]; omega), nI_1]
        obtain ⟨r, r1, r2, rz⟩ := inner k b1 (by omega)
        rw [r1, r2]
        cases r with
        | inl s => exact Or.inr ⟨by omega, _, _, rfl, rfl, by omega, rfl, rfl⟩
        | inr z => exact Or.inl ⟨_, _, rfl, rfl, rfl, fun z' hz' => by cases hz'; exact rz z rfl⟩)
    cases r1 with
    | inr z =>
      have hz2 := hz z rfl
      have ez : z = (z.1, M) := by rw [← hz2]
      refine smB h (x2 := fun N => x_X11_swap N _) z.1 ?_ ?_
      · unfold x_X10_swap; rw [if_pos c1]; exact (bindS e1).trans (congrArg some ez)
      · show x_X11_swap _ _ = _
        unfold x_X11_swap; rw [if_pos c1]; exact (bindS e2).trans (congrArg some ez)
    | inl s =>
      by_cases q : a1 = -1
      · refine smB h (x2 := fun N => x_X11_swap N _) s.1 ?_ ?_
        · unfold x_X10_swap; rw [if_pos c1]; refine (bindS e1).trans ?_; show (if a1 = -1 then _ else _) = _; rw [if_pos q]
        · show x_X11_swap _ _ = _
          unfold x_X11_swap; rw [if_pos c1]; refine (bindS e2).trans ?_; show (if 0 ≤ a1 then _ else _) = _; rw [if_neg (by rw [q]; decide)]
      · have q0 : 0 ≤ a1 := by
          have z1 : (-1 : Int32).toInt = -1 := rfl
          have z0 : (0 : Int32).toInt = 0 := rfl
          have q' : ¬ a1.toInt = -1 := fun z => q (Int32.toInt_inj.mp (z.trans z1.symm))
          rw [i32_le] at c1 ⊢; omega
        refine smB h (x2 := fun N => x_X11_swap N _) (-5) ?_ ?_
        · unfold x_X10_swap; rw [if_pos c1]; refine (bindS e1).trans ?_; show (if a1 = -1 then _ else _) = _; rw [if_neg q]
        · show x_X11_swap _ _ = _
          unfold x_X11_swap; rw [if_pos c1]; refine (bindS e2).trans ?_; show (if 0 ≤ a1 then _ else _) = _; rw [if_pos q0]
  · refine rfB h (x2 := fun N => x_X11_swap N _) 0 (by decide) (-10) ?_ ?_
    · unfold x_X10_swap; rw [if_neg c1]; rfl
    · show x_X11_swap _ _ = _
      unfold x_X11_swap; rw [if_neg c1]; rfl
end ST11
