def cnt (k : Nat) (q hr : Int32) : Int32 := if k = 0 then 5 else if k = 1 then (if q = 1 then 8 else 5) else if k = 2 then 10 else if k = 3 then (if hr - hr / 2 * 2 = 0 then 3 else 5) else if k = 4 then (if hr - hr / 4 * 4 = 0 then 0 else if q = 1 then 8 else 5) else 6
def wrk (k : Nat) (s : Int32) : Int32 := if k = 0 then 2 else if k = 1 then 1 else if k = 2 then 2 + s else if k = 3 then 2 else if k = 4 then 1 else (2 + s) / 2
theorem C_cnt {k : Nat} (hk : k < 6) (q hr : Int32) : x_K_contentBy k q hr = some (cnt k q hr) := by
  rcases (show k = 0 ∨ k = 1 ∨ k = 2 ∨ k = 3 ∨ k = 4 ∨ k = 5 by omega) with rfl | rfl | rfl | rfl | rfl | rfl
  · rfl
  · show (if q = 1 then some ((5 : Int32) + 3) else some 5) = some (if q = 1 then 8 else 5)
    split <;> rfl
  · rfl
  · show (if hr - hr / 2 * 2 = 0 then some ((5 : Int32) - 2) else some 5) = some (if hr - hr / 2 * 2 = 0 then 3 else 5)
    split <;> rfl
  · show (if hr - hr / 4 * 4 = 0 then some 0 else Option.bind (if q = 1 then some ((5 : Int32) + 3) else some 5) (fun v => some v)) = some (if hr - hr / 4 * 4 = 0 then 0 else if q = 1 then 8 else 5)
    split
    · rfl
    · split <;> rfl
  · rfl
theorem C_wrk {k : Nat} (hk : k < 6) (s : Int32) : x_K_workOn k s = some (wrk k s) := by
  rcases (show k = 0 ∨ k = 1 ∨ k = 2 ∨ k = 3 ∨ k = 4 ∨ k = 5 by omega) with rfl | rfl | rfl | rfl | rfl | rfl <;> rfl
theorem M_cnt {k : Nat} (hk : k < 6) (q hr : Int32) : x_X11_contentBy (nI k) q hr = some (cnt k q hr) := by
  rcases (show k = 0 ∨ k = 1 ∨ k = 2 ∨ k = 3 ∨ k = 4 ∨ k = 5 by omega) with rfl | rfl | rfl | rfl | rfl | rfl
  · rfl
  · show (if q = 1 then some (8 : Int32) else some 5) = some (if q = 1 then 8 else 5)
    split <;> rfl
  · rfl
  · show (if hr - hr / 2 * 2 = 0 then some (3 : Int32) else some 5) = some (if hr - hr / 2 * 2 = 0 then 3 else 5)
    split <;> rfl
  · show (if hr - hr / 4 * 4 = 0 then some 0 else (if q = 1 then some (8 : Int32) else some 5)) = some (if hr - hr / 4 * 4 = 0 then 0 else if q = 1 then 8 else 5)
    split
    · rfl
    · split <;> rfl
  · rfl
def ctT (T : Nat → Nat → Int32) (hr : Int32) (w g : Nat) : Int32 := cnt (T 1 w).toNatClampNeg (T 1 g) hr
def coT (n : Nat) (T : Nat → Nat → Int32) (hr : Int32) (w : Nat) : Int32 := if srv n T w < n then ctT T hr w (srv n T w) else 0
def wkT (T : Nat → Nat → Int32) (g : Nat) (s : Int32) : Int32 := wrk (T 1 g).toNatClampNeg s
def cN (p : Nat → Bool) : Nat → Nat
  | 0 => 0
  | n + 1 => cN p n + (if p n = true then 1 else 0)
theorem cN_le (p : Nat → Bool) : ∀ n, cN p n ≤ n
  | 0 => Nat.le_refl _
  | n + 1 => by
    have := cN_le p n
    unfold cN
    split <;> omega
section PH2
variable {M : gMem} {c n : Nat} {T : Nat → Nat → Int32}
theorem C_cb (h : HC M c n T) (hW : WFT n T) {w g : Nat} (hw : w < n) (hg : g < n) : x_X1_contentBy M c (nI w) (nI g) = some (ctT T (M.1 c 0 14) w g) := by
  have hn := hW.1
  obtain ⟨k, hk, e⟩ := (hW.2 w hw).1
  unfold x_X1_contentBy ctT
  rw [gd_i (gin_n (by omega) (by omega)), nI_clamp (by omega), (h.2 w hw).1, e, gd_i (gin_n hk (by omega)), gd_i (gin_n (by omega) (by omega)), nI_clamp (by omega), nI_clamp (by omega), (h.2 g hg).1, C_cnt hk]
  rfl
theorem C_co (h : HC M c n T) (hW : WFT n T) {w : Nat} (hw : w < n) : x_X1_contentOf M c (nI w) = some (coT n T (M.1 c 0 14) w) := by
  have hn := hW.1
  unfold x_X1_contentOf
  rw [C_srv h hW hw]
  unfold srvI coT
  by_cases hs : srv n T w < n
  · rw [if_pos hs, if_pos hs]
    show (if nI (srv n T w) = -1 then some 0 else Option.bind (x_X1_contentBy M c (nI w) (nI (srv n T w))) (fun v4 => some v4)) = _
    rw [if_neg (nI_nm1 (by omega)), C_cb h hW hw hs]
    rfl
  · rw [if_neg hs, if_neg hs]
    rfl
theorem nI_nlt0 {a : Nat} (ha : a < 2 ^ 31) : ¬ nI a < 0 := nI_pos ha
theorem M_co (h : HM M n T) (hW : WFT n T) {w : Nat} (hw : w < n) : x_X11_contentOf M (nI w) (srvI n T w) = some (coT n T (M.1 0 60 0) w) := by
  have hn := hW.1
  obtain ⟨k, hk, e⟩ := (hW.2 w hw).1
  unfold x_X11_contentOf srvI coT
  by_cases hs : srv n T w < n
  · rw [if_pos hs, if_pos hs, if_pos (nI_pos' (by omega)), show (17 : Int32) + nI w = nI (17 + w) from nI_add 17 w, show (17 : Int32) + nI (srv n T w) = nI (17 + srv n T w) from nI_add 17 _, gd_i (gin_n (by omega) (by omega)), gd_i (gin_n (by omega) (by omega)), nI_clamp (by omega), nI_clamp (by omega), (h.2 w hw).1, (h.2 _ hs).1, e, M_cnt hk]
    unfold ctT
    rw [e, nI_clamp (by omega)]
    rfl
  · rw [if_neg hs, if_neg hs]
    rfl
/-- the content of w, were it served by g -/
theorem M_ct (h : HM M n T) (hW : WFT n T) {w g : Nat} (hw : w < n) (hg : g < n) : x_X11_contentOf M (nI w) (nI g) = some (ctT T (M.1 0 60 0) w g) := by
  have hn := hW.1
  obtain ⟨k, hk, e⟩ := (hW.2 w hw).1
  unfold x_X11_contentOf
  rw [if_pos (nI_pos' (by omega)), show (17 : Int32) + nI w = nI (17 + w) from nI_add 17 w, show (17 : Int32) + nI g = nI (17 + g) from nI_add 17 _, gd_i (gin_n (by omega) (by omega)), gd_i (gin_n (by omega) (by omega)), nI_clamp (by omega), nI_clamp (by omega), (h.2 w hw).1, (h.2 _ hg).1, e, M_cnt hk]
  unfold ctT
  rw [e, nI_clamp (by omega)]
  rfl
theorem C_wk (h : HC M c n T) (hW : WFT n T) {g : Nat} (hg : g < n) (s : Int32) : x_X1_workFor M c (nI g) s = some (wkT T g s) := by
  have hn := hW.1
  obtain ⟨k, hk, e⟩ := (hW.2 g hg).1
  unfold x_X1_workFor wkT
  rw [gd_i (gin_n (by omega) (by omega)), nI_clamp (by omega), (h.2 g hg).1, e, gd_i (gin_n hk (by omega)), nI_clamp (by omega), C_wrk hk]
  rfl
theorem M_wk (h : HM M n T) (hW : WFT n T) {g : Nat} (hg : g < n) (s : Int32) : x_X11_workBy M (nI g) s = some (wkT T g s) := by
  have hn := hW.1
  obtain ⟨k, hk, e⟩ := (hW.2 g hg).1
  unfold x_X11_workBy wkT
  rw [show (17 : Int32) + nI g = nI (17 + g) from nI_add 17 g, gd_i (gin_n (by omega) (by omega)), nI_clamp (by omega), (h.2 g hg).1, e, nI_clamp (by omega)]
  rcases (show k = 0 ∨ k = 1 ∨ k = 2 ∨ k = 3 ∨ k = 4 ∨ k = 5 by omega) with rfl | rfl | rfl | rfl | rfl | rfl <;> rfl
def isS (n : Nat) (T : Nat → Nat → Int32) (w : Nat) : Bool := decide (srv n T w < n)
theorem C_sc (h : HC M c n T) (hW : WFT n T) : x_X1_servedCount M c = some (nI (cN (isS n T) n)) := by
  have hn := hW.1
  unfold x_X1_servedCount
  refine (bindS (itr_tr (fun i => (nI (cN (isS n T) i), nI i)) n (nI (cN (isS n T) n), nI n) rfl (by omega) (fun i hi => ?_) ?_)).trans rfl
  · show s_X1_servedCount_4 M c (nI (cN (isS n T) i)) (nI i) = _
    unfold s_X1_servedCount_4 j_X1_servedCount_4_24
    rw [h.1, if_neg (by rw [nI_leI (by omega) (by omega)]; omega), C_srv h hW hi]
    show (if srvI n T i = -1 then some (Sum.inl (nI (cN (isS n T) i), nI i + 1)) else some (Sum.inl (nI (cN (isS n T) i) + 1, nI i + 1))) = some (Sum.inl (nI (cN (isS n T) (i + 1)), nI (i + 1)))
    unfold srvI
    by_cases hs : srv n T i < n
    · rw [if_pos hs, if_neg (nI_nm1 (by omega)), nI_1, nI_1]
      simp [cN, isS, hs]
    · rw [if_neg hs, if_pos rfl, nI_1]
      simp [cN, isS, hs]
  · show s_X1_servedCount_4 M c (nI (cN (isS n T) n)) (nI n) = _
    unfold s_X1_servedCount_4
    rw [h.1, if_pos (by rw [nI_leI (by omega) (by omega)]; omega)]
theorem M_sc (h : HM M n T) (hW : WFT n T) : x_X11_servedMany M = some (nI (cN (isS n T) n)) := by
  have hn := hW.1
  unfold x_X11_servedMany
  refine (bindS (itr_tr (fun i => (nI (cN (isS n T) i), nI i)) n (nI (cN (isS n T) n), nI n) rfl (by omega) (fun i hi => ?_) ?_)).trans rfl
  · show s_X11_servedMany_4 M (nI (cN (isS n T) i)) (nI i) = _
    unfold s_X11_servedMany_4 j_X11_servedMany_4_29
    rw [h.1, if_neg (by rw [nI_leI (by omega) (by omega)]; omega), M_srv h hW hi]
    show (if srvI n T i < 0 then some (Sum.inl (nI (cN (isS n T) i) + 0, nI i + 1)) else some (Sum.inl (nI (cN (isS n T) i) + 1, nI i + 1))) = some (Sum.inl (nI (cN (isS n T) (i + 1)), nI (i + 1)))
    unfold srvI
    by_cases hs : srv n T i < n
    · rw [if_pos hs, if_neg (nI_pos (by omega)), nI_1, nI_1]
      simp [cN, isS, hs]
    · rw [if_neg hs, if_pos (by decide), nI_1]
      simp [cN, isS, hs]
  · show s_X11_servedMany_4 M (nI (cN (isS n T) n)) (nI n) = _
    unfold s_X11_servedMany_4
    rw [h.1, if_pos (by rw [nI_leI (by omega) (by omega)]; omega)]
end PH2
