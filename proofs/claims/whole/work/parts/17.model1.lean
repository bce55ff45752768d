theorem dX11_in_0 : decode cX11_in 0 = .ok (.lload_n 0, 1) := by decide +kernel
theorem dX11_in_1 : decode cX11_in 1 = .ok (.lload_n 2, 1) := by decide +kernel
theorem dX11_in_2 : decode cX11_in 2 = .ok (.lcmp, 1) := by decide +kernel
theorem dX11_in_3 : decode cX11_in 3 = .ok (.ifCond .lt 14, 3) := by decide +kernel
theorem dX11_in_6 : decode cX11_in 6 = .ok (.lload_n 0, 1) := by decide +kernel
theorem dX11_in_7 : decode cX11_in 7 = .ok (.lload 4, 2) := by decide +kernel
theorem dX11_in_9 : decode cX11_in 9 = .ok (.lcmp, 1) := by decide +kernel
theorem dX11_in_10 : decode cX11_in 10 = .ok (.ifCond .gt 7, 3) := by decide +kernel
theorem dX11_in_13 : decode cX11_in 13 = .ok (.iconst 1, 1) := by decide +kernel
theorem dX11_in_14 : decode cX11_in 14 = .ok (.goto 4, 3) := by decide +kernel
theorem dX11_in_17 : decode cX11_in 17 = .ok (.iconst 0, 1) := by decide +kernel
theorem dX11_in_18 : decode cX11_in 18 = .ok (.ireturn, 1) := by decide +kernel
def x_X11_in (p0 : Int64) (p2 : Int64) (p4 : Int64) : Option Int32 := (if (lg_cmp p0 p2) < 0 then some 0 else (if 0 < (lg_cmp p0 p4) then some 0 else some 1))
set_option maxRecDepth 100000 in
set_option maxHeartbeats 4000000 in
theorem c_X11_in {l : Launch} {Y : gY} {M : gMem} {p0 : Int64} {p2 : Int64} {p4 : Int64} {r : Int32} (hx : x_X11_in p0 p2 p4 = some r) : Met l yX11_in (gws yX11_in cX11_in 6 (some .boolean)) { frames := 0, cells := 0, slots := 0, locals := 0 } (va_Pc [.long p0, .long p2, .long p4] (gS0 Y M)) (gQz Y (r, M)) 0 0 (gA Y) := by
  refine gmet (lv := [(0, .long p0), (2, .long p2), (4, .long p4)]) "GuestStaffModel" (by decide) rfl (Nat.le_of_ble_eq_true rfl) rfl (fun X hC hF => ?_)
  unfold x_X11_in at hx
  refine q_lload_n hC 0 dX11_in_0 rfl rfl ?_
  refine q_lload_n hC 1 dX11_in_1 rfl rfl ?_
  refine q_lcmp hC dX11_in_2 ?_
  refine q_if_lt hC 17 dX11_in_3 rfl (fun h1 => ?_) (fun h1 => ?_)
  · have hx := gi_p h1 hx
    refine q_iconst hC 0 dX11_in_17 rfl ?_
    exact q_zret hC hF dX11_in_18 (Or.inl rfl) (congrArg (fun z => (z, M)) (Option.some.inj hx))
  · have hx := gi_n h1 hx
    refine q_lload_n hC 0 dX11_in_6 rfl rfl ?_
    refine q_lload hC 2 dX11_in_7 rfl ?_
    refine q_lcmp hC dX11_in_9 ?_
    refine q_if_gt hC 17 dX11_in_10 rfl (fun h2 => ?_) (fun h2 => ?_)
    · have hx := gi_p h2 hx
      refine q_iconst hC 0 dX11_in_17 rfl ?_
      exact q_zret hC hF dX11_in_18 (Or.inl rfl) (congrArg (fun z => (z, M)) (Option.some.inj hx))
    · have hx := gi_n h2 hx
      refine q_iconst hC 1 dX11_in_13 rfl ?_
      refine q_goto hC 18 dX11_in_14 rfl ?_
      exact q_zret hC hF dX11_in_18 (Or.inr rfl) (congrArg (fun z => (z, M)) (Option.some.inj hx))

theorem dX11_has_0 : decode cX11_has 0 = .ok (.iload_n 0, 1) := by decide +kernel
theorem dX11_has_1 : decode cX11_has 1 = .ok (.iload_n 1, 1) := by decide +kernel
theorem dX11_has_2 : decode cX11_has 2 = .ok (.ishr, 1) := by decide +kernel
theorem dX11_has_3 : decode cX11_has 3 = .ok (.iconst 1, 1) := by decide +kernel
theorem dX11_has_4 : decode cX11_has 4 = .ok (.iand, 1) := by decide +kernel
theorem dX11_has_5 : decode cX11_has 5 = .ok (.iconst 1, 1) := by decide +kernel
theorem dX11_has_6 : decode cX11_has 6 = .ok (.if_icmp .ne 7, 3) := by decide +kernel
theorem dX11_has_9 : decode cX11_has 9 = .ok (.iconst 1, 1) := by decide +kernel
theorem dX11_has_10 : decode cX11_has 10 = .ok (.goto 4, 3) := by decide +kernel
theorem dX11_has_13 : decode cX11_has 13 = .ok (.iconst 0, 1) := by decide +kernel
theorem dX11_has_14 : decode cX11_has 14 = .ok (.ireturn, 1) := by decide +kernel
def x_X11_has (p0 : Int32) (p1 : Int32) : Option Int32 := (if ((p0 >>> (p1 &&& 31)) &&& 1) = 1 then some 1 else some 0)
set_option maxRecDepth 100000 in
set_option maxHeartbeats 4000000 in
theorem c_X11_has {l : Launch} {Y : gY} {M : gMem} {p0 : Int32} {p1 : Int32} {r : Int32} (hx : x_X11_has p0 p1 = some r) : Met l yX11_has (gws yX11_has cX11_has 2 (some .boolean)) { frames := 0, cells := 0, slots := 0, locals := 0 } (va_Pc [.int p0, .int p1] (gS0 Y M)) (gQz Y (r, M)) 0 0 (gA Y) := by
  refine gmet (lv := [(0, .int p0), (1, .int p1)]) "GuestStaffModel" (by decide) rfl (Nat.le_of_ble_eq_true rfl) rfl (fun X hC hF => ?_)
  unfold x_X11_has at hx
  refine q_iload_n hC 0 dX11_has_0 rfl rfl ?_
  refine q_iload_n hC 1 dX11_has_1 rfl rfl ?_
  refine q_ishr hC dX11_has_2 ?_
  refine q_iconst hC 1 dX11_has_3 rfl ?_
  refine q_iand hC dX11_has_4 ?_
  refine q_iconst hC 1 dX11_has_5 rfl ?_
  refine q_ic_ne hC 13 dX11_has_6 rfl (fun h1 => ?_) (fun h1 => ?_)
  · have hx := gi_n h1 hx
    refine q_iconst hC 0 dX11_has_13 rfl ?_
    exact q_zret hC hF dX11_has_14 (Or.inl rfl) (congrArg (fun z => (z, M)) (Option.some.inj hx))
  · have hx := gi_p h1 hx
    refine q_iconst hC 1 dX11_has_9 rfl ?_
    refine q_goto hC 14 dX11_has_10 rfl ?_
    exact q_zret hC hF dX11_has_14 (Or.inr rfl) (congrArg (fun z => (z, M)) (Option.some.inj hx))

theorem dX11_ones_0 : decode cX11_ones 0 = .ok (.iconst 0, 1) := by decide +kernel
theorem dX11_ones_1 : decode cX11_ones 1 = .ok (.istore_n 1, 1) := by decide +kernel
theorem dX11_ones_2 : decode cX11_ones 2 = .ok (.iload_n 0, 1) := by decide +kernel
theorem dX11_ones_3 : decode cX11_ones 3 = .ok (.istore_n 2, 1) := by decide +kernel
theorem dX11_ones_4 : decode cX11_ones 4 = .ok (.iload_n 2, 1) := by decide +kernel
theorem dX11_ones_5 : decode cX11_ones 5 = .ok (.ifCond .eq 15, 3) := by decide +kernel
theorem dX11_ones_8 : decode cX11_ones 8 = .ok (.iinc 1 1, 3) := by decide +kernel
theorem dX11_ones_11 : decode cX11_ones 11 = .ok (.iload_n 2, 1) := by decide +kernel
theorem dX11_ones_12 : decode cX11_ones 12 = .ok (.iload_n 2, 1) := by decide +kernel
theorem dX11_ones_13 : decode cX11_ones 13 = .ok (.iconst 1, 1) := by decide +kernel
theorem dX11_ones_14 : decode cX11_ones 14 = .ok (.isub, 1) := by decide +kernel
theorem dX11_ones_15 : decode cX11_ones 15 = .ok (.iand, 1) := by decide +kernel
theorem dX11_ones_16 : decode cX11_ones 16 = .ok (.istore_n 2, 1) := by decide +kernel
theorem dX11_ones_17 : decode cX11_ones 17 = .ok (.goto (-13), 3) := by decide +kernel
theorem dX11_ones_20 : decode cX11_ones 20 = .ok (.iload_n 1, 1) := by decide +kernel
theorem dX11_ones_21 : decode cX11_ones 21 = .ok (.ireturn, 1) := by decide +kernel
def s_X11_ones_4 (b1 : Int32) (b2 : Int32) : Option ((Int32 × Int32) ⊕ (Int32 × Int32)) := (if b2 = 0 then some (.inr (b1, b2)) else some (.inl (b1 + 1, b2 &&& (b2 - 1))))
def x_X11_ones (p0 : Int32) : Option Int32 := Option.bind (itr FU (fun s => s_X11_ones_4 s.1 s.2) (0, p0)) (fun e2 => some e2.1)
set_option maxRecDepth 100000 in
set_option maxHeartbeats 4000000 in
theorem w_X11_ones_4 {X : gX} {Y : gY} {M : gMem} {r : Int32} (hC : gC X Y cX11_ones "GuestStaffModel" 3 0 0) (hF : gF X Y (some .int) (gQi Y (r, M))) {e : (Int32 × Int32)} (kE : ∀ s : (Int32 × Int32), e = s → gWW X Y 3 20 [(1, .int s.1)] [] M) : ∀ (F : Nat) (s : (Int32 × Int32)), itr F (fun s => s_X11_ones_4 s.1 s.2) s = some e → gWW X Y 3 4 [(1, .int s.1), (2, .int s.2)] [] M := by
  intro F s
  refine itr_w (P := fun s => gWW X Y 3 4 [(1, .int s.1), (2, .int s.2)] [] M) (fun s o hx kI kx => ?_) F s
  obtain ⟨b1, b2⟩ := s
  have hx : s_X11_ones_4 b1 b2 = some o := hx
  have kE : ∀ s : (Int32 × Int32), o = .inr s → gWW X Y 3 20 [(1, .int s.1)] [] M := fun s q => kE s (kx _ q).symm
  unfold s_X11_ones_4 at hx
  refine q_iload_n hC 1 dX11_ones_4 rfl rfl ?_
  refine q_if_eq hC 20 dX11_ones_5 rfl (fun h1 => ?_) (fun h1 => ?_)
  · have hx := gi_p h1 hx
    exact q_sub [0] rfl (kE (b1, b2) (Option.some.inj hx).symm)
  · have hx := gi_n h1 hx
    refine q_iinc hC 0 1 [(1, .int (b1 + 1)), (2, .int b2)] dX11_ones_8 rfl rfl (by decide) rfl ?_
    refine q_iload_n hC 1 dX11_ones_11 rfl rfl ?_
    refine q_iload_n hC 1 dX11_ones_12 rfl rfl ?_
    refine q_iconst hC 1 dX11_ones_13 rfl ?_
    refine q_isub hC dX11_ones_14 ?_
    refine q_iand hC dX11_ones_15 ?_
    refine q_istore_n hC [(2, .int (b2 &&& (b2 - 1))), (1, .int (b1 + 1))] dX11_ones_16 rfl (by decide) rfl ?_
    refine q_goto hC 4 dX11_ones_17 rfl ?_
    exact q_sub [1, 0] rfl (kI (b1 + 1, b2 &&& (b2 - 1)) (Option.some.inj hx).symm)
set_option maxRecDepth 100000 in
set_option maxHeartbeats 4000000 in
theorem c_X11_ones {l : Launch} {Y : gY} {M : gMem} {p0 : Int32} {r : Int32} (hx : x_X11_ones p0 = some r) : Met l yX11_ones (gws yX11_ones cX11_ones 3 (some .int)) { frames := 0, cells := 0, slots := 0, locals := 0 } (va_Pc [.int p0] (gS0 Y M)) (gQi Y (r, M)) 0 0 (gA Y) := by
  refine gmet (lv := [(0, .int p0)]) "GuestStaffModel" (by decide) rfl (Nat.le_of_ble_eq_true rfl) rfl (fun X hC hF => ?_)
  unfold x_X11_ones at hx
  refine q_iconst hC 0 dX11_ones_0 rfl ?_
  refine q_istore_n hC [(1, .int 0), (0, .int p0)] dX11_ones_1 rfl (by decide) rfl ?_
  refine q_iload_n hC 1 dX11_ones_2 rfl rfl ?_
  refine q_istore_n hC [(2, .int p0), (1, .int 0), (0, .int p0)] dX11_ones_3 rfl (by decide) rfl ?_
  obtain ⟨e2, qe2, hx⟩ := gb_e hx
  refine q_sub [1, 0] rfl (w_X11_ones_4 hC hF (e := e2) (fun s q => ?_) _ _ qe2)
  · subst q
    refine q_iload_n hC 0 dX11_ones_20 rfl rfl ?_
    exact q_iret hC hF dX11_ones_21 (congrArg (fun z => (z, M)) (Option.some.inj hx))

theorem dX11_bad_0 : decode cX11_bad 0 = .ok (.aload_n 0, 1) := by decide +kernel
theorem dX11_bad_1 : decode cX11_bad 1 = .ok (.getfield 17, 3) := by decide +kernel
theorem dX11_bad_4 : decode cX11_bad 4 = .ok (.iconst 0, 1) := by decide +kernel
theorem dX11_bad_5 : decode cX11_bad 5 = .ok (.dup2, 1) := by decide +kernel
theorem dX11_bad_6 : decode cX11_bad 6 = .ok (.iaload, 1) := by decide +kernel
theorem dX11_bad_7 : decode cX11_bad 7 = .ok (.iconst 1, 1) := by decide +kernel
theorem dX11_bad_8 : decode cX11_bad 8 = .ok (.iadd, 1) := by decide +kernel
theorem dX11_bad_9 : decode cX11_bad 9 = .ok (.iastore, 1) := by decide +kernel
theorem dX11_bad_10 : decode cX11_bad 10 = .ok (.bipush (-2), 2) := by decide +kernel
theorem dX11_bad_12 : decode cX11_bad 12 = .ok (.ireturn, 1) := by decide +kernel
def x_X11_bad (M : gMem) : Option (Int32 × gMem) := some ((-2), gwr M 0 61 0 ((M.1 0 61 0) + 1))
set_option maxRecDepth 100000 in
set_option maxHeartbeats 4000000 in
theorem c_X11_bad {l : Launch} {Y : gY} {M : gMem} {r : (Int32 × gMem)} (hx : x_X11_bad M = some r) : Met l yX11_bad (gws yX11_bad cX11_bad 1 (some .int)) { frames := 0, cells := 0, slots := 0, locals := 0 } (va_Pc [.ref (gad Y 0 59)] (gS0 Y M)) (gQi Y r) 0 0 (gA Y) := by
  refine gmet (lv := [(0, .ref (gad Y 0 59))]) "GuestStaffModel" (by decide) rfl (Nat.le_of_ble_eq_true rfl) rfl (fun X hC hF => ?_)
  unfold x_X11_bad at hx
  refine q_aload_n hC 0 dX11_bad_0 rfl rfl ?_
  refine gf_X11_17 hC dX11_bad_1 ?_
  refine q_iconst hC 0 dX11_bad_4 rfl ?_
  refine q_dup2 hC dX11_bad_5 rfl rfl ?_
  refine q_ialdk hC 0 2 (gV_t (by decide) (by decide)) rfl (by decide) rfl dX11_bad_6 ?_
  refine q_iconst hC 1 dX11_bad_7 rfl ?_
  refine q_iadd hC dX11_bad_8 ?_
  refine q_iastk hC 0 2 (gV_t (by decide) (by decide)) rfl (by decide) rfl dX11_bad_9 ?_
  refine q_bipush hC (-2) dX11_bad_10 rfl ?_
  exact q_iret hC hF dX11_bad_12 (Option.some.inj hx)

theorem dX11_badFar_0 : decode cX11_badFar 0 = .ok (.aload_n 0, 1) := by decide +kernel
theorem dX11_badFar_1 : decode cX11_badFar 1 = .ok (.getfield 17, 3) := by decide +kernel
theorem dX11_badFar_4 : decode cX11_badFar 4 = .ok (.iconst 0, 1) := by decide +kernel
theorem dX11_badFar_5 : decode cX11_badFar 5 = .ok (.dup2, 1) := by decide +kernel
theorem dX11_badFar_6 : decode cX11_badFar 6 = .ok (.iaload, 1) := by decide +kernel
theorem dX11_badFar_7 : decode cX11_badFar 7 = .ok (.iconst 1, 1) := by decide +kernel
theorem dX11_badFar_8 : decode cX11_badFar 8 = .ok (.iadd, 1) := by decide +kernel
theorem dX11_badFar_9 : decode cX11_badFar 9 = .ok (.iastore, 1) := by decide +kernel
theorem dX11_badFar_10 : decode cX11_badFar 10 = .ok (.bipush (-10), 2) := by decide +kernel
theorem dX11_badFar_12 : decode cX11_badFar 12 = .ok (.ireturn, 1) := by decide +kernel
def x_X11_badFar (M : gMem) : Option (Int32 × gMem) := some ((-10), gwr M 0 61 0 ((M.1 0 61 0) + 1))
set_option maxRecDepth 100000 in
set_option maxHeartbeats 4000000 in
theorem c_X11_badFar {l : Launch} {Y : gY} {M : gMem} {r : (Int32 × gMem)} (hx : x_X11_badFar M = some r) : Met l yX11_badFar (gws yX11_badFar cX11_badFar 1 (some .int)) { frames := 0, cells := 0, slots := 0, locals := 0 } (va_Pc [.ref (gad Y 0 59)] (gS0 Y M)) (gQi Y r) 0 0 (gA Y) := by
  refine gmet (lv := [(0, .ref (gad Y 0 59))]) "GuestStaffModel" (by decide) rfl (Nat.le_of_ble_eq_true rfl) rfl (fun X hC hF => ?_)
  unfold x_X11_badFar at hx
  refine q_aload_n hC 0 dX11_badFar_0 rfl rfl ?_
  refine gf_X11_17 hC dX11_badFar_1 ?_
  refine q_iconst hC 0 dX11_badFar_4 rfl ?_
  refine q_dup2 hC dX11_badFar_5 rfl rfl ?_
  refine q_ialdk hC 0 2 (gV_t (by decide) (by decide)) rfl (by decide) rfl dX11_badFar_6 ?_
  refine q_iconst hC 1 dX11_badFar_7 rfl ?_
  refine q_iadd hC dX11_badFar_8 ?_
  refine q_iastk hC 0 2 (gV_t (by decide) (by decide)) rfl (by decide) rfl dX11_badFar_9 ?_
  refine q_bipush hC (-10) dX11_badFar_10 rfl ?_
  exact q_iret hC hF dX11_badFar_12 (Option.some.inj hx)

theorem dX11_no_0 : decode cX11_no 0 = .ok (.aload_n 0, 1) := by decide +kernel
theorem dX11_no_1 : decode cX11_no 1 = .ok (.getfield 17, 3) := by decide +kernel
theorem dX11_no_4 : decode cX11_no 4 = .ok (.iconst 1, 1) := by decide +kernel
theorem dX11_no_5 : decode cX11_no 5 = .ok (.dup2, 1) := by decide +kernel
theorem dX11_no_6 : decode cX11_no 6 = .ok (.iaload, 1) := by decide +kernel
theorem dX11_no_7 : decode cX11_no 7 = .ok (.iconst 1, 1) := by decide +kernel
theorem dX11_no_8 : decode cX11_no 8 = .ok (.iadd, 1) := by decide +kernel
theorem dX11_no_9 : decode cX11_no 9 = .ok (.iastore, 1) := by decide +kernel
theorem dX11_no_10 : decode cX11_no 10 = .ok (.bipush (-3), 2) := by decide +kernel
theorem dX11_no_12 : decode cX11_no 12 = .ok (.ireturn, 1) := by decide +kernel
def x_X11_no (M : gMem) : Option (Int32 × gMem) := some ((-3), gwr M 0 61 1 ((M.1 0 61 1) + 1))
set_option maxRecDepth 100000 in
set_option maxHeartbeats 4000000 in
theorem c_X11_no {l : Launch} {Y : gY} {M : gMem} {r : (Int32 × gMem)} (hx : x_X11_no M = some r) : Met l yX11_no (gws yX11_no cX11_no 1 (some .int)) { frames := 0, cells := 0, slots := 0, locals := 0 } (va_Pc [.ref (gad Y 0 59)] (gS0 Y M)) (gQi Y r) 0 0 (gA Y) := by
  refine gmet (lv := [(0, .ref (gad Y 0 59))]) "GuestStaffModel" (by decide) rfl (Nat.le_of_ble_eq_true rfl) rfl (fun X hC hF => ?_)
  unfold x_X11_no at hx
  refine q_aload_n hC 0 dX11_no_0 rfl rfl ?_
  refine gf_X11_17 hC dX11_no_1 ?_
  refine q_iconst hC 1 dX11_no_4 rfl ?_
  refine q_dup2 hC dX11_no_5 rfl rfl ?_
  refine q_ialdk hC 1 2 (gV_t (by decide) (by decide)) rfl (by decide) rfl dX11_no_6 ?_
  refine q_iconst hC 1 dX11_no_7 rfl ?_
  refine q_iadd hC dX11_no_8 ?_
  refine q_iastk hC 1 2 (gV_t (by decide) (by decide)) rfl (by decide) rfl dX11_no_9 ?_
  refine q_bipush hC (-3) dX11_no_10 rfl ?_
  exact q_iret hC hF dX11_no_12 (Option.some.inj hx)

theorem dX11_full_0 : decode cX11_full 0 = .ok (.aload_n 0, 1) := by decide +kernel
theorem dX11_full_1 : decode cX11_full 1 = .ok (.getfield 17, 3) := by decide +kernel
theorem dX11_full_4 : decode cX11_full 4 = .ok (.iconst 2, 1) := by decide +kernel
theorem dX11_full_5 : decode cX11_full 5 = .ok (.dup2, 1) := by decide +kernel
theorem dX11_full_6 : decode cX11_full 6 = .ok (.iaload, 1) := by decide +kernel
theorem dX11_full_7 : decode cX11_full 7 = .ok (.iconst 1, 1) := by decide +kernel
theorem dX11_full_8 : decode cX11_full 8 = .ok (.iadd, 1) := by decide +kernel
theorem dX11_full_9 : decode cX11_full 9 = .ok (.iastore, 1) := by decide +kernel
theorem dX11_full_10 : decode cX11_full 10 = .ok (.bipush (-4), 2) := by decide +kernel
theorem dX11_full_12 : decode cX11_full 12 = .ok (.ireturn, 1) := by decide +kernel
def x_X11_full (M : gMem) : Option (Int32 × gMem) := some ((-4), gwr M 0 61 2 ((M.1 0 61 2) + 1))
set_option maxRecDepth 100000 in
set_option maxHeartbeats 4000000 in
theorem c_X11_full {l : Launch} {Y : gY} {M : gMem} {r : (Int32 × gMem)} (hx : x_X11_full M = some r) : Met l yX11_full (gws yX11_full cX11_full 1 (some .int)) { frames := 0, cells := 0, slots := 0, locals := 0 } (va_Pc [.ref (gad Y 0 59)] (gS0 Y M)) (gQi Y r) 0 0 (gA Y) := by
  refine gmet (lv := [(0, .ref (gad Y 0 59))]) "GuestStaffModel" (by decide) rfl (Nat.le_of_ble_eq_true rfl) rfl (fun X hC hF => ?_)
  unfold x_X11_full at hx
  refine q_aload_n hC 0 dX11_full_0 rfl rfl ?_
  refine gf_X11_17 hC dX11_full_1 ?_
  refine q_iconst hC 2 dX11_full_4 rfl ?_
  refine q_dup2 hC dX11_full_5 rfl rfl ?_
  refine q_ialdk hC 2 2 (gV_t (by decide) (by decide)) rfl (by decide) rfl dX11_full_6 ?_
  refine q_iconst hC 1 dX11_full_7 rfl ?_
  refine q_iadd hC dX11_full_8 ?_
  refine q_iastk hC 2 2 (gV_t (by decide) (by decide)) rfl (by decide) rfl dX11_full_9 ?_
  refine q_bipush hC (-4) dX11_full_10 rfl ?_
  exact q_iret hC hF dX11_full_12 (Option.some.inj hx)

theorem dX11_isGuest_0 : decode cX11_isGuest 0 = .ok (.iload_n 1, 1) := by decide +kernel
theorem dX11_isGuest_1 : decode cX11_isGuest 1 = .ok (.i2l, 1) := by decide +kernel
theorem dX11_isGuest_2 : decode cX11_isGuest 2 = .ok (.lconst 0, 1) := by decide +kernel
theorem dX11_isGuest_3 : decode cX11_isGuest 3 = .ok (.aload_n 0, 1) := by decide +kernel
theorem dX11_isGuest_4 : decode cX11_isGuest 4 = .ok (.getfield 7, 3) := by decide +kernel
theorem dX11_isGuest_7 : decode cX11_isGuest 7 = .ok (.bipush 16, 2) := by decide +kernel
theorem dX11_isGuest_9 : decode cX11_isGuest 9 = .ok (.iaload, 1) := by decide +kernel
theorem dX11_isGuest_10 : decode cX11_isGuest 10 = .ok (.iconst 1, 1) := by decide +kernel
theorem dX11_isGuest_11 : decode cX11_isGuest 11 = .ok (.isub, 1) := by decide +kernel
theorem dX11_isGuest_12 : decode cX11_isGuest 12 = .ok (.i2l, 1) := by decide +kernel
theorem dX11_isGuest_13 : decode cX11_isGuest 13 = .ok (.invokestatic 57, 3) := by decide +kernel
theorem dX11_isGuest_16 : decode cX11_isGuest 16 = .ok (.ireturn, 1) := by decide +kernel
def x_X11_isGuest (M : gMem) (p1 : Int32) : Option Int32 := Option.bind (x_X11_in (Int32.toInt64 p1) 0 (Int32.toInt64 ((M.1 0 60 16) - 1))) (fun v1 => some v1)
set_option maxRecDepth 100000 in
set_option maxHeartbeats 4000000 in
theorem c_X11_isGuest {l : Launch} {Y : gY} {M : gMem} {p1 : Int32} {r : Int32} (hx : x_X11_isGuest M p1 = some r) : Met l yX11_isGuest (gws yX11_isGuest cX11_isGuest 2 (some .boolean)) { frames := 1, cells := 0, slots := 0, locals := 25 } (va_Pc [.ref (gad Y 0 59), .int p1] (gS0 Y M)) (gQz Y (r, M)) 0 0 (gA Y) := by
  refine gmet (lv := [(0, .ref (gad Y 0 59)), (1, .int p1)]) "GuestStaffModel" (by decide) rfl (Nat.le_of_ble_eq_true rfl) rfl (fun X hC hF => ?_)
  unfold x_X11_isGuest at hx
  refine q_iload_n hC 1 dX11_isGuest_0 rfl rfl ?_
  refine q_i2l hC dX11_isGuest_1 ?_
  refine q_lconst hC 0 dX11_isGuest_2 rfl ?_
  refine q_aload_n hC 0 dX11_isGuest_3 rfl rfl ?_
  refine gf_X11_7 hC dX11_isGuest_4 ?_
  refine q_bipush hC 16 dX11_isGuest_7 rfl ?_
  refine q_ialdk hC 16 69 (gV_t (by decide) (by decide)) rfl (by decide) rfl dX11_isGuest_9 ?_
  refine q_iconst hC 1 dX11_isGuest_10 rfl ?_
  refine q_isub hC dX11_isGuest_11 ?_
  refine q_i2l hC dX11_isGuest_12 ?_
  obtain ⟨v1, q2, hx⟩ := gb_e hx
  refine q_kzp (q_rS (As := [.long (Int32.toInt64 p1), .long 0, .long (Int32.toInt64 ((M.1 0 60 16) - 1))]) (rest := []) hC mm_X11_in wM_X11_57 (c_X11_in q2) ⟨rfl, rfl, Nat.le_of_ble_eq_true rfl, Nat.le_of_ble_eq_true rfl⟩ rfl rfl (Nat.le_of_ble_eq_true rfl) dX11_isGuest_13) (fun z3 => ?_)
  exact q_zret hC hF dX11_isGuest_16 z3 (congrArg (fun z => (z, M)) (Option.some.inj hx))

theorem dX11_everybody_0 : decode cX11_everybody 0 = .ok (.iconst 1, 1) := by decide +kernel
theorem dX11_everybody_1 : decode cX11_everybody 1 = .ok (.aload_n 0, 1) := by decide +kernel
theorem dX11_everybody_2 : decode cX11_everybody 2 = .ok (.getfield 7, 3) := by decide +kernel
theorem dX11_everybody_5 : decode cX11_everybody 5 = .ok (.bipush 16, 2) := by decide +kernel
theorem dX11_everybody_7 : decode cX11_everybody 7 = .ok (.iaload, 1) := by decide +kernel
theorem dX11_everybody_8 : decode cX11_everybody 8 = .ok (.ishl, 1) := by decide +kernel
theorem dX11_everybody_9 : decode cX11_everybody 9 = .ok (.iconst 1, 1) := by decide +kernel
theorem dX11_everybody_10 : decode cX11_everybody 10 = .ok (.isub, 1) := by decide +kernel
theorem dX11_everybody_11 : decode cX11_everybody 11 = .ok (.ireturn, 1) := by decide +kernel
def x_X11_everybody (M : gMem) : Option Int32 := some ((1 <<< ((M.1 0 60 16) &&& 31)) - 1)
set_option maxRecDepth 100000 in
set_option maxHeartbeats 4000000 in
theorem c_X11_everybody {l : Launch} {Y : gY} {M : gMem} {r : Int32} (hx : x_X11_everybody M = some r) : Met l yX11_everybody (gws yX11_everybody cX11_everybody 1 (some .int)) { frames := 0, cells := 0, slots := 0, locals := 0 } (va_Pc [.ref (gad Y 0 59)] (gS0 Y M)) (gQi Y (r, M)) 0 0 (gA Y) := by
  refine gmet (lv := [(0, .ref (gad Y 0 59))]) "GuestStaffModel" (by decide) rfl (Nat.le_of_ble_eq_true rfl) rfl (fun X hC hF => ?_)
  unfold x_X11_everybody at hx
  refine q_iconst hC 1 dX11_everybody_0 rfl ?_
  refine q_aload_n hC 0 dX11_everybody_1 rfl rfl ?_
  refine gf_X11_7 hC dX11_everybody_2 ?_
  refine q_bipush hC 16 dX11_everybody_5 rfl ?_
  refine q_ialdk hC 16 69 (gV_t (by decide) (by decide)) rfl (by decide) rfl dX11_everybody_7 ?_
  refine q_ishl hC dX11_everybody_8 ?_
  refine q_iconst hC 1 dX11_everybody_9 rfl ?_
  refine q_isub hC dX11_everybody_10 ?_
  exact q_iret hC hF dX11_everybody_11 (congrArg (fun z => (z, M)) (Option.some.inj hx))

theorem dX11_anew_0 : decode cX11_anew 0 = .ok (.iconst 0, 1) := by decide +kernel
theorem dX11_anew_1 : decode cX11_anew 1 = .ok (.istore_n 1, 1) := by decide +kernel
theorem dX11_anew_2 : decode cX11_anew 2 = .ok (.iload_n 1, 1) := by decide +kernel
theorem dX11_anew_3 : decode cX11_anew 3 = .ok (.bipush 70, 2) := by decide +kernel
theorem dX11_anew_5 : decode cX11_anew 5 = .ok (.if_icmp .ge 16, 3) := by decide +kernel
theorem dX11_anew_8 : decode cX11_anew 8 = .ok (.aload_n 0, 1) := by decide +kernel
theorem dX11_anew_9 : decode cX11_anew 9 = .ok (.getfield 7, 3) := by decide +kernel
theorem dX11_anew_12 : decode cX11_anew 12 = .ok (.iload_n 1, 1) := by decide +kernel
theorem dX11_anew_13 : decode cX11_anew 13 = .ok (.iconst 0, 1) := by decide +kernel
theorem dX11_anew_14 : decode cX11_anew 14 = .ok (.iastore, 1) := by decide +kernel
theorem dX11_anew_15 : decode cX11_anew 15 = .ok (.iinc 1 1, 3) := by decide +kernel
theorem dX11_anew_18 : decode cX11_anew 18 = .ok (.goto (-16), 3) := by decide +kernel
theorem dX11_anew_21 : decode cX11_anew 21 = .ok (.aload_n 0, 1) := by decide +kernel
theorem dX11_anew_22 : decode cX11_anew 22 = .ok (.iconst 0, 1) := by decide +kernel
theorem dX11_anew_23 : decode cX11_anew 23 = .ok (.putfield 61, 3) := by decide +kernel
theorem dX11_anew_26 : decode cX11_anew 26 = .ok (.return_, 1) := by decide +kernel
def s_X11_anew_2 (b1 : Int32) (N : gMem) : Option ((Int32 × gMem) ⊕ (Int32 × gMem)) := (if 70 ≤ b1 then some (.inr (b1, N)) else gd (gin b1 70) (some (.inl (b1 + 1, gwr N 0 60 (b1).toNatClampNeg 0))))
def x_X11_anew (M : gMem) : Option gMem := Option.bind (itr FU (fun s => s_X11_anew_2 s.1 s.2) (0, M)) (fun e3 => some (gwr e3.2 0 59 14 0))
set_option maxRecDepth 100000 in
set_option maxHeartbeats 4000000 in
theorem w_X11_anew_2 {X : gX} {Y : gY} {r : gMem} (hC : gC X Y cX11_anew "GuestStaffModel" 2 0 0) (hF : gF X Y none (gQv Y r)) {e : (Int32 × gMem)} (kE : ∀ s : (Int32 × gMem), e = s → gWW X Y 2 21 [(0, .ref (gad Y 0 59))] [] s.2) : ∀ (F : Nat) (s : (Int32 × gMem)), itr F (fun s => s_X11_anew_2 s.1 s.2) s = some e → gWW X Y 2 2 [(0, .ref (gad Y 0 59)), (1, .int s.1)] [] s.2 := by
  intro F s
  refine itr_w (P := fun s => gWW X Y 2 2 [(0, .ref (gad Y 0 59)), (1, .int s.1)] [] s.2) (fun s o hx kI kx => ?_) F s
  obtain ⟨b1, N⟩ := s
  have hx : s_X11_anew_2 b1 N = some o := hx
  have kE : ∀ s : (Int32 × gMem), o = .inr s → gWW X Y 2 21 [(0, .ref (gad Y 0 59))] [] s.2 := fun s q => kE s (kx _ q).symm
  unfold s_X11_anew_2 at hx
  refine q_iload_n hC 1 dX11_anew_2 rfl rfl ?_
  refine q_bipush hC 70 dX11_anew_3 rfl ?_
  refine q_ic_ge hC 21 dX11_anew_5 rfl (fun h1 => ?_) (fun h1 => ?_)
  · have hx := gi_p h1 hx
    exact q_sub [0] rfl (kE (b1, N) (Option.some.inj hx).symm)
  · have hx := gi_n h1 hx
    refine q_aload_n hC 0 dX11_anew_8 rfl rfl ?_
    refine gf_X11_7 hC dX11_anew_9 ?_
    refine q_iload_n hC 1 dX11_anew_12 rfl rfl ?_
    refine q_iconst hC 0 dX11_anew_13 rfl ?_
    have g2 := (gd_e hx).1
    have hx := (gd_e hx).2
    refine q_iast hC 69 (gV_t (by decide) (by decide)) rfl g2 dX11_anew_14 ?_
    refine q_iinc hC 1 1 [(1, .int (b1 + 1)), (0, .ref (gad Y 0 59))] dX11_anew_15 rfl rfl (by decide) rfl ?_
    refine q_goto hC 2 dX11_anew_18 rfl ?_
    exact q_sub [1, 0] rfl (kI (b1 + 1, gwr N 0 60 (b1).toNatClampNeg 0) (Option.some.inj hx).symm)
set_option maxRecDepth 100000 in
set_option maxHeartbeats 4000000 in
theorem c_X11_anew {l : Launch} {Y : gY} {M : gMem} {r : gMem} (hx : x_X11_anew M = some r) : Met l yX11_anew (gws yX11_anew cX11_anew 2 none) { frames := 0, cells := 0, slots := 0, locals := 0 } (va_Pc [.ref (gad Y 0 59)] (gS0 Y M)) (gQv Y r) 0 0 (gA Y) := by
  refine gmet (lv := [(0, .ref (gad Y 0 59))]) "GuestStaffModel" (by decide) rfl (Nat.le_of_ble_eq_true rfl) rfl (fun X hC hF => ?_)
  unfold x_X11_anew at hx
  refine q_iconst hC 0 dX11_anew_0 rfl ?_
  refine q_istore_n hC [(1, .int 0), (0, .ref (gad Y 0 59))] dX11_anew_1 rfl (by decide) rfl ?_
  obtain ⟨e3, qe3, hx⟩ := gb_e hx
  refine q_sub [1, 0] rfl (w_X11_anew_2 hC hF (e := e3) (fun s q => ?_) _ _ qe3)
  · subst q
    refine q_aload_n hC 0 dX11_anew_21 rfl rfl ?_
    refine q_iconst hC 0 dX11_anew_22 rfl ?_
    refine pf_X11_61 hC dX11_anew_23 ?_
    exact q_vret hC hF dX11_anew_26 (Option.some.inj hx)

theorem dX11_house_0 : decode cX11_house 0 = .ok (.aload_n 0, 1) := by decide +kernel
theorem dX11_house_1 : decode cX11_house 1 = .ok (.getfield 7, 3) := by decide +kernel
theorem dX11_house_4 : decode cX11_house 4 = .ok (.bipush 16, 2) := by decide +kernel
theorem dX11_house_6 : decode cX11_house 6 = .ok (.iaload, 1) := by decide +kernel
theorem dX11_house_7 : decode cX11_house 7 = .ok (.istore_n 1, 1) := by decide +kernel
theorem dX11_house_8 : decode cX11_house 8 = .ok (.aload_n 0, 1) := by decide +kernel
theorem dX11_house_9 : decode cX11_house 9 = .ok (.invokevirtual 65, 3) := by decide +kernel
theorem dX11_house_12 : decode cX11_house 12 = .ok (.iload_n 1, 1) := by decide +kernel
theorem dX11_house_13 : decode cX11_house 13 = .ok (.ireturn, 1) := by decide +kernel
def x_X11_house (M : gMem) : Option (Int32 × gMem) := Option.bind (x_X11_anew M) (fun v1 => some (M.1 0 60 16, v1))
set_option maxRecDepth 100000 in
set_option maxHeartbeats 4000000 in
theorem c_X11_house {l : Launch} {Y : gY} {M : gMem} {r : (Int32 × gMem)} (hx : x_X11_house M = some r) : Met l yX11_house (gws yX11_house cX11_house 2 (some .int)) { frames := 1, cells := 0, slots := 0, locals := 21 } (va_Pc [.ref (gad Y 0 59)] (gS0 Y M)) (gQi Y r) 0 0 (gA Y) := by
  refine gmet (lv := [(0, .ref (gad Y 0 59))]) "GuestStaffModel" (by decide) rfl (Nat.le_of_ble_eq_true rfl) rfl (fun X hC hF => ?_)
  unfold x_X11_house at hx
  refine q_aload_n hC 0 dX11_house_0 rfl rfl ?_
  refine gf_X11_7 hC dX11_house_1 ?_
  refine q_bipush hC 16 dX11_house_4 rfl ?_
  refine q_ialdk hC 16 69 (gV_t (by decide) (by decide)) rfl (by decide) rfl dX11_house_6 ?_
  refine q_istore_n hC [(1, .int (M.1 0 60 16)), (0, .ref (gad Y 0 59))] dX11_house_7 rfl (by decide) rfl ?_
  refine q_aload_n hC 1 dX11_house_8 rfl rfl ?_
  obtain ⟨v1, q2, hx⟩ := gb_e hx
  refine q_kv (q_rV (As := []) (rest := []) hC mm_X11_anew wM_X11_65 (c_X11_anew q2) ⟨rfl, rfl, Nat.le_of_ble_eq_true rfl, Nat.le_of_ble_eq_true rfl⟩ (gV_t (by decide) (by decide)) rfl rfl rfl rfl (Nat.le_of_ble_eq_true rfl) dX11_house_9) ?_
  refine q_iload_n hC 0 dX11_house_12 rfl rfl ?_
  exact q_iret hC hF dX11_house_13 (Option.some.inj hx)

theorem dX11_add_0 : decode cX11_add 0 = .ok (.aload_n 0, 1) := by decide +kernel
theorem dX11_add_1 : decode cX11_add 1 = .ok (.getfield 7, 3) := by decide +kernel
theorem dX11_add_4 : decode cX11_add 4 = .ok (.bipush 16, 2) := by decide +kernel
theorem dX11_add_6 : decode cX11_add 6 = .ok (.iaload, 1) := by decide +kernel
theorem dX11_add_7 : decode cX11_add 7 = .ok (.istore 4, 2) := by decide +kernel
theorem dX11_add_9 : decode cX11_add 9 = .ok (.aload_n 0, 1) := by decide +kernel
theorem dX11_add_10 : decode cX11_add 10 = .ok (.getfield 7, 3) := by decide +kernel
theorem dX11_add_13 : decode cX11_add 13 = .ok (.bipush 17, 2) := by decide +kernel
theorem dX11_add_15 : decode cX11_add 15 = .ok (.iload 4, 2) := by decide +kernel
theorem dX11_add_17 : decode cX11_add 17 = .ok (.iadd, 1) := by decide +kernel
theorem dX11_add_18 : decode cX11_add 18 = .ok (.iload_n 1, 1) := by decide +kernel
theorem dX11_add_19 : decode cX11_add 19 = .ok (.iastore, 1) := by decide +kernel
theorem dX11_add_20 : decode cX11_add 20 = .ok (.aload_n 0, 1) := by decide +kernel
theorem dX11_add_21 : decode cX11_add 21 = .ok (.getfield 7, 3) := by decide +kernel
theorem dX11_add_24 : decode cX11_add 24 = .ok (.bipush 24, 2) := by decide +kernel
theorem dX11_add_26 : decode cX11_add 26 = .ok (.iload 4, 2) := by decide +kernel
theorem dX11_add_28 : decode cX11_add 28 = .ok (.iadd, 1) := by decide +kernel
theorem dX11_add_29 : decode cX11_add 29 = .ok (.iload_n 2, 1) := by decide +kernel
theorem dX11_add_30 : decode cX11_add 30 = .ok (.iastore, 1) := by decide +kernel
theorem dX11_add_31 : decode cX11_add 31 = .ok (.aload_n 0, 1) := by decide +kernel
theorem dX11_add_32 : decode cX11_add 32 = .ok (.getfield 7, 3) := by decide +kernel
theorem dX11_add_35 : decode cX11_add 35 = .ok (.bipush 31, 2) := by decide +kernel
theorem dX11_add_37 : decode cX11_add 37 = .ok (.iload 4, 2) := by decide +kernel
theorem dX11_add_39 : decode cX11_add 39 = .ok (.iadd, 1) := by decide +kernel
theorem dX11_add_40 : decode cX11_add 40 = .ok (.iload_n 3, 1) := by decide +kernel
theorem dX11_add_41 : decode cX11_add 41 = .ok (.iastore, 1) := by decide +kernel
theorem dX11_add_42 : decode cX11_add 42 = .ok (.aload_n 0, 1) := by decide +kernel
theorem dX11_add_43 : decode cX11_add 43 = .ok (.getfield 7, 3) := by decide +kernel
theorem dX11_add_46 : decode cX11_add 46 = .ok (.iconst 2, 1) := by decide +kernel
theorem dX11_add_47 : decode cX11_add 47 = .ok (.iload 4, 2) := by decide +kernel
theorem dX11_add_49 : decode cX11_add 49 = .ok (.iadd, 1) := by decide +kernel
theorem dX11_add_50 : decode cX11_add 50 = .ok (.iconst (-1), 1) := by decide +kernel
theorem dX11_add_51 : decode cX11_add 51 = .ok (.iastore, 1) := by decide +kernel
theorem dX11_add_52 : decode cX11_add 52 = .ok (.aload_n 0, 1) := by decide +kernel
theorem dX11_add_53 : decode cX11_add 53 = .ok (.getfield 7, 3) := by decide +kernel
theorem dX11_add_56 : decode cX11_add 56 = .ok (.bipush 9, 2) := by decide +kernel
theorem dX11_add_58 : decode cX11_add 58 = .ok (.iload 4, 2) := by decide +kernel
theorem dX11_add_60 : decode cX11_add 60 = .ok (.iadd, 1) := by decide +kernel
theorem dX11_add_61 : decode cX11_add 61 = .ok (.bipush 10, 2) := by decide +kernel
theorem dX11_add_63 : decode cX11_add 63 = .ok (.iastore, 1) := by decide +kernel
theorem dX11_add_64 : decode cX11_add 64 = .ok (.aload_n 0, 1) := by decide +kernel
theorem dX11_add_65 : decode cX11_add 65 = .ok (.getfield 7, 3) := by decide +kernel
theorem dX11_add_68 : decode cX11_add 68 = .ok (.bipush 16, 2) := by decide +kernel
theorem dX11_add_70 : decode cX11_add 70 = .ok (.dup2, 1) := by decide +kernel
theorem dX11_add_71 : decode cX11_add 71 = .ok (.iaload, 1) := by decide +kernel
theorem dX11_add_72 : decode cX11_add 72 = .ok (.iconst 1, 1) := by decide +kernel
theorem dX11_add_73 : decode cX11_add 73 = .ok (.iadd, 1) := by decide +kernel
theorem dX11_add_74 : decode cX11_add 74 = .ok (.iastore, 1) := by decide +kernel
theorem dX11_add_75 : decode cX11_add 75 = .ok (.return_, 1) := by decide +kernel
def x_X11_add (M : gMem) (p1 : Int32) (p2 : Int32) (p3 : Int32) : Option gMem := gd (gin (17 + (M.1 0 60 16)) 70) (gd (gin (24 + (M.1 0 60 16)) 70) (gd (gin (31 + (M.1 0 60 16)) 70) (gd (gin (2 + (M.1 0 60 16)) 70) (gd (gin (9 + (M.1 0 60 16)) 70) (some (gwr (gwr (gwr (gwr (gwr (gwr M 0 60 (17 + (M.1 0 60 16)).toNatClampNeg p1) 0 60 (24 + (M.1 0 60 16)).toNatClampNeg p2) 0 60 (31 + (M.1 0 60 16)).toNatClampNeg p3) 0 60 (2 + (M.1 0 60 16)).toNatClampNeg (-1)) 0 60 (9 + (M.1 0 60 16)).toNatClampNeg 10) 0 60 16 (((gwr (gwr (gwr (gwr (gwr M 0 60 (17 + (M.1 0 60 16)).toNatClampNeg p1) 0 60 (24 + (M.1 0 60 16)).toNatClampNeg p2) 0 60 (31 + (M.1 0 60 16)).toNatClampNeg p3) 0 60 (2 + (M.1 0 60 16)).toNatClampNeg (-1)) 0 60 (9 + (M.1 0 60 16)).toNatClampNeg 10).1 0 60 16) + 1)))))))
set_option maxRecDepth 100000 in
set_option maxHeartbeats 4000000 in
theorem c_X11_add {l : Launch} {Y : gY} {M : gMem} {p1 : Int32} {p2 : Int32} {p3 : Int32} {r : gMem} (hx : x_X11_add M p1 p2 p3 = some r) : Met l yX11_add (gws yX11_add cX11_add 5 none) { frames := 0, cells := 0, slots := 0, locals := 0 } (va_Pc [.ref (gad Y 0 59), .int p1, .int p2, .int p3] (gS0 Y M)) (gQv Y r) 0 0 (gA Y) := by
  refine gmet (lv := [(0, .ref (gad Y 0 59)), (1, .int p1), (2, .int p2), (3, .int p3)]) "GuestStaffModel" (by decide) rfl (Nat.le_of_ble_eq_true rfl) rfl (fun X hC hF => ?_)
  unfold x_X11_add at hx
  refine q_aload_n hC 0 dX11_add_0 rfl rfl ?_
  refine gf_X11_7 hC dX11_add_1 ?_
  refine q_bipush hC 16 dX11_add_4 rfl ?_
  refine q_ialdk hC 16 69 (gV_t (by decide) (by decide)) rfl (by decide) rfl dX11_add_6 ?_
  refine q_istore hC [(4, .int (M.1 0 60 16)), (0, .ref (gad Y 0 59)), (1, .int p1), (2, .int p2), (3, .int p3)] dX11_add_7 (by decide) rfl ?_
  refine q_aload_n hC 1 dX11_add_9 rfl rfl ?_
  refine gf_X11_7 hC dX11_add_10 ?_
  refine q_bipush hC 17 dX11_add_13 rfl ?_
  refine q_iload hC 0 dX11_add_15 rfl ?_
  refine q_iadd hC dX11_add_17 ?_
  refine q_iload_n hC 2 dX11_add_18 rfl rfl ?_
  have g1 := (gd_e hx).1
  have hx := (gd_e hx).2
  refine q_iast hC 69 (gV_t (by decide) (by decide)) rfl g1 dX11_add_19 ?_
  refine q_aload_n hC 1 dX11_add_20 rfl rfl ?_
  refine gf_X11_7 hC dX11_add_21 ?_
  refine q_bipush hC 24 dX11_add_24 rfl ?_
  refine q_iload hC 0 dX11_add_26 rfl ?_
  refine q_iadd hC dX11_add_28 ?_
  refine q_iload_n hC 3 dX11_add_29 rfl rfl ?_
  have g2 := (gd_e hx).1
  have hx := (gd_e hx).2
  refine q_iast hC 69 (gV_t (by decide) (by decide)) rfl g2 dX11_add_30 ?_
  refine q_aload_n hC 1 dX11_add_31 rfl rfl ?_
  refine gf_X11_7 hC dX11_add_32 ?_
  refine q_bipush hC 31 dX11_add_35 rfl ?_
  refine q_iload hC 0 dX11_add_37 rfl ?_
  refine q_iadd hC dX11_add_39 ?_
  refine q_iload_n hC 4 dX11_add_40 rfl rfl ?_
  have g3 := (gd_e hx).1
  have hx := (gd_e hx).2
  refine q_iast hC 69 (gV_t (by decide) (by decide)) rfl g3 dX11_add_41 ?_
  refine q_aload_n hC 1 dX11_add_42 rfl rfl ?_
  refine gf_X11_7 hC dX11_add_43 ?_
  refine q_iconst hC 2 dX11_add_46 rfl ?_
  refine q_iload hC 0 dX11_add_47 rfl ?_
  refine q_iadd hC dX11_add_49 ?_
  refine q_iconst hC (-1) dX11_add_50 rfl ?_
  have g4 := (gd_e hx).1
  have hx := (gd_e hx).2
  refine q_iast hC 69 (gV_t (by decide) (by decide)) rfl g4 dX11_add_51 ?_
  refine q_aload_n hC 1 dX11_add_52 rfl rfl ?_
  refine gf_X11_7 hC dX11_add_53 ?_
  refine q_bipush hC 9 dX11_add_56 rfl ?_
  refine q_iload hC 0 dX11_add_58 rfl ?_
  refine q_iadd hC dX11_add_60 ?_
  refine q_bipush hC 10 dX11_add_61 rfl ?_
  have g5 := (gd_e hx).1
  have hx := (gd_e hx).2
  refine q_iast hC 69 (gV_t (by decide) (by decide)) rfl g5 dX11_add_63 ?_
  refine q_aload_n hC 1 dX11_add_64 rfl rfl ?_
  refine gf_X11_7 hC dX11_add_65 ?_
  refine q_bipush hC 16 dX11_add_68 rfl ?_
  refine q_dup2 hC dX11_add_70 rfl rfl ?_
  refine q_ialdk hC 16 69 (gV_t (by decide) (by decide)) rfl (by decide) rfl dX11_add_71 ?_
  refine q_iconst hC 1 dX11_add_72 rfl ?_
  refine q_iadd hC dX11_add_73 ?_
  refine q_iastk hC 16 69 (gV_t (by decide) (by decide)) rfl (by decide) rfl dX11_add_74 ?_
  exact q_vret hC hF dX11_add_75 (Option.some.inj hx)

theorem dX11_guest_0 : decode cX11_guest 0 = .ok (.iload_n 1, 1) := by decide +kernel
theorem dX11_guest_1 : decode cX11_guest 1 = .ok (.i2l, 1) := by decide +kernel
theorem dX11_guest_2 : decode cX11_guest 2 = .ok (.lconst 0, 1) := by decide +kernel
theorem dX11_guest_3 : decode cX11_guest 3 = .ok (.ldc2_w 68, 3) := by decide +kernel
theorem dX11_guest_6 : decode cX11_guest 6 = .ok (.invokestatic 57, 3) := by decide +kernel
theorem dX11_guest_9 : decode cX11_guest 9 = .ok (.ifCond .eq 27, 3) := by decide +kernel
theorem dX11_guest_12 : decode cX11_guest 12 = .ok (.iload_n 2, 1) := by decide +kernel
theorem dX11_guest_13 : decode cX11_guest 13 = .ok (.i2l, 1) := by decide +kernel
theorem dX11_guest_14 : decode cX11_guest 14 = .ok (.lconst 0, 1) := by decide +kernel
theorem dX11_guest_15 : decode cX11_guest 15 = .ok (.ldc2_w 70, 3) := by decide +kernel
theorem dX11_guest_18 : decode cX11_guest 18 = .ok (.invokestatic 57, 3) := by decide +kernel
theorem dX11_guest_21 : decode cX11_guest 21 = .ok (.ifCond .eq 15, 3) := by decide +kernel
theorem dX11_guest_24 : decode cX11_guest 24 = .ok (.iload_n 3, 1) := by decide +kernel
theorem dX11_guest_25 : decode cX11_guest 25 = .ok (.i2l, 1) := by decide +kernel
theorem dX11_guest_26 : decode cX11_guest 26 = .ok (.lconst 0, 1) := by decide +kernel
theorem dX11_guest_27 : decode cX11_guest 27 = .ok (.ldc2_w 72, 3) := by decide +kernel
theorem dX11_guest_30 : decode cX11_guest 30 = .ok (.invokestatic 57, 3) := by decide +kernel
theorem dX11_guest_33 : decode cX11_guest 33 = .ok (.ifCond .ne 8, 3) := by decide +kernel
theorem dX11_guest_36 : decode cX11_guest 36 = .ok (.aload_n 0, 1) := by decide +kernel
theorem dX11_guest_37 : decode cX11_guest 37 = .ok (.invokevirtual 74, 3) := by decide +kernel
theorem dX11_guest_40 : decode cX11_guest 40 = .ok (.ireturn, 1) := by decide +kernel
theorem dX11_guest_41 : decode cX11_guest 41 = .ok (.aload_n 0, 1) := by decide +kernel
theorem dX11_guest_42 : decode cX11_guest 42 = .ok (.getfield 7, 3) := by decide +kernel
theorem dX11_guest_45 : decode cX11_guest 45 = .ok (.bipush 16, 2) := by decide +kernel
theorem dX11_guest_47 : decode cX11_guest 47 = .ok (.iaload, 1) := by decide +kernel
theorem dX11_guest_48 : decode cX11_guest 48 = .ok (.bipush 7, 2) := by decide +kernel
theorem dX11_guest_50 : decode cX11_guest 50 = .ok (.if_icmp .ne 8, 3) := by decide +kernel
theorem dX11_guest_53 : decode cX11_guest 53 = .ok (.aload_n 0, 1) := by decide +kernel
theorem dX11_guest_54 : decode cX11_guest 54 = .ok (.invokevirtual 78, 3) := by decide +kernel
theorem dX11_guest_57 : decode cX11_guest 57 = .ok (.ireturn, 1) := by decide +kernel
theorem dX11_guest_58 : decode cX11_guest 58 = .ok (.aload_n 0, 1) := by decide +kernel
theorem dX11_guest_59 : decode cX11_guest 59 = .ok (.iload_n 1, 1) := by decide +kernel
theorem dX11_guest_60 : decode cX11_guest 60 = .ok (.iload_n 2, 1) := by decide +kernel
theorem dX11_guest_61 : decode cX11_guest 61 = .ok (.iload_n 3, 1) := by decide +kernel
theorem dX11_guest_62 : decode cX11_guest 62 = .ok (.invokevirtual 81, 3) := by decide +kernel
theorem dX11_guest_65 : decode cX11_guest 65 = .ok (.aload_n 0, 1) := by decide +kernel
theorem dX11_guest_66 : decode cX11_guest 66 = .ok (.iconst 0, 1) := by decide +kernel
theorem dX11_guest_67 : decode cX11_guest 67 = .ok (.putfield 61, 3) := by decide +kernel
theorem dX11_guest_70 : decode cX11_guest 70 = .ok (.aload_n 0, 1) := by decide +kernel
theorem dX11_guest_71 : decode cX11_guest 71 = .ok (.getfield 7, 3) := by decide +kernel
theorem dX11_guest_74 : decode cX11_guest 74 = .ok (.bipush 16, 2) := by decide +kernel
theorem dX11_guest_76 : decode cX11_guest 76 = .ok (.iaload, 1) := by decide +kernel
theorem dX11_guest_77 : decode cX11_guest 77 = .ok (.iconst 1, 1) := by decide +kernel
theorem dX11_guest_78 : decode cX11_guest 78 = .ok (.isub, 1) := by decide +kernel
theorem dX11_guest_79 : decode cX11_guest 79 = .ok (.ireturn, 1) := by decide +kernel
def j_X11_guest_36 (M : gMem) (p1 : Int32) (p2 : Int32) (p3 : Int32) (N : gMem) : Option (Int32 × gMem) := Option.bind (x_X11_bad N) (fun v5 => some (v5.1, v5.2))
def x_X11_guest (M : gMem) (p1 : Int32) (p2 : Int32) (p3 : Int32) : Option (Int32 × gMem) := Option.bind (x_X11_in (Int32.toInt64 p1) 0 5) (fun v1 => (if v1 = 0 then j_X11_guest_36 M p1 p2 p3 M else Option.bind (x_X11_in (Int32.toInt64 p2) 0 7) (fun v7 => (if v7 = 0 then j_X11_guest_36 M p1 p2 p3 M else Option.bind (x_X11_in (Int32.toInt64 p3) 0 255) (fun v11 => (if v11 = 0 then j_X11_guest_36 M p1 p2 p3 M else (if (M.1 0 60 16) = 7 then Option.bind (x_X11_full M) (fun v18 => some (v18.1, v18.2)) else Option.bind (x_X11_add M p1 p2 p3) (fun v16 => some (((gwr v16 0 59 14 0).1 0 60 16) - 1, gwr v16 0 59 14 0)))))))))
set_option maxRecDepth 100000 in
set_option maxHeartbeats 4000000 in
theorem c_X11_guest {l : Launch} {Y : gY} {M : gMem} {p1 : Int32} {p2 : Int32} {p3 : Int32} {r : (Int32 × gMem)} (hx : x_X11_guest M p1 p2 p3 = some r) : Met l yX11_guest (gws yX11_guest cX11_guest 4 (some .int)) { frames := 1, cells := 0, slots := 0, locals := 25 } (va_Pc [.ref (gad Y 0 59), .int p1, .int p2, .int p3] (gS0 Y M)) (gQi Y r) 0 0 (gA Y) := by
  refine gmet (lv := [(0, .ref (gad Y 0 59)), (1, .int p1), (2, .int p2), (3, .int p3)]) "GuestStaffModel" (by decide) rfl (Nat.le_of_ble_eq_true rfl) rfl (fun X hC hF => ?_)
  have J36 : ∀ (N : gMem) , j_X11_guest_36 M p1 p2 p3 N = some r → gWW X Y 4 36 [(0, .ref (gad Y 0 59))] [] N := by
    intro N hx
    unfold j_X11_guest_36 at hx
    refine q_aload_n hC 0 dX11_guest_36 rfl rfl ?_
    obtain ⟨v5, q6, hx⟩ := gb_e hx
    refine q_ki (q_rV (As := []) (rest := []) hC mm_X11_bad wM_X11_74 (c_X11_bad q6) ⟨rfl, rfl, Nat.le_of_ble_eq_true rfl, Nat.le_of_ble_eq_true rfl⟩ (gV_t (by decide) (by decide)) rfl rfl rfl rfl (Nat.le_of_ble_eq_true rfl) dX11_guest_37) ?_
    exact q_iret hC hF dX11_guest_40 (Option.some.inj hx)
  unfold x_X11_guest at hx
  refine q_iload_n hC 1 dX11_guest_0 rfl rfl ?_
  refine q_i2l hC dX11_guest_1 ?_
  refine q_lconst hC 0 dX11_guest_2 rfl ?_
  refine q_ldc2 hC 5 dX11_guest_3 wC_X11_68 ?_
  obtain ⟨v1, q2, hx⟩ := gb_e hx
  refine q_kzp (q_rS (As := [.long (Int32.toInt64 p1), .long 0, .long 5]) (rest := []) hC mm_X11_in wM_X11_57 (c_X11_in q2) ⟨rfl, rfl, Nat.le_of_ble_eq_true rfl, Nat.le_of_ble_eq_true rfl⟩ rfl rfl (Nat.le_of_ble_eq_true rfl) dX11_guest_6) (fun z3 => ?_)
  refine q_if_eq hC 36 dX11_guest_9 rfl (fun h4 => ?_) (fun h4 => ?_)
  · have hx := gi_p h4 hx
    exact q_sub [0] rfl (J36 M hx)
  · have hx := gi_n h4 hx
    refine q_iload_n hC 2 dX11_guest_12 rfl rfl ?_
    refine q_i2l hC dX11_guest_13 ?_
    refine q_lconst hC 0 dX11_guest_14 rfl ?_
    refine q_ldc2 hC 7 dX11_guest_15 wC_X11_70 ?_
    obtain ⟨v7, q8, hx⟩ := gb_e hx
    refine q_kzp (q_rS (As := [.long (Int32.toInt64 p2), .long 0, .long 7]) (rest := []) hC mm_X11_in wM_X11_57 (c_X11_in q8) ⟨rfl, rfl, Nat.le_of_ble_eq_true rfl, Nat.le_of_ble_eq_true rfl⟩ rfl rfl (Nat.le_of_ble_eq_true rfl) dX11_guest_18) (fun z9 => ?_)
    refine q_if_eq hC 36 dX11_guest_21 rfl (fun h10 => ?_) (fun h10 => ?_)
    · have hx := gi_p h10 hx
      exact q_sub [0] rfl (J36 M hx)
    · have hx := gi_n h10 hx
      refine q_iload_n hC 3 dX11_guest_24 rfl rfl ?_
      refine q_i2l hC dX11_guest_25 ?_
      refine q_lconst hC 0 dX11_guest_26 rfl ?_
      refine q_ldc2 hC 255 dX11_guest_27 wC_X11_72 ?_
      obtain ⟨v11, q12, hx⟩ := gb_e hx
      refine q_kzp (q_rS (As := [.long (Int32.toInt64 p3), .long 0, .long 255]) (rest := []) hC mm_X11_in wM_X11_57 (c_X11_in q12) ⟨rfl, rfl, Nat.le_of_ble_eq_true rfl, Nat.le_of_ble_eq_true rfl⟩ rfl rfl (Nat.le_of_ble_eq_true rfl) dX11_guest_30) (fun z13 => ?_)
      refine q_if_ne hC 41 dX11_guest_33 rfl (fun h14 => ?_) (fun h14 => ?_)
      · have hx := gi_n h14 hx
        refine q_aload_n hC 0 dX11_guest_41 rfl rfl ?_
        refine gf_X11_7 hC dX11_guest_42 ?_
        refine q_bipush hC 16 dX11_guest_45 rfl ?_
        refine q_ialdk hC 16 69 (gV_t (by decide) (by decide)) rfl (by decide) rfl dX11_guest_47 ?_
        refine q_bipush hC 7 dX11_guest_48 rfl ?_
        refine q_ic_ne hC 58 dX11_guest_50 rfl (fun h15 => ?_) (fun h15 => ?_)
        · have hx := gi_n h15 hx
          refine q_aload_n hC 0 dX11_guest_58 rfl rfl ?_
          refine q_iload_n hC 1 dX11_guest_59 rfl rfl ?_
          refine q_iload_n hC 2 dX11_guest_60 rfl rfl ?_
          refine q_iload_n hC 3 dX11_guest_61 rfl rfl ?_
          obtain ⟨v16, q17, hx⟩ := gb_e hx
          refine q_kv (q_rV (As := [.int p1, .int p2, .int p3]) (rest := []) hC mm_X11_add wM_X11_81 (c_X11_add q17) ⟨rfl, rfl, Nat.le_of_ble_eq_true rfl, Nat.le_of_ble_eq_true rfl⟩ (gV_t (by decide) (by decide)) rfl rfl rfl rfl (Nat.le_of_ble_eq_true rfl) dX11_guest_62) ?_
          refine q_aload_n hC 0 dX11_guest_65 rfl rfl ?_
          refine q_iconst hC 0 dX11_guest_66 rfl ?_
          refine pf_X11_61 hC dX11_guest_67 ?_
          refine q_aload_n hC 0 dX11_guest_70 rfl rfl ?_
          refine gf_X11_7 hC dX11_guest_71 ?_
          refine q_bipush hC 16 dX11_guest_74 rfl ?_
          refine q_ialdk hC 16 69 (gV_t (by decide) (by decide)) rfl (by decide) rfl dX11_guest_76 ?_
          refine q_iconst hC 1 dX11_guest_77 rfl ?_
          refine q_isub hC dX11_guest_78 ?_
          exact q_iret hC hF dX11_guest_79 (Option.some.inj hx)
        · have hx := gi_p h15 hx
          refine q_aload_n hC 0 dX11_guest_53 rfl rfl ?_
          obtain ⟨v18, q19, hx⟩ := gb_e hx
          refine q_ki (q_rV (As := []) (rest := []) hC mm_X11_full wM_X11_78 (c_X11_full q19) ⟨rfl, rfl, Nat.le_of_ble_eq_true rfl, Nat.le_of_ble_eq_true rfl⟩ (gV_t (by decide) (by decide)) rfl rfl rfl rfl (Nat.le_of_ble_eq_true rfl) dX11_guest_54) ?_
          exact q_iret hC hF dX11_guest_57 (Option.some.inj hx)
      · have hx := gi_p h14 hx
        exact q_sub [0] rfl (J36 M hx)

theorem dX11_noteStep_0 : decode cX11_noteStep 0 = .ok (.aload_n 0, 1) := by decide +kernel
theorem dX11_noteStep_1 : decode cX11_noteStep 1 = .ok (.getfield 61, 3) := by decide +kernel
theorem dX11_noteStep_4 : decode cX11_noteStep 4 = .ok (.bipush 8, 2) := by decide +kernel
theorem dX11_noteStep_6 : decode cX11_noteStep 6 = .ok (.if_icmp .ne 42, 3) := by decide +kernel
theorem dX11_noteStep_9 : decode cX11_noteStep 9 = .ok (.iconst 0, 1) := by decide +kernel
theorem dX11_noteStep_10 : decode cX11_noteStep 10 = .ok (.istore_n 1, 1) := by decide +kernel
theorem dX11_noteStep_11 : decode cX11_noteStep 11 = .ok (.iload_n 1, 1) := by decide +kernel
theorem dX11_noteStep_12 : decode cX11_noteStep 12 = .ok (.bipush 112, 2) := by decide +kernel
theorem dX11_noteStep_14 : decode cX11_noteStep 14 = .ok (.if_icmp .ge 24, 3) := by decide +kernel
theorem dX11_noteStep_17 : decode cX11_noteStep 17 = .ok (.aload_n 0, 1) := by decide +kernel
theorem dX11_noteStep_18 : decode cX11_noteStep 18 = .ok (.getfield 26, 3) := by decide +kernel
theorem dX11_noteStep_21 : decode cX11_noteStep 21 = .ok (.iload_n 1, 1) := by decide +kernel
theorem dX11_noteStep_22 : decode cX11_noteStep 22 = .ok (.aload_n 0, 1) := by decide +kernel
theorem dX11_noteStep_23 : decode cX11_noteStep 23 = .ok (.getfield 26, 3) := by decide +kernel
theorem dX11_noteStep_26 : decode cX11_noteStep 26 = .ok (.iload_n 1, 1) := by decide +kernel
theorem dX11_noteStep_27 : decode cX11_noteStep 27 = .ok (.bipush 16, 2) := by decide +kernel
theorem dX11_noteStep_29 : decode cX11_noteStep 29 = .ok (.iadd, 1) := by decide +kernel
theorem dX11_noteStep_30 : decode cX11_noteStep 30 = .ok (.iaload, 1) := by decide +kernel
theorem dX11_noteStep_31 : decode cX11_noteStep 31 = .ok (.iastore, 1) := by decide +kernel
theorem dX11_noteStep_32 : decode cX11_noteStep 32 = .ok (.iinc 1 1, 3) := by decide +kernel
theorem dX11_noteStep_35 : decode cX11_noteStep 35 = .ok (.goto (-24), 3) := by decide +kernel
theorem dX11_noteStep_38 : decode cX11_noteStep 38 = .ok (.aload_n 0, 1) := by decide +kernel
theorem dX11_noteStep_39 : decode cX11_noteStep 39 = .ok (.dup, 1) := by decide +kernel
theorem dX11_noteStep_40 : decode cX11_noteStep 40 = .ok (.getfield 61, 3) := by decide +kernel
theorem dX11_noteStep_43 : decode cX11_noteStep 43 = .ok (.iconst 1, 1) := by decide +kernel
theorem dX11_noteStep_44 : decode cX11_noteStep 44 = .ok (.isub, 1) := by decide +kernel
theorem dX11_noteStep_45 : decode cX11_noteStep 45 = .ok (.putfield 61, 3) := by decide +kernel
theorem dX11_noteStep_48 : decode cX11_noteStep 48 = .ok (.iconst 0, 1) := by decide +kernel
theorem dX11_noteStep_49 : decode cX11_noteStep 49 = .ok (.istore_n 1, 1) := by decide +kernel
theorem dX11_noteStep_50 : decode cX11_noteStep 50 = .ok (.iload_n 1, 1) := by decide +kernel
theorem dX11_noteStep_51 : decode cX11_noteStep 51 = .ok (.bipush 16, 2) := by decide +kernel
theorem dX11_noteStep_53 : decode cX11_noteStep 53 = .ok (.if_icmp .ge 29, 3) := by decide +kernel
theorem dX11_noteStep_56 : decode cX11_noteStep 56 = .ok (.aload_n 0, 1) := by decide +kernel
theorem dX11_noteStep_57 : decode cX11_noteStep 57 = .ok (.getfield 26, 3) := by decide +kernel
theorem dX11_noteStep_60 : decode cX11_noteStep 60 = .ok (.bipush 16, 2) := by decide +kernel
theorem dX11_noteStep_62 : decode cX11_noteStep 62 = .ok (.aload_n 0, 1) := by decide +kernel
theorem dX11_noteStep_63 : decode cX11_noteStep 63 = .ok (.getfield 61, 3) := by decide +kernel
theorem dX11_noteStep_66 : decode cX11_noteStep 66 = .ok (.imul, 1) := by decide +kernel
theorem dX11_noteStep_67 : decode cX11_noteStep 67 = .ok (.iload_n 1, 1) := by decide +kernel
theorem dX11_noteStep_68 : decode cX11_noteStep 68 = .ok (.iadd, 1) := by decide +kernel
theorem dX11_noteStep_69 : decode cX11_noteStep 69 = .ok (.aload_n 0, 1) := by decide +kernel
theorem dX11_noteStep_70 : decode cX11_noteStep 70 = .ok (.getfield 7, 3) := by decide +kernel
theorem dX11_noteStep_73 : decode cX11_noteStep 73 = .ok (.iload_n 1, 1) := by decide +kernel
theorem dX11_noteStep_74 : decode cX11_noteStep 74 = .ok (.iaload, 1) := by decide +kernel
theorem dX11_noteStep_75 : decode cX11_noteStep 75 = .ok (.iastore, 1) := by decide +kernel
theorem dX11_noteStep_76 : decode cX11_noteStep 76 = .ok (.iinc 1 1, 3) := by decide +kernel
theorem dX11_noteStep_79 : decode cX11_noteStep 79 = .ok (.goto (-29), 3) := by decide +kernel
theorem dX11_noteStep_82 : decode cX11_noteStep 82 = .ok (.aload_n 0, 1) := by decide +kernel
theorem dX11_noteStep_83 : decode cX11_noteStep 83 = .ok (.dup, 1) := by decide +kernel
theorem dX11_noteStep_84 : decode cX11_noteStep 84 = .ok (.getfield 61, 3) := by decide +kernel
theorem dX11_noteStep_87 : decode cX11_noteStep 87 = .ok (.iconst 1, 1) := by decide +kernel
theorem dX11_noteStep_88 : decode cX11_noteStep 88 = .ok (.iadd, 1) := by decide +kernel
theorem dX11_noteStep_89 : decode cX11_noteStep 89 = .ok (.putfield 61, 3) := by decide +kernel
theorem dX11_noteStep_92 : decode cX11_noteStep 92 = .ok (.return_, 1) := by decide +kernel
def s_X11_noteStep_50 (b1 : Int32) (N : gMem) : Option ((Int32 × gMem) ⊕ (Int32 × gMem)) := (if 16 ≤ b1 then some (.inr (b1, N)) else gd (gin b1 70) (gd (gin ((16 * (N.1 0 59 14)) + b1) 128) (some (.inl (b1 + 1, gwr N 0 64 ((16 * (N.1 0 59 14)) + b1).toNatClampNeg (N.1 0 60 (b1).toNatClampNeg))))))
def j_X11_noteStep_48 (M : gMem) (N : gMem) : Option gMem := Option.bind (itr FU (fun s => s_X11_noteStep_50 s.1 s.2) (0, N)) (fun e5 => some (gwr e5.2 0 59 14 ((e5.2.1 0 59 14) + 1)))
def s_X11_noteStep_11 (b1 : Int32) (N : gMem) : Option ((Int32 × gMem) ⊕ (Int32 × gMem)) := (if 112 ≤ b1 then some (.inr (b1, N)) else gd (gin (b1 + 16) 128) (gd (gin b1 128) (some (.inl (b1 + 1, gwr N 0 64 (b1).toNatClampNeg (N.1 0 64 (b1 + 16).toNatClampNeg))))))
def x_X11_noteStep (M : gMem) : Option gMem := (if (M.1 0 59 14) = 8 then Option.bind (itr FU (fun s => s_X11_noteStep_11 s.1 s.2) (0, M)) (fun e9 => j_X11_noteStep_48 M (gwr e9.2 0 59 14 ((e9.2.1 0 59 14) - 1))) else j_X11_noteStep_48 M M)
set_option maxRecDepth 100000 in
set_option maxHeartbeats 4000000 in
theorem w_X11_noteStep_50 {X : gX} {Y : gY} {r : gMem} (hC : gC X Y cX11_noteStep "GuestStaffModel" 2 0 0) (hF : gF X Y none (gQv Y r)) {e : (Int32 × gMem)} (kE : ∀ s : (Int32 × gMem), e = s → gWW X Y 2 82 [(0, .ref (gad Y 0 59))] [] s.2) : ∀ (F : Nat) (s : (Int32 × gMem)), itr F (fun s => s_X11_noteStep_50 s.1 s.2) s = some e → gWW X Y 2 50 [(0, .ref (gad Y 0 59)), (1, .int s.1)] [] s.2 := by
  intro F s
  refine itr_w (P := fun s => gWW X Y 2 50 [(0, .ref (gad Y 0 59)), (1, .int s.1)] [] s.2) (fun s o hx kI kx => ?_) F s
  obtain ⟨b1, N⟩ := s
  have hx : s_X11_noteStep_50 b1 N = some o := hx
  have kE : ∀ s : (Int32 × gMem), o = .inr s → gWW X Y 2 82 [(0, .ref (gad Y 0 59))] [] s.2 := fun s q => kE s (kx _ q).symm
  unfold s_X11_noteStep_50 at hx
  refine q_iload_n hC 1 dX11_noteStep_50 rfl rfl ?_
  refine q_bipush hC 16 dX11_noteStep_51 rfl ?_
  refine q_ic_ge hC 82 dX11_noteStep_53 rfl (fun h2 => ?_) (fun h2 => ?_)
  · have hx := gi_p h2 hx
    exact q_sub [0] rfl (kE (b1, N) (Option.some.inj hx).symm)
  · have hx := gi_n h2 hx
    refine q_aload_n hC 0 dX11_noteStep_56 rfl rfl ?_
    refine gf_X11_26 hC dX11_noteStep_57 ?_
    refine q_bipush hC 16 dX11_noteStep_60 rfl ?_
    refine q_aload_n hC 0 dX11_noteStep_62 rfl rfl ?_
    refine gf_X11_61 hC dX11_noteStep_63 ?_
    refine q_imul hC dX11_noteStep_66 ?_
    refine q_iload_n hC 1 dX11_noteStep_67 rfl rfl ?_
    refine q_iadd hC dX11_noteStep_68 ?_
    refine q_aload_n hC 0 dX11_noteStep_69 rfl rfl ?_
    refine gf_X11_7 hC dX11_noteStep_70 ?_
    refine q_iload_n hC 1 dX11_noteStep_73 rfl rfl ?_
    have g3 := (gd_e hx).1
    have hx := (gd_e hx).2
    refine q_iald hC 69 (gV_t (by decide) (by decide)) rfl g3 dX11_noteStep_74 ?_
    have g4 := (gd_e hx).1
    have hx := (gd_e hx).2
    refine q_iast hC 127 (gV_t (by decide) (by decide)) rfl g4 dX11_noteStep_75 ?_
    refine q_iinc hC 1 1 [(1, .int (b1 + 1)), (0, .ref (gad Y 0 59))] dX11_noteStep_76 rfl rfl (by decide) rfl ?_
    refine q_goto hC 50 dX11_noteStep_79 rfl ?_
    exact q_sub [1, 0] rfl (kI (b1 + 1, gwr N 0 64 ((16 * (N.1 0 59 14)) + b1).toNatClampNeg (N.1 0 60 (b1).toNatClampNeg)) (Option.some.inj hx).symm)
set_option maxRecDepth 100000 in
set_option maxHeartbeats 4000000 in
theorem w_X11_noteStep_11 {X : gX} {Y : gY} {r : gMem} (hC : gC X Y cX11_noteStep "GuestStaffModel" 2 0 0) (hF : gF X Y none (gQv Y r)) {e : (Int32 × gMem)} (kE : ∀ s : (Int32 × gMem), e = s → gWW X Y 2 38 [(0, .ref (gad Y 0 59))] [] s.2) : ∀ (F : Nat) (s : (Int32 × gMem)), itr F (fun s => s_X11_noteStep_11 s.1 s.2) s = some e → gWW X Y 2 11 [(0, .ref (gad Y 0 59)), (1, .int s.1)] [] s.2 := by
  intro F s
  refine itr_w (P := fun s => gWW X Y 2 11 [(0, .ref (gad Y 0 59)), (1, .int s.1)] [] s.2) (fun s o hx kI kx => ?_) F s
  obtain ⟨b1, N⟩ := s
  have hx : s_X11_noteStep_11 b1 N = some o := hx
  have kE : ∀ s : (Int32 × gMem), o = .inr s → gWW X Y 2 38 [(0, .ref (gad Y 0 59))] [] s.2 := fun s q => kE s (kx _ q).symm
  unfold s_X11_noteStep_11 at hx
  refine q_iload_n hC 1 dX11_noteStep_11 rfl rfl ?_
  refine q_bipush hC 112 dX11_noteStep_12 rfl ?_
  refine q_ic_ge hC 38 dX11_noteStep_14 rfl (fun h6 => ?_) (fun h6 => ?_)
  · have hx := gi_p h6 hx
    exact q_sub [0] rfl (kE (b1, N) (Option.some.inj hx).symm)
  · have hx := gi_n h6 hx
    refine q_aload_n hC 0 dX11_noteStep_17 rfl rfl ?_
    refine gf_X11_26 hC dX11_noteStep_18 ?_
    refine q_iload_n hC 1 dX11_noteStep_21 rfl rfl ?_
    refine q_aload_n hC 0 dX11_noteStep_22 rfl rfl ?_
    refine gf_X11_26 hC dX11_noteStep_23 ?_
    refine q_iload_n hC 1 dX11_noteStep_26 rfl rfl ?_
    refine q_bipush hC 16 dX11_noteStep_27 rfl ?_
    refine q_iadd hC dX11_noteStep_29 ?_
    have g7 := (gd_e hx).1
    have hx := (gd_e hx).2
    refine q_iald hC 127 (gV_t (by decide) (by decide)) rfl g7 dX11_noteStep_30 ?_
    have g8 := (gd_e hx).1
    have hx := (gd_e hx).2
    refine q_iast hC 127 (gV_t (by decide) (by decide)) rfl g8 dX11_noteStep_31 ?_
    refine q_iinc hC 1 1 [(1, .int (b1 + 1)), (0, .ref (gad Y 0 59))] dX11_noteStep_32 rfl rfl (by decide) rfl ?_
    refine q_goto hC 11 dX11_noteStep_35 rfl ?_
    exact q_sub [1, 0] rfl (kI (b1 + 1, gwr N 0 64 (b1).toNatClampNeg (N.1 0 64 (b1 + 16).toNatClampNeg)) (Option.some.inj hx).symm)
set_option maxRecDepth 100000 in
set_option maxHeartbeats 4000000 in
theorem c_X11_noteStep {l : Launch} {Y : gY} {M : gMem} {r : gMem} (hx : x_X11_noteStep M = some r) : Met l yX11_noteStep (gws yX11_noteStep cX11_noteStep 2 none) { frames := 0, cells := 0, slots := 0, locals := 0 } (va_Pc [.ref (gad Y 0 59)] (gS0 Y M)) (gQv Y r) 0 0 (gA Y) := by
  refine gmet (lv := [(0, .ref (gad Y 0 59))]) "GuestStaffModel" (by decide) rfl (Nat.le_of_ble_eq_true rfl) rfl (fun X hC hF => ?_)
  have J48 : ∀ (N : gMem) , j_X11_noteStep_48 M N = some r → gWW X Y 2 48 [(0, .ref (gad Y 0 59))] [] N := by
    intro N hx
    unfold j_X11_noteStep_48 at hx
    refine q_iconst hC 0 dX11_noteStep_48 rfl ?_
    refine q_istore_n hC [(1, .int 0), (0, .ref (gad Y 0 59))] dX11_noteStep_49 rfl (by decide) rfl ?_
    obtain ⟨e5, qe5, hx⟩ := gb_e hx
    refine q_sub [1, 0] rfl (w_X11_noteStep_50 hC hF (e := e5) (fun s q => ?_) _ _ qe5)
    · subst q
      refine q_aload_n hC 0 dX11_noteStep_82 rfl rfl ?_
      refine q_dup hC dX11_noteStep_83 rfl ?_
      refine gf_X11_61 hC dX11_noteStep_84 ?_
      refine q_iconst hC 1 dX11_noteStep_87 rfl ?_
      refine q_iadd hC dX11_noteStep_88 ?_
      refine pf_X11_61 hC dX11_noteStep_89 ?_
      exact q_vret hC hF dX11_noteStep_92 (Option.some.inj hx)
  unfold x_X11_noteStep at hx
  refine q_aload_n hC 0 dX11_noteStep_0 rfl rfl ?_
  refine gf_X11_61 hC dX11_noteStep_1 ?_
  refine q_bipush hC 8 dX11_noteStep_4 rfl ?_
  refine q_ic_ne hC 48 dX11_noteStep_6 rfl (fun h1 => ?_) (fun h1 => ?_)
  · have hx := gi_n h1 hx
    exact q_sub [0] rfl (J48 M hx)
  · have hx := gi_p h1 hx
    refine q_iconst hC 0 dX11_noteStep_9 rfl ?_
    refine q_istore_n hC [(1, .int 0), (0, .ref (gad Y 0 59))] dX11_noteStep_10 rfl (by decide) rfl ?_
    obtain ⟨e9, qe9, hx⟩ := gb_e hx
    refine q_sub [1, 0] rfl (w_X11_noteStep_11 hC hF (e := e9) (fun s q => ?_) _ _ qe9)
    · subst q
      refine q_aload_n hC 0 dX11_noteStep_38 rfl rfl ?_
      refine q_dup hC dX11_noteStep_39 rfl ?_
      refine gf_X11_61 hC dX11_noteStep_40 ?_
      refine q_iconst hC 1 dX11_noteStep_43 rfl ?_
      refine q_isub hC dX11_noteStep_44 ?_
      refine pf_X11_61 hC dX11_noteStep_45 ?_
      exact q_sub [0] rfl (J48 (gwr e9.2 0 59 14 ((e9.2.1 0 59 14) - 1)) hx)

theorem dX11_duty_0 : decode cX11_duty 0 = .ok (.aload_n 0, 1) := by decide +kernel
theorem dX11_duty_1 : decode cX11_duty 1 = .ok (.iload_n 1, 1) := by decide +kernel
theorem dX11_duty_2 : decode cX11_duty 2 = .ok (.invokevirtual 85, 3) := by decide +kernel
theorem dX11_duty_5 : decode cX11_duty 5 = .ok (.ifCond .eq 21, 3) := by decide +kernel
theorem dX11_duty_8 : decode cX11_duty 8 = .ok (.iload_n 1, 1) := by decide +kernel
theorem dX11_duty_9 : decode cX11_duty 9 = .ok (.iload_n 2, 1) := by decide +kernel
theorem dX11_duty_10 : decode cX11_duty 10 = .ok (.if_icmp .eq 16, 3) := by decide +kernel
theorem dX11_duty_13 : decode cX11_duty 13 = .ok (.iload_n 2, 1) := by decide +kernel
theorem dX11_duty_14 : decode cX11_duty 14 = .ok (.iconst (-1), 1) := by decide +kernel
theorem dX11_duty_15 : decode cX11_duty 15 = .ok (.if_icmp .eq 16, 3) := by decide +kernel
theorem dX11_duty_18 : decode cX11_duty 18 = .ok (.aload_n 0, 1) := by decide +kernel
theorem dX11_duty_19 : decode cX11_duty 19 = .ok (.iload_n 2, 1) := by decide +kernel
theorem dX11_duty_20 : decode cX11_duty 20 = .ok (.invokevirtual 85, 3) := by decide +kernel
theorem dX11_duty_23 : decode cX11_duty 23 = .ok (.ifCond .ne 8, 3) := by decide +kernel
theorem dX11_duty_26 : decode cX11_duty 26 = .ok (.aload_n 0, 1) := by decide +kernel
theorem dX11_duty_27 : decode cX11_duty 27 = .ok (.invokevirtual 89, 3) := by decide +kernel
theorem dX11_duty_30 : decode cX11_duty 30 = .ok (.ireturn, 1) := by decide +kernel
theorem dX11_duty_31 : decode cX11_duty 31 = .ok (.aload_n 0, 1) := by decide +kernel
theorem dX11_duty_32 : decode cX11_duty 32 = .ok (.invokevirtual 92, 3) := by decide +kernel
theorem dX11_duty_35 : decode cX11_duty 35 = .ok (.aload_n 0, 1) := by decide +kernel
theorem dX11_duty_36 : decode cX11_duty 36 = .ok (.getfield 7, 3) := by decide +kernel
theorem dX11_duty_39 : decode cX11_duty 39 = .ok (.iconst 2, 1) := by decide +kernel
theorem dX11_duty_40 : decode cX11_duty 40 = .ok (.iload_n 1, 1) := by decide +kernel
theorem dX11_duty_41 : decode cX11_duty 41 = .ok (.iadd, 1) := by decide +kernel
theorem dX11_duty_42 : decode cX11_duty 42 = .ok (.iaload, 1) := by decide +kernel
theorem dX11_duty_43 : decode cX11_duty 43 = .ok (.istore_n 3, 1) := by decide +kernel
theorem dX11_duty_44 : decode cX11_duty 44 = .ok (.aload_n 0, 1) := by decide +kernel
theorem dX11_duty_45 : decode cX11_duty 45 = .ok (.getfield 7, 3) := by decide +kernel
theorem dX11_duty_48 : decode cX11_duty 48 = .ok (.iconst 2, 1) := by decide +kernel
theorem dX11_duty_49 : decode cX11_duty 49 = .ok (.iload_n 1, 1) := by decide +kernel
theorem dX11_duty_50 : decode cX11_duty 50 = .ok (.iadd, 1) := by decide +kernel
theorem dX11_duty_51 : decode cX11_duty 51 = .ok (.iload_n 2, 1) := by decide +kernel
theorem dX11_duty_52 : decode cX11_duty 52 = .ok (.iastore, 1) := by decide +kernel
theorem dX11_duty_53 : decode cX11_duty 53 = .ok (.iload_n 3, 1) := by decide +kernel
theorem dX11_duty_54 : decode cX11_duty 54 = .ok (.ireturn, 1) := by decide +kernel
def j_X11_duty_26 (M : gMem) (p1 : Int32) (p2 : Int32) (N : gMem) : Option (Int32 × gMem) := Option.bind (x_X11_badFar N) (fun v5 => some (v5.1, v5.2))
def j_X11_duty_31 (M : gMem) (p1 : Int32) (p2 : Int32) (N : gMem) : Option (Int32 × gMem) := Option.bind (x_X11_noteStep N) (fun v9 => gd (gin (2 + p1) 70) (gd (gin (2 + p1) 70) (some (v9.1 0 60 (2 + p1).toNatClampNeg, gwr v9 0 60 (2 + p1).toNatClampNeg p2))))
def x_X11_duty (M : gMem) (p1 : Int32) (p2 : Int32) : Option (Int32 × gMem) := Option.bind (x_X11_isGuest M p1) (fun v1 => (if v1 = 0 then j_X11_duty_26 M p1 p2 M else (if p1 = p2 then j_X11_duty_26 M p1 p2 M else (if p2 = (-1) then j_X11_duty_31 M p1 p2 M else Option.bind (x_X11_isGuest M p2) (fun v13 => (if v13 = 0 then j_X11_duty_26 M p1 p2 M else j_X11_duty_31 M p1 p2 M))))))
set_option maxRecDepth 100000 in
set_option maxHeartbeats 4000000 in
theorem c_X11_duty {l : Launch} {Y : gY} {M : gMem} {p1 : Int32} {p2 : Int32} {r : (Int32 × gMem)} (hx : x_X11_duty M p1 p2 = some r) : Met l yX11_duty (gws yX11_duty cX11_duty 4 (some .int)) { frames := 2, cells := 0, slots := 0, locals := 46 } (va_Pc [.ref (gad Y 0 59), .int p1, .int p2] (gS0 Y M)) (gQi Y r) 0 0 (gA Y) := by
  refine gmet (lv := [(0, .ref (gad Y 0 59)), (1, .int p1), (2, .int p2)]) "GuestStaffModel" (by decide) rfl (Nat.le_of_ble_eq_true rfl) rfl (fun X hC hF => ?_)
  have J26 : ∀ (N : gMem) , j_X11_duty_26 M p1 p2 N = some r → gWW X Y 4 26 [(0, .ref (gad Y 0 59))] [] N := by
    intro N hx
    unfold j_X11_duty_26 at hx
    refine q_aload_n hC 0 dX11_duty_26 rfl rfl ?_
    obtain ⟨v5, q6, hx⟩ := gb_e hx
    refine q_ki (q_rV (As := []) (rest := []) hC mm_X11_badFar wM_X11_89 (c_X11_badFar q6) ⟨rfl, rfl, Nat.le_of_ble_eq_true rfl, Nat.le_of_ble_eq_true rfl⟩ (gV_t (by decide) (by decide)) rfl rfl rfl rfl (Nat.le_of_ble_eq_true rfl) dX11_duty_27) ?_
    exact q_iret hC hF dX11_duty_30 (Option.some.inj hx)
  have J31 : ∀ (N : gMem) , j_X11_duty_31 M p1 p2 N = some r → gWW X Y 4 31 [(0, .ref (gad Y 0 59)), (1, .int p1), (2, .int p2)] [] N := by
    intro N hx
    unfold j_X11_duty_31 at hx
    refine q_aload_n hC 0 dX11_duty_31 rfl rfl ?_
    obtain ⟨v9, q10, hx⟩ := gb_e hx
    refine q_kv (q_rV (As := []) (rest := []) hC mm_X11_noteStep wM_X11_92 (c_X11_noteStep q10) ⟨rfl, rfl, Nat.le_of_ble_eq_true rfl, Nat.le_of_ble_eq_true rfl⟩ (gV_t (by decide) (by decide)) rfl rfl rfl rfl (Nat.le_of_ble_eq_true rfl) dX11_duty_32) ?_
    refine q_aload_n hC 0 dX11_duty_35 rfl rfl ?_
    refine gf_X11_7 hC dX11_duty_36 ?_
    refine q_iconst hC 2 dX11_duty_39 rfl ?_
    refine q_iload_n hC 1 dX11_duty_40 rfl rfl ?_
    refine q_iadd hC dX11_duty_41 ?_
    have g11 := (gd_e hx).1
    have hx := (gd_e hx).2
    refine q_iald hC 69 (gV_t (by decide) (by decide)) rfl g11 dX11_duty_42 ?_
    refine q_istore_n hC [(3, .int (v9.1 0 60 (2 + p1).toNatClampNeg)), (0, .ref (gad Y 0 59)), (1, .int p1), (2, .int p2)] dX11_duty_43 rfl (by decide) rfl ?_
    refine q_aload_n hC 1 dX11_duty_44 rfl rfl ?_
    refine gf_X11_7 hC dX11_duty_45 ?_
    refine q_iconst hC 2 dX11_duty_48 rfl ?_
    refine q_iload_n hC 2 dX11_duty_49 rfl rfl ?_
    refine q_iadd hC dX11_duty_50 ?_
    refine q_iload_n hC 3 dX11_duty_51 rfl rfl ?_
    have g12 := (gd_e hx).1
    have hx := (gd_e hx).2
    refine q_iast hC 69 (gV_t (by decide) (by decide)) rfl g12 dX11_duty_52 ?_
    refine q_iload_n hC 0 dX11_duty_53 rfl rfl ?_
    exact q_iret hC hF dX11_duty_54 (Option.some.inj hx)
  unfold x_X11_duty at hx
  refine q_aload_n hC 0 dX11_duty_0 rfl rfl ?_
  refine q_iload_n hC 1 dX11_duty_1 rfl rfl ?_
  obtain ⟨v1, q2, hx⟩ := gb_e hx
  refine q_kzp (q_rV (As := [.int p1]) (rest := []) hC mm_X11_isGuest wM_X11_85 (c_X11_isGuest q2) ⟨rfl, rfl, Nat.le_of_ble_eq_true rfl, Nat.le_of_ble_eq_true rfl⟩ (gV_t (by decide) (by decide)) rfl rfl rfl rfl (Nat.le_of_ble_eq_true rfl) dX11_duty_2) (fun z3 => ?_)
  refine q_if_eq hC 26 dX11_duty_5 rfl (fun h4 => ?_) (fun h4 => ?_)
  · have hx := gi_p h4 hx
    exact q_sub [0] rfl (J26 M hx)
  · have hx := gi_n h4 hx
    refine q_iload_n hC 1 dX11_duty_8 rfl rfl ?_
    refine q_iload_n hC 2 dX11_duty_9 rfl rfl ?_
    refine q_ic_eq hC 26 dX11_duty_10 rfl (fun h7 => ?_) (fun h7 => ?_)
    · have hx := gi_p h7 hx
      exact q_sub [0] rfl (J26 M hx)
    · have hx := gi_n h7 hx
      refine q_iload_n hC 2 dX11_duty_13 rfl rfl ?_
      refine q_iconst hC (-1) dX11_duty_14 rfl ?_
      refine q_ic_eq hC 31 dX11_duty_15 rfl (fun h8 => ?_) (fun h8 => ?_)
      · have hx := gi_p h8 hx
        exact q_sub [0, 1, 2] rfl (J31 M hx)
      · have hx := gi_n h8 hx
        refine q_aload_n hC 0 dX11_duty_18 rfl rfl ?_
        refine q_iload_n hC 2 dX11_duty_19 rfl rfl ?_
        obtain ⟨v13, q14, hx⟩ := gb_e hx
        refine q_kzp (q_rV (As := [.int p2]) (rest := []) hC mm_X11_isGuest wM_X11_85 (c_X11_isGuest q14) ⟨rfl, rfl, Nat.le_of_ble_eq_true rfl, Nat.le_of_ble_eq_true rfl⟩ (gV_t (by decide) (by decide)) rfl rfl rfl rfl (Nat.le_of_ble_eq_true rfl) dX11_duty_20) (fun z15 => ?_)
        refine q_if_ne hC 31 dX11_duty_23 rfl (fun h16 => ?_) (fun h16 => ?_)
        · have hx := gi_n h16 hx
          exact q_sub [0, 1, 2] rfl (J31 M hx)
        · have hx := gi_p h16 hx
          exact q_sub [0] rfl (J26 M hx)

theorem dX11_type_0 : decode cX11_type 0 = .ok (.iload_n 1, 1) := by decide +kernel
theorem dX11_type_1 : decode cX11_type 1 = .ok (.i2l, 1) := by decide +kernel
theorem dX11_type_2 : decode cX11_type 2 = .ok (.lconst 0, 1) := by decide +kernel
theorem dX11_type_3 : decode cX11_type 3 = .ok (.ldc2_w 95, 3) := by decide +kernel
theorem dX11_type_6 : decode cX11_type 6 = .ok (.invokestatic 57, 3) := by decide +kernel
theorem dX11_type_9 : decode cX11_type 9 = .ok (.ifCond .ne 8, 3) := by decide +kernel
theorem dX11_type_12 : decode cX11_type 12 = .ok (.aload_n 0, 1) := by decide +kernel
theorem dX11_type_13 : decode cX11_type 13 = .ok (.invokevirtual 74, 3) := by decide +kernel
theorem dX11_type_16 : decode cX11_type 16 = .ok (.ireturn, 1) := by decide +kernel
theorem dX11_type_17 : decode cX11_type 17 = .ok (.aload_n 0, 1) := by decide +kernel
theorem dX11_type_18 : decode cX11_type 18 = .ok (.getfield 97, 3) := by decide +kernel
theorem dX11_type_21 : decode cX11_type 21 = .ok (.sipush 150, 3) := by decide +kernel
theorem dX11_type_24 : decode cX11_type 24 = .ok (.if_icmp .ne 8, 3) := by decide +kernel
theorem dX11_type_27 : decode cX11_type 27 = .ok (.aload_n 0, 1) := by decide +kernel
theorem dX11_type_28 : decode cX11_type 28 = .ok (.invokevirtual 78, 3) := by decide +kernel
theorem dX11_type_31 : decode cX11_type 31 = .ok (.ireturn, 1) := by decide +kernel
theorem dX11_type_32 : decode cX11_type 32 = .ok (.aload_n 0, 1) := by decide +kernel
theorem dX11_type_33 : decode cX11_type 33 = .ok (.getfield 20, 3) := by decide +kernel
theorem dX11_type_36 : decode cX11_type 36 = .ok (.aload_n 0, 1) := by decide +kernel
theorem dX11_type_37 : decode cX11_type 37 = .ok (.getfield 97, 3) := by decide +kernel
theorem dX11_type_40 : decode cX11_type 40 = .ok (.iload_n 1, 1) := by decide +kernel
theorem dX11_type_41 : decode cX11_type 41 = .ok (.iastore, 1) := by decide +kernel
theorem dX11_type_42 : decode cX11_type 42 = .ok (.aload_n 0, 1) := by decide +kernel
theorem dX11_type_43 : decode cX11_type 43 = .ok (.dup, 1) := by decide +kernel
theorem dX11_type_44 : decode cX11_type 44 = .ok (.getfield 97, 3) := by decide +kernel
theorem dX11_type_47 : decode cX11_type 47 = .ok (.iconst 1, 1) := by decide +kernel
theorem dX11_type_48 : decode cX11_type 48 = .ok (.iadd, 1) := by decide +kernel
theorem dX11_type_49 : decode cX11_type 49 = .ok (.putfield 97, 3) := by decide +kernel
theorem dX11_type_52 : decode cX11_type 52 = .ok (.aload_n 0, 1) := by decide +kernel
theorem dX11_type_53 : decode cX11_type 53 = .ok (.getfield 97, 3) := by decide +kernel
theorem dX11_type_56 : decode cX11_type 56 = .ok (.ireturn, 1) := by decide +kernel
def x_X11_type (M : gMem) (p1 : Int32) : Option (Int32 × gMem) := Option.bind (x_X11_in (Int32.toInt64 p1) 0 127) (fun v1 => (if v1 = 0 then Option.bind (x_X11_bad M) (fun v9 => some (v9.1, v9.2)) else (if (M.1 0 59 5) = 150 then Option.bind (x_X11_full M) (fun v7 => some (v7.1, v7.2)) else gd (gin (M.1 0 59 5) 150) (some ((gwr (gwr M 0 62 (M.1 0 59 5).toNatClampNeg p1) 0 59 5 (((gwr M 0 62 (M.1 0 59 5).toNatClampNeg p1).1 0 59 5) + 1)).1 0 59 5, gwr (gwr M 0 62 (M.1 0 59 5).toNatClampNeg p1) 0 59 5 (((gwr M 0 62 (M.1 0 59 5).toNatClampNeg p1).1 0 59 5) + 1))))))
set_option maxRecDepth 100000 in
set_option maxHeartbeats 4000000 in
theorem c_X11_type {l : Launch} {Y : gY} {M : gMem} {p1 : Int32} {r : (Int32 × gMem)} (hx : x_X11_type M p1 = some r) : Met l yX11_type (gws yX11_type cX11_type 2 (some .int)) { frames := 1, cells := 0, slots := 0, locals := 25 } (va_Pc [.ref (gad Y 0 59), .int p1] (gS0 Y M)) (gQi Y r) 0 0 (gA Y) := by
  refine gmet (lv := [(0, .ref (gad Y 0 59)), (1, .int p1)]) "GuestStaffModel" (by decide) rfl (Nat.le_of_ble_eq_true rfl) rfl (fun X hC hF => ?_)
  unfold x_X11_type at hx
  refine q_iload_n hC 1 dX11_type_0 rfl rfl ?_
  refine q_i2l hC dX11_type_1 ?_
  refine q_lconst hC 0 dX11_type_2 rfl ?_
  refine q_ldc2 hC 127 dX11_type_3 wC_X11_95 ?_
  obtain ⟨v1, q2, hx⟩ := gb_e hx
  refine q_kzp (q_rS (As := [.long (Int32.toInt64 p1), .long 0, .long 127]) (rest := []) hC mm_X11_in wM_X11_57 (c_X11_in q2) ⟨rfl, rfl, Nat.le_of_ble_eq_true rfl, Nat.le_of_ble_eq_true rfl⟩ rfl rfl (Nat.le_of_ble_eq_true rfl) dX11_type_6) (fun z3 => ?_)
  refine q_if_ne hC 17 dX11_type_9 rfl (fun h4 => ?_) (fun h4 => ?_)
  · have hx := gi_n h4 hx
    refine q_aload_n hC 0 dX11_type_17 rfl rfl ?_
    refine gf_X11_97 hC dX11_type_18 ?_
    refine q_sipush hC 150 dX11_type_21 rfl ?_
    refine q_ic_ne hC 32 dX11_type_24 rfl (fun h5 => ?_) (fun h5 => ?_)
    · have hx := gi_n h5 hx
      refine q_aload_n hC 0 dX11_type_32 rfl rfl ?_
      refine gf_X11_20 hC dX11_type_33 ?_
      refine q_aload_n hC 0 dX11_type_36 rfl rfl ?_
      refine gf_X11_97 hC dX11_type_37 ?_
      refine q_iload_n hC 1 dX11_type_40 rfl rfl ?_
      have g6 := (gd_e hx).1
      have hx := (gd_e hx).2
      refine q_iast hC 149 (gV_t (by decide) (by decide)) rfl g6 dX11_type_41 ?_
      refine q_aload_n hC 0 dX11_type_42 rfl rfl ?_
      refine q_dup hC dX11_type_43 rfl ?_
      refine gf_X11_97 hC dX11_type_44 ?_
      refine q_iconst hC 1 dX11_type_47 rfl ?_
      refine q_iadd hC dX11_type_48 ?_
      refine pf_X11_97 hC dX11_type_49 ?_
      refine q_aload_n hC 0 dX11_type_52 rfl rfl ?_
      refine gf_X11_97 hC dX11_type_53 ?_
      exact q_iret hC hF dX11_type_56 (Option.some.inj hx)
    · have hx := gi_p h5 hx
      refine q_aload_n hC 0 dX11_type_27 rfl rfl ?_
      obtain ⟨v7, q8, hx⟩ := gb_e hx
      refine q_ki (q_rV (As := []) (rest := []) hC mm_X11_full wM_X11_78 (c_X11_full q8) ⟨rfl, rfl, Nat.le_of_ble_eq_true rfl, Nat.le_of_ble_eq_true rfl⟩ (gV_t (by decide) (by decide)) rfl rfl rfl rfl (Nat.le_of_ble_eq_true rfl) dX11_type_28) ?_
      exact q_iret hC hF dX11_type_31 (Option.some.inj hx)
  · have hx := gi_p h4 hx
    refine q_aload_n hC 0 dX11_type_12 rfl rfl ?_
    obtain ⟨v9, q10, hx⟩ := gb_e hx
    refine q_ki (q_rV (As := []) (rest := []) hC mm_X11_bad wM_X11_74 (c_X11_bad q10) ⟨rfl, rfl, Nat.le_of_ble_eq_true rfl, Nat.le_of_ble_eq_true rfl⟩ (gV_t (by decide) (by decide)) rfl rfl rfl rfl (Nat.le_of_ble_eq_true rfl) dX11_type_13) ?_
    exact q_iret hC hF dX11_type_16 (Option.some.inj hx)

theorem dX11_clear_0 : decode cX11_clear 0 = .ok (.aload_n 0, 1) := by decide +kernel
theorem dX11_clear_1 : decode cX11_clear 1 = .ok (.getfield 97, 3) := by decide +kernel
theorem dX11_clear_4 : decode cX11_clear 4 = .ok (.istore_n 1, 1) := by decide +kernel
theorem dX11_clear_5 : decode cX11_clear 5 = .ok (.aload_n 0, 1) := by decide +kernel
theorem dX11_clear_6 : decode cX11_clear 6 = .ok (.iconst 0, 1) := by decide +kernel
theorem dX11_clear_7 : decode cX11_clear 7 = .ok (.putfield 97, 3) := by decide +kernel
theorem dX11_clear_10 : decode cX11_clear 10 = .ok (.iload_n 1, 1) := by decide +kernel
theorem dX11_clear_11 : decode cX11_clear 11 = .ok (.ireturn, 1) := by decide +kernel
def x_X11_clear (M : gMem) : Option (Int32 × gMem) := some (M.1 0 59 5, gwr M 0 59 5 0)
set_option maxRecDepth 100000 in
set_option maxHeartbeats 4000000 in
theorem c_X11_clear {l : Launch} {Y : gY} {M : gMem} {r : (Int32 × gMem)} (hx : x_X11_clear M = some r) : Met l yX11_clear (gws yX11_clear cX11_clear 2 (some .int)) { frames := 0, cells := 0, slots := 0, locals := 0 } (va_Pc [.ref (gad Y 0 59)] (gS0 Y M)) (gQi Y r) 0 0 (gA Y) := by
  refine gmet (lv := [(0, .ref (gad Y 0 59))]) "GuestStaffModel" (by decide) rfl (Nat.le_of_ble_eq_true rfl) rfl (fun X hC hF => ?_)
  unfold x_X11_clear at hx
  refine q_aload_n hC 0 dX11_clear_0 rfl rfl ?_
  refine gf_X11_97 hC dX11_clear_1 ?_
  refine q_istore_n hC [(1, .int (M.1 0 59 5)), (0, .ref (gad Y 0 59))] dX11_clear_4 rfl (by decide) rfl ?_
  refine q_aload_n hC 1 dX11_clear_5 rfl rfl ?_
  refine q_iconst hC 0 dX11_clear_6 rfl ?_
  refine pf_X11_97 hC dX11_clear_7 ?_
  refine q_iload_n hC 0 dX11_clear_10 rfl rfl ?_
  exact q_iret hC hF dX11_clear_11 (Option.some.inj hx)

theorem dX11_byteAt_0 : decode cX11_byteAt 0 = .ok (.iload_n 1, 1) := by decide +kernel
theorem dX11_byteAt_1 : decode cX11_byteAt 1 = .ok (.aload_n 0, 1) := by decide +kernel
theorem dX11_byteAt_2 : decode cX11_byteAt 2 = .ok (.getfield 97, 3) := by decide +kernel
theorem dX11_byteAt_5 : decode cX11_byteAt 5 = .ok (.if_icmp .ge 12, 3) := by decide +kernel
theorem dX11_byteAt_8 : decode cX11_byteAt 8 = .ok (.aload_n 0, 1) := by decide +kernel
theorem dX11_byteAt_9 : decode cX11_byteAt 9 = .ok (.getfield 20, 3) := by decide +kernel
theorem dX11_byteAt_12 : decode cX11_byteAt 12 = .ok (.iload_n 1, 1) := by decide +kernel
theorem dX11_byteAt_13 : decode cX11_byteAt 13 = .ok (.iaload, 1) := by decide +kernel
theorem dX11_byteAt_14 : decode cX11_byteAt 14 = .ok (.goto 4, 3) := by decide +kernel
theorem dX11_byteAt_17 : decode cX11_byteAt 17 = .ok (.iconst (-1), 1) := by decide +kernel
theorem dX11_byteAt_18 : decode cX11_byteAt 18 = .ok (.ireturn, 1) := by decide +kernel
def x_X11_byteAt (M : gMem) (p1 : Int32) : Option Int32 := (if (M.1 0 59 5) ≤ p1 then some (-1) else gd (gin p1 150) (some (M.1 0 62 (p1).toNatClampNeg)))
set_option maxRecDepth 100000 in
set_option maxHeartbeats 4000000 in
theorem c_X11_byteAt {l : Launch} {Y : gY} {M : gMem} {p1 : Int32} {r : Int32} (hx : x_X11_byteAt M p1 = some r) : Met l yX11_byteAt (gws yX11_byteAt cX11_byteAt 2 (some .int)) { frames := 0, cells := 0, slots := 0, locals := 0 } (va_Pc [.ref (gad Y 0 59), .int p1] (gS0 Y M)) (gQi Y (r, M)) 0 0 (gA Y) := by
  refine gmet (lv := [(0, .ref (gad Y 0 59)), (1, .int p1)]) "GuestStaffModel" (by decide) rfl (Nat.le_of_ble_eq_true rfl) rfl (fun X hC hF => ?_)
  unfold x_X11_byteAt at hx
  refine q_iload_n hC 1 dX11_byteAt_0 rfl rfl ?_
  refine q_aload_n hC 0 dX11_byteAt_1 rfl rfl ?_
  refine gf_X11_97 hC dX11_byteAt_2 ?_
  refine q_ic_ge hC 17 dX11_byteAt_5 rfl (fun h1 => ?_) (fun h1 => ?_)
  · have hx := gi_p h1 hx
    refine q_iconst hC (-1) dX11_byteAt_17 rfl ?_
    exact q_iret hC hF dX11_byteAt_18 (congrArg (fun z => (z, M)) (Option.some.inj hx))
  · have hx := gi_n h1 hx
    refine q_aload_n hC 0 dX11_byteAt_8 rfl rfl ?_
    refine gf_X11_20 hC dX11_byteAt_9 ?_
    refine q_iload_n hC 1 dX11_byteAt_12 rfl rfl ?_
    have g2 := (gd_e hx).1
    have hx := (gd_e hx).2
    refine q_iald hC 149 (gV_t (by decide) (by decide)) rfl g2 dX11_byteAt_13 ?_
    refine q_goto hC 18 dX11_byteAt_14 rfl ?_
    exact q_iret hC hF dX11_byteAt_18 (congrArg (fun z => (z, M)) (Option.some.inj hx))

theorem dX11_nextToken_0 : decode cX11_nextToken 0 = .ok (.aload_n 0, 1) := by decide +kernel
theorem dX11_nextToken_1 : decode cX11_nextToken 1 = .ok (.aload_n 0, 1) := by decide +kernel
theorem dX11_nextToken_2 : decode cX11_nextToken 2 = .ok (.getfield 100, 3) := by decide +kernel
theorem dX11_nextToken_5 : decode cX11_nextToken 5 = .ok (.invokevirtual 103, 3) := by decide +kernel
theorem dX11_nextToken_8 : decode cX11_nextToken 8 = .ok (.bipush 32, 2) := by decide +kernel
theorem dX11_nextToken_10 : decode cX11_nextToken 10 = .ok (.if_icmp .ne 16, 3) := by decide +kernel
theorem dX11_nextToken_13 : decode cX11_nextToken 13 = .ok (.aload_n 0, 1) := by decide +kernel
theorem dX11_nextToken_14 : decode cX11_nextToken 14 = .ok (.dup, 1) := by decide +kernel
theorem dX11_nextToken_15 : decode cX11_nextToken 15 = .ok (.getfield 100, 3) := by decide +kernel
theorem dX11_nextToken_18 : decode cX11_nextToken 18 = .ok (.iconst 1, 1) := by decide +kernel
theorem dX11_nextToken_19 : decode cX11_nextToken 19 = .ok (.iadd, 1) := by decide +kernel
theorem dX11_nextToken_20 : decode cX11_nextToken 20 = .ok (.putfield 100, 3) := by decide +kernel
theorem dX11_nextToken_23 : decode cX11_nextToken 23 = .ok (.goto (-23), 3) := by decide +kernel
theorem dX11_nextToken_26 : decode cX11_nextToken 26 = .ok (.aload_n 0, 1) := by decide +kernel
theorem dX11_nextToken_27 : decode cX11_nextToken 27 = .ok (.aload_n 0, 1) := by decide +kernel
theorem dX11_nextToken_28 : decode cX11_nextToken 28 = .ok (.getfield 100, 3) := by decide +kernel
theorem dX11_nextToken_31 : decode cX11_nextToken 31 = .ok (.putfield 107, 3) := by decide +kernel
theorem dX11_nextToken_34 : decode cX11_nextToken 34 = .ok (.aload_n 0, 1) := by decide +kernel
theorem dX11_nextToken_35 : decode cX11_nextToken 35 = .ok (.iconst 0, 1) := by decide +kernel
theorem dX11_nextToken_36 : decode cX11_nextToken 36 = .ok (.putfield 110, 3) := by decide +kernel
theorem dX11_nextToken_39 : decode cX11_nextToken 39 = .ok (.aload_n 0, 1) := by decide +kernel
theorem dX11_nextToken_40 : decode cX11_nextToken 40 = .ok (.aload_n 0, 1) := by decide +kernel
theorem dX11_nextToken_41 : decode cX11_nextToken 41 = .ok (.getfield 100, 3) := by decide +kernel
theorem dX11_nextToken_44 : decode cX11_nextToken 44 = .ok (.aload_n 0, 1) := by decide +kernel
theorem dX11_nextToken_45 : decode cX11_nextToken 45 = .ok (.getfield 97, 3) := by decide +kernel
theorem dX11_nextToken_48 : decode cX11_nextToken 48 = .ok (.if_icmp .ne 7, 3) := by decide +kernel
theorem dX11_nextToken_51 : decode cX11_nextToken 51 = .ok (.iconst 3, 1) := by decide +kernel
theorem dX11_nextToken_52 : decode cX11_nextToken 52 = .ok (.goto 4, 3) := by decide +kernel
theorem dX11_nextToken_55 : decode cX11_nextToken 55 = .ok (.iconst 0, 1) := by decide +kernel
theorem dX11_nextToken_56 : decode cX11_nextToken 56 = .ok (.putfield 113, 3) := by decide +kernel
theorem dX11_nextToken_59 : decode cX11_nextToken 59 = .ok (.aload_n 0, 1) := by decide +kernel
theorem dX11_nextToken_60 : decode cX11_nextToken 60 = .ok (.aload_n 0, 1) := by decide +kernel
theorem dX11_nextToken_61 : decode cX11_nextToken 61 = .ok (.getfield 100, 3) := by decide +kernel
theorem dX11_nextToken_64 : decode cX11_nextToken 64 = .ok (.invokevirtual 103, 3) := by decide +kernel
theorem dX11_nextToken_67 : decode cX11_nextToken 67 = .ok (.i2l, 1) := by decide +kernel
theorem dX11_nextToken_68 : decode cX11_nextToken 68 = .ok (.ldc2_w 116, 3) := by decide +kernel
theorem dX11_nextToken_71 : decode cX11_nextToken 71 = .ok (.ldc2_w 118, 3) := by decide +kernel
theorem dX11_nextToken_74 : decode cX11_nextToken 74 = .ok (.invokestatic 57, 3) := by decide +kernel
theorem dX11_nextToken_77 : decode cX11_nextToken 77 = .ok (.ifCond .eq 29, 3) := by decide +kernel
theorem dX11_nextToken_80 : decode cX11_nextToken 80 = .ok (.aload_n 0, 1) := by decide +kernel
theorem dX11_nextToken_81 : decode cX11_nextToken 81 = .ok (.getfield 113, 3) := by decide +kernel
theorem dX11_nextToken_84 : decode cX11_nextToken 84 = .ok (.iconst 2, 1) := by decide +kernel
theorem dX11_nextToken_85 : decode cX11_nextToken 85 = .ok (.if_icmp .ge 21, 3) := by decide +kernel
theorem dX11_nextToken_88 : decode cX11_nextToken 88 = .ok (.aload_n 0, 1) := by decide +kernel
theorem dX11_nextToken_89 : decode cX11_nextToken 89 = .ok (.iconst 1, 1) := by decide +kernel
theorem dX11_nextToken_90 : decode cX11_nextToken 90 = .ok (.putfield 113, 3) := by decide +kernel
theorem dX11_nextToken_93 : decode cX11_nextToken 93 = .ok (.aload_n 0, 1) := by decide +kernel
theorem dX11_nextToken_94 : decode cX11_nextToken 94 = .ok (.dup, 1) := by decide +kernel
theorem dX11_nextToken_95 : decode cX11_nextToken 95 = .ok (.getfield 100, 3) := by decide +kernel
theorem dX11_nextToken_98 : decode cX11_nextToken 98 = .ok (.iconst 1, 1) := by decide +kernel
theorem dX11_nextToken_99 : decode cX11_nextToken 99 = .ok (.iadd, 1) := by decide +kernel
theorem dX11_nextToken_100 : decode cX11_nextToken 100 = .ok (.putfield 100, 3) := by decide +kernel
theorem dX11_nextToken_103 : decode cX11_nextToken 103 = .ok (.goto (-44), 3) := by decide +kernel
theorem dX11_nextToken_106 : decode cX11_nextToken 106 = .ok (.aload_n 0, 1) := by decide +kernel
theorem dX11_nextToken_107 : decode cX11_nextToken 107 = .ok (.aload_n 0, 1) := by decide +kernel
theorem dX11_nextToken_108 : decode cX11_nextToken 108 = .ok (.getfield 100, 3) := by decide +kernel
theorem dX11_nextToken_111 : decode cX11_nextToken 111 = .ok (.invokevirtual 103, 3) := by decide +kernel
theorem dX11_nextToken_114 : decode cX11_nextToken 114 = .ok (.i2l, 1) := by decide +kernel
theorem dX11_nextToken_115 : decode cX11_nextToken 115 = .ok (.ldc2_w 120, 3) := by decide +kernel
theorem dX11_nextToken_118 : decode cX11_nextToken 118 = .ok (.ldc2_w 122, 3) := by decide +kernel
theorem dX11_nextToken_121 : decode cX11_nextToken 121 = .ok (.invokestatic 57, 3) := by decide +kernel
theorem dX11_nextToken_124 : decode cX11_nextToken 124 = .ok (.ifCond .eq 69, 3) := by decide +kernel
theorem dX11_nextToken_127 : decode cX11_nextToken 127 = .ok (.aload_n 0, 1) := by decide +kernel
theorem dX11_nextToken_128 : decode cX11_nextToken 128 = .ok (.getfield 113, 3) := by decide +kernel
theorem dX11_nextToken_131 : decode cX11_nextToken 131 = .ok (.iconst 1, 1) := by decide +kernel
theorem dX11_nextToken_132 : decode cX11_nextToken 132 = .ok (.if_icmp .eq 61, 3) := by decide +kernel
theorem dX11_nextToken_135 : decode cX11_nextToken 135 = .ok (.aload_n 0, 1) := by decide +kernel
theorem dX11_nextToken_136 : decode cX11_nextToken 136 = .ok (.iconst 2, 1) := by decide +kernel
theorem dX11_nextToken_137 : decode cX11_nextToken 137 = .ok (.putfield 113, 3) := by decide +kernel
theorem dX11_nextToken_140 : decode cX11_nextToken 140 = .ok (.aload_n 0, 1) := by decide +kernel
theorem dX11_nextToken_141 : decode cX11_nextToken 141 = .ok (.aload_n 0, 1) := by decide +kernel
theorem dX11_nextToken_142 : decode cX11_nextToken 142 = .ok (.getfield 110, 3) := by decide +kernel
theorem dX11_nextToken_145 : decode cX11_nextToken 145 = .ok (.bipush 99, 2) := by decide +kernel
theorem dX11_nextToken_147 : decode cX11_nextToken 147 = .ok (.if_icmp .le 10, 3) := by decide +kernel
theorem dX11_nextToken_150 : decode cX11_nextToken 150 = .ok (.aload_n 0, 1) := by decide +kernel
theorem dX11_nextToken_151 : decode cX11_nextToken 151 = .ok (.getfield 110, 3) := by decide +kernel
theorem dX11_nextToken_154 : decode cX11_nextToken 154 = .ok (.goto 23, 3) := by decide +kernel
theorem dX11_nextToken_157 : decode cX11_nextToken 157 = .ok (.bipush 10, 2) := by decide +kernel
theorem dX11_nextToken_159 : decode cX11_nextToken 159 = .ok (.aload_n 0, 1) := by decide +kernel
theorem dX11_nextToken_160 : decode cX11_nextToken 160 = .ok (.getfield 110, 3) := by decide +kernel
theorem dX11_nextToken_163 : decode cX11_nextToken 163 = .ok (.imul, 1) := by decide +kernel
theorem dX11_nextToken_164 : decode cX11_nextToken 164 = .ok (.aload_n 0, 1) := by decide +kernel
theorem dX11_nextToken_165 : decode cX11_nextToken 165 = .ok (.getfield 20, 3) := by decide +kernel
theorem dX11_nextToken_168 : decode cX11_nextToken 168 = .ok (.aload_n 0, 1) := by decide +kernel
theorem dX11_nextToken_169 : decode cX11_nextToken 169 = .ok (.getfield 100, 3) := by decide +kernel
theorem dX11_nextToken_172 : decode cX11_nextToken 172 = .ok (.iaload, 1) := by decide +kernel
theorem dX11_nextToken_173 : decode cX11_nextToken 173 = .ok (.iadd, 1) := by decide +kernel
theorem dX11_nextToken_174 : decode cX11_nextToken 174 = .ok (.bipush 48, 2) := by decide +kernel
theorem dX11_nextToken_176 : decode cX11_nextToken 176 = .ok (.isub, 1) := by decide +kernel
theorem dX11_nextToken_177 : decode cX11_nextToken 177 = .ok (.putfield 110, 3) := by decide +kernel
theorem dX11_nextToken_180 : decode cX11_nextToken 180 = .ok (.aload_n 0, 1) := by decide +kernel
theorem dX11_nextToken_181 : decode cX11_nextToken 181 = .ok (.dup, 1) := by decide +kernel
theorem dX11_nextToken_182 : decode cX11_nextToken 182 = .ok (.getfield 100, 3) := by decide +kernel
theorem dX11_nextToken_185 : decode cX11_nextToken 185 = .ok (.iconst 1, 1) := by decide +kernel
theorem dX11_nextToken_186 : decode cX11_nextToken 186 = .ok (.iadd, 1) := by decide +kernel
theorem dX11_nextToken_187 : decode cX11_nextToken 187 = .ok (.putfield 100, 3) := by decide +kernel
theorem dX11_nextToken_190 : decode cX11_nextToken 190 = .ok (.goto (-84), 3) := by decide +kernel
theorem dX11_nextToken_193 : decode cX11_nextToken 193 = .ok (.aload_n 0, 1) := by decide +kernel
theorem dX11_nextToken_194 : decode cX11_nextToken 194 = .ok (.getfield 113, 3) := by decide +kernel
theorem dX11_nextToken_197 : decode cX11_nextToken 197 = .ok (.iconst 2, 1) := by decide +kernel
theorem dX11_nextToken_198 : decode cX11_nextToken 198 = .ok (.if_icmp .ne 24, 3) := by decide +kernel
theorem dX11_nextToken_201 : decode cX11_nextToken 201 = .ok (.aload_n 0, 1) := by decide +kernel
theorem dX11_nextToken_202 : decode cX11_nextToken 202 = .ok (.getfield 100, 3) := by decide +kernel
theorem dX11_nextToken_205 : decode cX11_nextToken 205 = .ok (.aload_n 0, 1) := by decide +kernel
theorem dX11_nextToken_206 : decode cX11_nextToken 206 = .ok (.getfield 107, 3) := by decide +kernel
theorem dX11_nextToken_209 : decode cX11_nextToken 209 = .ok (.isub, 1) := by decide +kernel
theorem dX11_nextToken_210 : decode cX11_nextToken 210 = .ok (.iconst 2, 1) := by decide +kernel
theorem dX11_nextToken_211 : decode cX11_nextToken 211 = .ok (.if_icmp .le 11, 3) := by decide +kernel
theorem dX11_nextToken_214 : decode cX11_nextToken 214 = .ok (.aload_n 0, 1) := by decide +kernel
theorem dX11_nextToken_215 : decode cX11_nextToken 215 = .ok (.iconst 0, 1) := by decide +kernel
theorem dX11_nextToken_216 : decode cX11_nextToken 216 = .ok (.putfield 113, 3) := by decide +kernel
theorem dX11_nextToken_219 : decode cX11_nextToken 219 = .ok (.goto 42, 3) := by decide +kernel
theorem dX11_nextToken_222 : decode cX11_nextToken 222 = .ok (.aload_n 0, 1) := by decide +kernel
theorem dX11_nextToken_223 : decode cX11_nextToken 223 = .ok (.getfield 113, 3) := by decide +kernel
theorem dX11_nextToken_226 : decode cX11_nextToken 226 = .ok (.ifCond .ne 35, 3) := by decide +kernel
theorem dX11_nextToken_229 : decode cX11_nextToken 229 = .ok (.aload_n 0, 1) := by decide +kernel
theorem dX11_nextToken_230 : decode cX11_nextToken 230 = .ok (.aload_n 0, 1) := by decide +kernel
theorem dX11_nextToken_231 : decode cX11_nextToken 231 = .ok (.aload_n 0, 1) := by decide +kernel
theorem dX11_nextToken_232 : decode cX11_nextToken 232 = .ok (.getfield 100, 3) := by decide +kernel
theorem dX11_nextToken_235 : decode cX11_nextToken 235 = .ok (.invokevirtual 103, 3) := by decide +kernel
theorem dX11_nextToken_238 : decode cX11_nextToken 238 = .ok (.bipush 59, 2) := by decide +kernel
theorem dX11_nextToken_240 : decode cX11_nextToken 240 = .ok (.if_icmp .ne 7, 3) := by decide +kernel
theorem dX11_nextToken_243 : decode cX11_nextToken 243 = .ok (.iconst 4, 1) := by decide +kernel
theorem dX11_nextToken_244 : decode cX11_nextToken 244 = .ok (.goto 4, 3) := by decide +kernel
theorem dX11_nextToken_247 : decode cX11_nextToken 247 = .ok (.iconst 0, 1) := by decide +kernel
theorem dX11_nextToken_248 : decode cX11_nextToken 248 = .ok (.putfield 113, 3) := by decide +kernel
theorem dX11_nextToken_251 : decode cX11_nextToken 251 = .ok (.aload_n 0, 1) := by decide +kernel
theorem dX11_nextToken_252 : decode cX11_nextToken 252 = .ok (.dup, 1) := by decide +kernel
theorem dX11_nextToken_253 : decode cX11_nextToken 253 = .ok (.getfield 100, 3) := by decide +kernel
theorem dX11_nextToken_256 : decode cX11_nextToken 256 = .ok (.iconst 1, 1) := by decide +kernel
theorem dX11_nextToken_257 : decode cX11_nextToken 257 = .ok (.iadd, 1) := by decide +kernel
theorem dX11_nextToken_258 : decode cX11_nextToken 258 = .ok (.putfield 100, 3) := by decide +kernel
theorem dX11_nextToken_261 : decode cX11_nextToken 261 = .ok (.return_, 1) := by decide +kernel
def s_X11_nextToken_0 (N : gMem) : Option (gMem ⊕ gMem) := Option.bind (x_X11_byteAt N (N.1 0 59 6)) (fun v1 => (if v1 = 32 then some (.inl (gwr N 0 59 6 ((N.1 0 59 6) + 1))) else some (.inr N)))
def s_X11_nextToken_59 (N : gMem) : Option (gMem ⊕ gMem) := Option.bind (x_X11_byteAt N (N.1 0 59 6)) (fun v6 => Option.bind (x_X11_in (Int32.toInt64 v6) 97 122) (fun v8 => (if v8 = 0 then some (.inr N) else (if 2 ≤ (N.1 0 59 7) then some (.inr N) else some (.inl (gwr (gwr N 0 59 7 1) 0 59 6 (((gwr N 0 59 7 1).1 0 59 6) + 1)))))))
def j_X11_nextToken_106_177 (N : gMem) (t0 : Int32) : Option (gMem ⊕ gMem) := some (.inl (gwr (gwr N 0 59 8 t0) 0 59 6 (((gwr N 0 59 8 t0).1 0 59 6) + 1)))
def s_X11_nextToken_106 (N : gMem) : Option (gMem ⊕ gMem) := Option.bind (x_X11_byteAt N (N.1 0 59 6)) (fun v14 => Option.bind (x_X11_in (Int32.toInt64 v14) 48 57) (fun v16 => (if v16 = 0 then some (.inr N) else (if (N.1 0 59 7) = 1 then some (.inr N) else (if ((gwr N 0 59 7 2).1 0 59 8) ≤ 99 then gd (gin ((gwr N 0 59 7 2).1 0 59 6) 150) (j_X11_nextToken_106_177 (gwr N 0 59 7 2) (((10 * ((gwr N 0 59 7 2).1 0 59 8)) + ((gwr N 0 59 7 2).1 0 62 ((gwr N 0 59 7 2).1 0 59 6).toNatClampNeg)) - 48)) else j_X11_nextToken_106_177 (gwr N 0 59 7 2) ((gwr N 0 59 7 2).1 0 59 8))))))
def j_X11_nextToken_248 (M : gMem) (N : gMem) (t0 : Int32) : Option gMem := some (gwr (gwr N 0 59 7 t0) 0 59 6 (((gwr N 0 59 7 t0).1 0 59 6) + 1))
def j_X11_nextToken_222 (M : gMem) (N : gMem) : Option gMem := (if (N.1 0 59 7) = 0 then Option.bind (x_X11_byteAt N (N.1 0 59 6)) (fun v26 => (if v26 = 59 then j_X11_nextToken_248 M N 4 else j_X11_nextToken_248 M N 0)) else some N)
def j_X11_nextToken_56 (M : gMem) (N : gMem) (t0 : Int32) : Option gMem := Option.bind (itr FU (fun s => s_X11_nextToken_59 s) (gwr N 0 59 7 t0)) (fun e13 => Option.bind (itr FU (fun s => s_X11_nextToken_106 s) e13) (fun e23 => (if (e23.1 0 59 7) = 2 then (if ((e23.1 0 59 6) - (e23.1 0 59 9)) ≤ 2 then j_X11_nextToken_222 M e23 else some (gwr e23 0 59 7 0)) else j_X11_nextToken_222 M e23)))
def x_X11_nextToken (M : gMem) : Option gMem := Option.bind (itr FU (fun s => s_X11_nextToken_0 s) M) (fun e4 => (if ((gwr (gwr e4 0 59 9 (e4.1 0 59 6)) 0 59 8 0).1 0 59 6) = ((gwr (gwr e4 0 59 9 (e4.1 0 59 6)) 0 59 8 0).1 0 59 5) then j_X11_nextToken_56 M (gwr (gwr e4 0 59 9 (e4.1 0 59 6)) 0 59 8 0) 3 else j_X11_nextToken_56 M (gwr (gwr e4 0 59 9 (e4.1 0 59 6)) 0 59 8 0) 0))
set_option maxRecDepth 100000 in
set_option maxHeartbeats 4000000 in
theorem w_X11_nextToken_0 {X : gX} {Y : gY} {r : gMem} (hC : gC X Y cX11_nextToken "GuestStaffModel" 1 1 25) (hF : gF X Y none (gQv Y r)) {e : gMem} (kE : ∀ s : gMem, e = s → gWW X Y 1 26 [(0, .ref (gad Y 0 59))] [] s) : ∀ (F : Nat) (s : gMem), itr F (fun s => s_X11_nextToken_0 s) s = some e → gWW X Y 1 0 [(0, .ref (gad Y 0 59))] [] s := by
  intro F s
  refine itr_w (P := fun s => gWW X Y 1 0 [(0, .ref (gad Y 0 59))] [] s) (fun s o hx kI kx => ?_) F s
  obtain ⟨N, rfl⟩ : ∃ z, z = s := ⟨s, rfl⟩
  have hx : s_X11_nextToken_0 N = some o := hx
  have kE : ∀ s : gMem, o = .inr s → gWW X Y 1 26 [(0, .ref (gad Y 0 59))] [] s := fun s q => kE s (kx _ q).symm
  unfold s_X11_nextToken_0 at hx
  refine q_aload_n hC 0 dX11_nextToken_0 rfl rfl ?_
  refine q_aload_n hC 0 dX11_nextToken_1 rfl rfl ?_
  refine gf_X11_100 hC dX11_nextToken_2 ?_
  obtain ⟨v1, q2, hx⟩ := gb_e hx
  refine q_kip (q_rV (As := [.int (N.1 0 59 6)]) (rest := []) hC mm_X11_byteAt wM_X11_103 (c_X11_byteAt q2) ⟨rfl, rfl, Nat.le_of_ble_eq_true rfl, Nat.le_of_ble_eq_true rfl⟩ (gV_t (by decide) (by decide)) rfl rfl rfl rfl (Nat.le_of_ble_eq_true rfl) dX11_nextToken_5) ?_
  refine q_bipush hC 32 dX11_nextToken_8 rfl ?_
  refine q_ic_ne hC 26 dX11_nextToken_10 rfl (fun h3 => ?_) (fun h3 => ?_)
  · have hx := gi_n h3 hx
    exact q_sub [0] rfl (kE N (Option.some.inj hx).symm)
  · have hx := gi_p h3 hx
    refine q_aload_n hC 0 dX11_nextToken_13 rfl rfl ?_
    refine q_dup hC dX11_nextToken_14 rfl ?_
    refine gf_X11_100 hC dX11_nextToken_15 ?_
    refine q_iconst hC 1 dX11_nextToken_18 rfl ?_
    refine q_iadd hC dX11_nextToken_19 ?_
    refine pf_X11_100 hC dX11_nextToken_20 ?_
    refine q_goto hC 0 dX11_nextToken_23 rfl ?_
    exact q_sub [0] rfl (kI (gwr N 0 59 6 ((N.1 0 59 6) + 1)) (Option.some.inj hx).symm)
set_option maxRecDepth 100000 in
set_option maxHeartbeats 4000000 in
theorem w_X11_nextToken_59 {X : gX} {Y : gY} {r : gMem} (hC : gC X Y cX11_nextToken "GuestStaffModel" 1 1 25) (hF : gF X Y none (gQv Y r)) {e : gMem} (kE : ∀ s : gMem, e = s → gWW X Y 1 106 [(0, .ref (gad Y 0 59))] [] s) : ∀ (F : Nat) (s : gMem), itr F (fun s => s_X11_nextToken_59 s) s = some e → gWW X Y 1 59 [(0, .ref (gad Y 0 59))] [] s := by
  intro F s
  refine itr_w (P := fun s => gWW X Y 1 59 [(0, .ref (gad Y 0 59))] [] s) (fun s o hx kI kx => ?_) F s
  obtain ⟨N, rfl⟩ : ∃ z, z = s := ⟨s, rfl⟩
  have hx : s_X11_nextToken_59 N = some o := hx
  have kE : ∀ s : gMem, o = .inr s → gWW X Y 1 106 [(0, .ref (gad Y 0 59))] [] s := fun s q => kE s (kx _ q).symm
  unfold s_X11_nextToken_59 at hx
  refine q_aload_n hC 0 dX11_nextToken_59 rfl rfl ?_
  refine q_aload_n hC 0 dX11_nextToken_60 rfl rfl ?_
  refine gf_X11_100 hC dX11_nextToken_61 ?_
  obtain ⟨v6, q7, hx⟩ := gb_e hx
  refine q_kip (q_rV (As := [.int (N.1 0 59 6)]) (rest := []) hC mm_X11_byteAt wM_X11_103 (c_X11_byteAt q7) ⟨rfl, rfl, Nat.le_of_ble_eq_true rfl, Nat.le_of_ble_eq_true rfl⟩ (gV_t (by decide) (by decide)) rfl rfl rfl rfl (Nat.le_of_ble_eq_true rfl) dX11_nextToken_64) ?_
  refine q_i2l hC dX11_nextToken_67 ?_
  refine q_ldc2 hC 97 dX11_nextToken_68 wC_X11_116 ?_
  refine q_ldc2 hC 122 dX11_nextToken_71 wC_X11_118 ?_
  obtain ⟨v8, q9, hx⟩ := gb_e hx
  refine q_kzp (q_rS (As := [.long (Int32.toInt64 v6), .long 97, .long 122]) (rest := []) hC mm_X11_in wM_X11_57 (c_X11_in q9) ⟨rfl, rfl, Nat.le_of_ble_eq_true rfl, Nat.le_of_ble_eq_true rfl⟩ rfl rfl (Nat.le_of_ble_eq_true rfl) dX11_nextToken_74) (fun z10 => ?_)
  refine q_if_eq hC 106 dX11_nextToken_77 rfl (fun h11 => ?_) (fun h11 => ?_)
  · have hx := gi_p h11 hx
    exact q_sub [0] rfl (kE N (Option.some.inj hx).symm)
  · have hx := gi_n h11 hx
    refine q_aload_n hC 0 dX11_nextToken_80 rfl rfl ?_
    refine gf_X11_113 hC dX11_nextToken_81 ?_
    refine q_iconst hC 2 dX11_nextToken_84 rfl ?_
    refine q_ic_ge hC 106 dX11_nextToken_85 rfl (fun h12 => ?_) (fun h12 => ?_)
    · have hx := gi_p h12 hx
      exact q_sub [0] rfl (kE N (Option.some.inj hx).symm)
    · have hx := gi_n h12 hx
      refine q_aload_n hC 0 dX11_nextToken_88 rfl rfl ?_
      refine q_iconst hC 1 dX11_nextToken_89 rfl ?_
      refine pf_X11_113 hC dX11_nextToken_90 ?_
      refine q_aload_n hC 0 dX11_nextToken_93 rfl rfl ?_
      refine q_dup hC dX11_nextToken_94 rfl ?_
      refine gf_X11_100 hC dX11_nextToken_95 ?_
      refine q_iconst hC 1 dX11_nextToken_98 rfl ?_
      refine q_iadd hC dX11_nextToken_99 ?_
      refine pf_X11_100 hC dX11_nextToken_100 ?_
      refine q_goto hC 59 dX11_nextToken_103 rfl ?_
      exact q_sub [0] rfl (kI (gwr (gwr N 0 59 7 1) 0 59 6 (((gwr N 0 59 7 1).1 0 59 6) + 1)) (Option.some.inj hx).symm)
set_option maxRecDepth 100000 in
set_option maxHeartbeats 4000000 in
theorem w_X11_nextToken_106 {X : gX} {Y : gY} {r : gMem} (hC : gC X Y cX11_nextToken "GuestStaffModel" 1 1 25) (hF : gF X Y none (gQv Y r)) {e : gMem} (kE : ∀ s : gMem, e = s → gWW X Y 1 193 [(0, .ref (gad Y 0 59))] [] s) : ∀ (F : Nat) (s : gMem), itr F (fun s => s_X11_nextToken_106 s) s = some e → gWW X Y 1 106 [(0, .ref (gad Y 0 59))] [] s := by
  intro F s
  refine itr_w (P := fun s => gWW X Y 1 106 [(0, .ref (gad Y 0 59))] [] s) (fun s o hx kI kx => ?_) F s
  obtain ⟨N, rfl⟩ : ∃ z, z = s := ⟨s, rfl⟩
  have hx : s_X11_nextToken_106 N = some o := hx
  have kE : ∀ s : gMem, o = .inr s → gWW X Y 1 193 [(0, .ref (gad Y 0 59))] [] s := fun s q => kE s (kx _ q).symm
  have J177 : ∀ (N : gMem) (t0 : Int32) , j_X11_nextToken_106_177 N t0 = some o → gWW X Y 1 177 [(0, .ref (gad Y 0 59))] [.int t0, .ref (gad Y 0 59)] N := by
    intro N t0 hx
    unfold j_X11_nextToken_106_177 at hx
    refine pf_X11_110 hC dX11_nextToken_177 ?_
    refine q_aload_n hC 0 dX11_nextToken_180 rfl rfl ?_
    refine q_dup hC dX11_nextToken_181 rfl ?_
    refine gf_X11_100 hC dX11_nextToken_182 ?_
    refine q_iconst hC 1 dX11_nextToken_185 rfl ?_
    refine q_iadd hC dX11_nextToken_186 ?_
    refine pf_X11_100 hC dX11_nextToken_187 ?_
    refine q_goto hC 106 dX11_nextToken_190 rfl ?_
    exact q_sub [0] rfl (kI (gwr (gwr N 0 59 8 t0) 0 59 6 (((gwr N 0 59 8 t0).1 0 59 6) + 1)) (Option.some.inj hx).symm)
  unfold s_X11_nextToken_106 at hx
  refine q_aload_n hC 0 dX11_nextToken_106 rfl rfl ?_
  refine q_aload_n hC 0 dX11_nextToken_107 rfl rfl ?_
  refine gf_X11_100 hC dX11_nextToken_108 ?_
  obtain ⟨v14, q15, hx⟩ := gb_e hx
  refine q_kip (q_rV (As := [.int (N.1 0 59 6)]) (rest := []) hC mm_X11_byteAt wM_X11_103 (c_X11_byteAt q15) ⟨rfl, rfl, Nat.le_of_ble_eq_true rfl, Nat.le_of_ble_eq_true rfl⟩ (gV_t (by decide) (by decide)) rfl rfl rfl rfl (Nat.le_of_ble_eq_true rfl) dX11_nextToken_111) ?_
  refine q_i2l hC dX11_nextToken_114 ?_
  refine q_ldc2 hC 48 dX11_nextToken_115 wC_X11_120 ?_
  refine q_ldc2 hC 57 dX11_nextToken_118 wC_X11_122 ?_
  obtain ⟨v16, q17, hx⟩ := gb_e hx
  refine q_kzp (q_rS (As := [.long (Int32.toInt64 v14), .long 48, .long 57]) (rest := []) hC mm_X11_in wM_X11_57 (c_X11_in q17) ⟨rfl, rfl, Nat.le_of_ble_eq_true rfl, Nat.le_of_ble_eq_true rfl⟩ rfl rfl (Nat.le_of_ble_eq_true rfl) dX11_nextToken_121) (fun z18 => ?_)
  refine q_if_eq hC 193 dX11_nextToken_124 rfl (fun h19 => ?_) (fun h19 => ?_)
  · have hx := gi_p h19 hx
    exact q_sub [0] rfl (kE N (Option.some.inj hx).symm)
  · have hx := gi_n h19 hx
    refine q_aload_n hC 0 dX11_nextToken_127 rfl rfl ?_
    refine gf_X11_113 hC dX11_nextToken_128 ?_
    refine q_iconst hC 1 dX11_nextToken_131 rfl ?_
    refine q_ic_eq hC 193 dX11_nextToken_132 rfl (fun h20 => ?_) (fun h20 => ?_)
    · have hx := gi_p h20 hx
      exact q_sub [0] rfl (kE N (Option.some.inj hx).symm)
    · have hx := gi_n h20 hx
      refine q_aload_n hC 0 dX11_nextToken_135 rfl rfl ?_
      refine q_iconst hC 2 dX11_nextToken_136 rfl ?_
      refine pf_X11_113 hC dX11_nextToken_137 ?_
      refine q_aload_n hC 0 dX11_nextToken_140 rfl rfl ?_
      refine q_aload_n hC 0 dX11_nextToken_141 rfl rfl ?_
      refine gf_X11_110 hC dX11_nextToken_142 ?_
      refine q_bipush hC 99 dX11_nextToken_145 rfl ?_
      refine q_ic_le hC 157 dX11_nextToken_147 rfl (fun h21 => ?_) (fun h21 => ?_)
      · have hx := gi_p h21 hx
        refine q_bipush hC 10 dX11_nextToken_157 rfl ?_
        refine q_aload_n hC 0 dX11_nextToken_159 rfl rfl ?_
        refine gf_X11_110 hC dX11_nextToken_160 ?_
        refine q_imul hC dX11_nextToken_163 ?_
        refine q_aload_n hC 0 dX11_nextToken_164 rfl rfl ?_
        refine gf_X11_20 hC dX11_nextToken_165 ?_
        refine q_aload_n hC 0 dX11_nextToken_168 rfl rfl ?_
        refine gf_X11_100 hC dX11_nextToken_169 ?_
        have g22 := (gd_e hx).1
        have hx := (gd_e hx).2
        refine q_iald hC 149 (gV_t (by decide) (by decide)) rfl g22 dX11_nextToken_172 ?_
        refine q_iadd hC dX11_nextToken_173 ?_
        refine q_bipush hC 48 dX11_nextToken_174 rfl ?_
        refine q_isub hC dX11_nextToken_176 ?_
        exact q_sub [0] rfl (J177 (gwr N 0 59 7 2) (((10 * ((gwr N 0 59 7 2).1 0 59 8)) + ((gwr N 0 59 7 2).1 0 62 ((gwr N 0 59 7 2).1 0 59 6).toNatClampNeg)) - 48) hx)
      · have hx := gi_n h21 hx
        refine q_aload_n hC 0 dX11_nextToken_150 rfl rfl ?_
        refine gf_X11_110 hC dX11_nextToken_151 ?_
        refine q_goto hC 177 dX11_nextToken_154 rfl ?_
        exact q_sub [0] rfl (J177 (gwr N 0 59 7 2) ((gwr N 0 59 7 2).1 0 59 8) hx)
set_option maxRecDepth 100000 in
set_option maxHeartbeats 4000000 in
theorem c_X11_nextToken {l : Launch} {Y : gY} {M : gMem} {r : gMem} (hx : x_X11_nextToken M = some r) : Met l yX11_nextToken (gws yX11_nextToken cX11_nextToken 1 none) { frames := 1, cells := 0, slots := 0, locals := 25 } (va_Pc [.ref (gad Y 0 59)] (gS0 Y M)) (gQv Y r) 0 0 (gA Y) := by
  refine gmet (lv := [(0, .ref (gad Y 0 59))]) "GuestStaffModel" (by decide) rfl (Nat.le_of_ble_eq_true rfl) rfl (fun X hC hF => ?_)
  have J248 : ∀ (N : gMem) (t0 : Int32) , j_X11_nextToken_248 M N t0 = some r → gWW X Y 1 248 [(0, .ref (gad Y 0 59))] [.int t0, .ref (gad Y 0 59)] N := by
    intro N t0 hx
    unfold j_X11_nextToken_248 at hx
    refine pf_X11_113 hC dX11_nextToken_248 ?_
    refine q_aload_n hC 0 dX11_nextToken_251 rfl rfl ?_
    refine q_dup hC dX11_nextToken_252 rfl ?_
    refine gf_X11_100 hC dX11_nextToken_253 ?_
    refine q_iconst hC 1 dX11_nextToken_256 rfl ?_
    refine q_iadd hC dX11_nextToken_257 ?_
    refine pf_X11_100 hC dX11_nextToken_258 ?_
    exact q_vret hC hF dX11_nextToken_261 (Option.some.inj hx)
  have J222 : ∀ (N : gMem) , j_X11_nextToken_222 M N = some r → gWW X Y 1 222 [(0, .ref (gad Y 0 59))] [] N := by
    intro N hx
    unfold j_X11_nextToken_222 at hx
    refine q_aload_n hC 0 dX11_nextToken_222 rfl rfl ?_
    refine gf_X11_113 hC dX11_nextToken_223 ?_
    refine q_if_ne hC 261 dX11_nextToken_226 rfl (fun h25 => ?_) (fun h25 => ?_)
    · have hx := gi_n h25 hx
      exact q_vret hC hF dX11_nextToken_261 (Option.some.inj hx)
    · have hx := gi_p h25 hx
      refine q_aload_n hC 0 dX11_nextToken_229 rfl rfl ?_
      refine q_aload_n hC 0 dX11_nextToken_230 rfl rfl ?_
      refine q_aload_n hC 0 dX11_nextToken_231 rfl rfl ?_
      refine gf_X11_100 hC dX11_nextToken_232 ?_
      obtain ⟨v26, q27, hx⟩ := gb_e hx
      refine q_kip (q_rV (As := [.int (N.1 0 59 6)]) (rest := [.ref (gad Y 0 59)]) hC mm_X11_byteAt wM_X11_103 (c_X11_byteAt q27) ⟨rfl, rfl, Nat.le_of_ble_eq_true rfl, Nat.le_of_ble_eq_true rfl⟩ (gV_t (by decide) (by decide)) rfl rfl rfl rfl (Nat.le_of_ble_eq_true rfl) dX11_nextToken_235) ?_
      refine q_bipush hC 59 dX11_nextToken_238 rfl ?_
      refine q_ic_ne hC 247 dX11_nextToken_240 rfl (fun h28 => ?_) (fun h28 => ?_)
      · have hx := gi_n h28 hx
        refine q_iconst hC 0 dX11_nextToken_247 rfl ?_
        exact q_sub [0] rfl (J248 N 0 hx)
      · have hx := gi_p h28 hx
        refine q_iconst hC 4 dX11_nextToken_243 rfl ?_
        refine q_goto hC 248 dX11_nextToken_244 rfl ?_
        exact q_sub [0] rfl (J248 N 4 hx)
  have J56 : ∀ (N : gMem) (t0 : Int32) , j_X11_nextToken_56 M N t0 = some r → gWW X Y 1 56 [(0, .ref (gad Y 0 59))] [.int t0, .ref (gad Y 0 59)] N := by
    intro N t0 hx
    unfold j_X11_nextToken_56 at hx
    refine pf_X11_113 hC dX11_nextToken_56 ?_
    obtain ⟨e13, qe13, hx⟩ := gb_e hx
    refine q_sub [0] rfl (w_X11_nextToken_59 hC hF (e := e13) (fun s q => ?_) _ _ qe13)
    · subst q
      obtain ⟨e23, qe23, hx⟩ := gb_e hx
      refine q_sub [0] rfl (w_X11_nextToken_106 hC hF (e := e23) (fun s q => ?_) _ _ qe23)
      · subst q
        refine q_aload_n hC 0 dX11_nextToken_193 rfl rfl ?_
        refine gf_X11_113 hC dX11_nextToken_194 ?_
        refine q_iconst hC 2 dX11_nextToken_197 rfl ?_
        refine q_ic_ne hC 222 dX11_nextToken_198 rfl (fun h24 => ?_) (fun h24 => ?_)
        · have hx := gi_n h24 hx
          exact q_sub [0] rfl (J222 e23 hx)
        · have hx := gi_p h24 hx
          refine q_aload_n hC 0 dX11_nextToken_201 rfl rfl ?_
          refine gf_X11_100 hC dX11_nextToken_202 ?_
          refine q_aload_n hC 0 dX11_nextToken_205 rfl rfl ?_
          refine gf_X11_107 hC dX11_nextToken_206 ?_
          refine q_isub hC dX11_nextToken_209 ?_
          refine q_iconst hC 2 dX11_nextToken_210 rfl ?_
          refine q_ic_le hC 222 dX11_nextToken_211 rfl (fun h29 => ?_) (fun h29 => ?_)
          · have hx := gi_p h29 hx
            exact q_sub [0] rfl (J222 e23 hx)
          · have hx := gi_n h29 hx
            refine q_aload_n hC 0 dX11_nextToken_214 rfl rfl ?_
            refine q_iconst hC 0 dX11_nextToken_215 rfl ?_
            refine pf_X11_113 hC dX11_nextToken_216 ?_
            refine q_goto hC 261 dX11_nextToken_219 rfl ?_
            exact q_vret hC hF dX11_nextToken_261 (Option.some.inj hx)
  unfold x_X11_nextToken at hx
  obtain ⟨e4, qe4, hx⟩ := gb_e hx
  refine q_sub [0] rfl (w_X11_nextToken_0 hC hF (e := e4) (fun s q => ?_) _ _ qe4)
  · subst q
    refine q_aload_n hC 0 dX11_nextToken_26 rfl rfl ?_
    refine q_aload_n hC 0 dX11_nextToken_27 rfl rfl ?_
    refine gf_X11_100 hC dX11_nextToken_28 ?_
    refine pf_X11_107 hC dX11_nextToken_31 ?_
    refine q_aload_n hC 0 dX11_nextToken_34 rfl rfl ?_
    refine q_iconst hC 0 dX11_nextToken_35 rfl ?_
    refine pf_X11_110 hC dX11_nextToken_36 ?_
    refine q_aload_n hC 0 dX11_nextToken_39 rfl rfl ?_
    refine q_aload_n hC 0 dX11_nextToken_40 rfl rfl ?_
    refine gf_X11_100 hC dX11_nextToken_41 ?_
    refine q_aload_n hC 0 dX11_nextToken_44 rfl rfl ?_
    refine gf_X11_97 hC dX11_nextToken_45 ?_
    refine q_ic_ne hC 55 dX11_nextToken_48 rfl (fun h5 => ?_) (fun h5 => ?_)
    · have hx := gi_n h5 hx
      refine q_iconst hC 0 dX11_nextToken_55 rfl ?_
      exact q_sub [0] rfl (J56 (gwr (gwr e4 0 59 9 (e4.1 0 59 6)) 0 59 8 0) 0 hx)
    · have hx := gi_p h5 hx
      refine q_iconst hC 3 dX11_nextToken_51 rfl ?_
      refine q_goto hC 56 dX11_nextToken_52 rfl ?_
      exact q_sub [0] rfl (J56 (gwr (gwr e4 0 59 9 (e4.1 0 59 6)) 0 59 8 0) 3 hx)

theorem dX11_isWord_0 : decode cX11_isWord 0 = .ok (.iload 5, 2) := by decide +kernel
theorem dX11_isWord_2 : decode cX11_isWord 2 = .ok (.ifCond .ne 7, 3) := by decide +kernel
theorem dX11_isWord_5 : decode cX11_isWord 5 = .ok (.iconst 4, 1) := by decide +kernel
theorem dX11_isWord_6 : decode cX11_isWord 6 = .ok (.goto 4, 3) := by decide +kernel
theorem dX11_isWord_9 : decode cX11_isWord 9 = .ok (.iconst 5, 1) := by decide +kernel
theorem dX11_isWord_10 : decode cX11_isWord 10 = .ok (.istore 6, 2) := by decide +kernel
theorem dX11_isWord_12 : decode cX11_isWord 12 = .ok (.aload_n 0, 1) := by decide +kernel
theorem dX11_isWord_13 : decode cX11_isWord 13 = .ok (.getfield 113, 3) := by decide +kernel
theorem dX11_isWord_16 : decode cX11_isWord 16 = .ok (.iconst 1, 1) := by decide +kernel
theorem dX11_isWord_17 : decode cX11_isWord 17 = .ok (.if_icmp .ne 80, 3) := by decide +kernel
theorem dX11_isWord_20 : decode cX11_isWord 20 = .ok (.aload_n 0, 1) := by decide +kernel
theorem dX11_isWord_21 : decode cX11_isWord 21 = .ok (.getfield 100, 3) := by decide +kernel
theorem dX11_isWord_24 : decode cX11_isWord 24 = .ok (.aload_n 0, 1) := by decide +kernel
theorem dX11_isWord_25 : decode cX11_isWord 25 = .ok (.getfield 107, 3) := by decide +kernel
theorem dX11_isWord_28 : decode cX11_isWord 28 = .ok (.isub, 1) := by decide +kernel
theorem dX11_isWord_29 : decode cX11_isWord 29 = .ok (.iload 6, 2) := by decide +kernel
theorem dX11_isWord_31 : decode cX11_isWord 31 = .ok (.if_icmp .ne 66, 3) := by decide +kernel
theorem dX11_isWord_34 : decode cX11_isWord 34 = .ok (.aload_n 0, 1) := by decide +kernel
theorem dX11_isWord_35 : decode cX11_isWord 35 = .ok (.getfield 20, 3) := by decide +kernel
theorem dX11_isWord_38 : decode cX11_isWord 38 = .ok (.aload_n 0, 1) := by decide +kernel
theorem dX11_isWord_39 : decode cX11_isWord 39 = .ok (.getfield 107, 3) := by decide +kernel
theorem dX11_isWord_42 : decode cX11_isWord 42 = .ok (.iaload, 1) := by decide +kernel
theorem dX11_isWord_43 : decode cX11_isWord 43 = .ok (.iload_n 1, 1) := by decide +kernel
theorem dX11_isWord_44 : decode cX11_isWord 44 = .ok (.if_icmp .ne 53, 3) := by decide +kernel
theorem dX11_isWord_47 : decode cX11_isWord 47 = .ok (.aload_n 0, 1) := by decide +kernel
theorem dX11_isWord_48 : decode cX11_isWord 48 = .ok (.getfield 20, 3) := by decide +kernel
theorem dX11_isWord_51 : decode cX11_isWord 51 = .ok (.aload_n 0, 1) := by decide +kernel
theorem dX11_isWord_52 : decode cX11_isWord 52 = .ok (.getfield 107, 3) := by decide +kernel
theorem dX11_isWord_55 : decode cX11_isWord 55 = .ok (.iconst 1, 1) := by decide +kernel
theorem dX11_isWord_56 : decode cX11_isWord 56 = .ok (.iadd, 1) := by decide +kernel
theorem dX11_isWord_57 : decode cX11_isWord 57 = .ok (.iaload, 1) := by decide +kernel
theorem dX11_isWord_58 : decode cX11_isWord 58 = .ok (.iload_n 2, 1) := by decide +kernel
theorem dX11_isWord_59 : decode cX11_isWord 59 = .ok (.if_icmp .ne 38, 3) := by decide +kernel
theorem dX11_isWord_62 : decode cX11_isWord 62 = .ok (.aload_n 0, 1) := by decide +kernel
theorem dX11_isWord_63 : decode cX11_isWord 63 = .ok (.getfield 20, 3) := by decide +kernel
theorem dX11_isWord_66 : decode cX11_isWord 66 = .ok (.aload_n 0, 1) := by decide +kernel
theorem dX11_isWord_67 : decode cX11_isWord 67 = .ok (.getfield 107, 3) := by decide +kernel
theorem dX11_isWord_70 : decode cX11_isWord 70 = .ok (.iconst 2, 1) := by decide +kernel
theorem dX11_isWord_71 : decode cX11_isWord 71 = .ok (.iadd, 1) := by decide +kernel
theorem dX11_isWord_72 : decode cX11_isWord 72 = .ok (.iaload, 1) := by decide +kernel
theorem dX11_isWord_73 : decode cX11_isWord 73 = .ok (.iload_n 3, 1) := by decide +kernel
theorem dX11_isWord_74 : decode cX11_isWord 74 = .ok (.if_icmp .ne 23, 3) := by decide +kernel
theorem dX11_isWord_77 : decode cX11_isWord 77 = .ok (.aload_n 0, 1) := by decide +kernel
theorem dX11_isWord_78 : decode cX11_isWord 78 = .ok (.getfield 20, 3) := by decide +kernel
theorem dX11_isWord_81 : decode cX11_isWord 81 = .ok (.aload_n 0, 1) := by decide +kernel
theorem dX11_isWord_82 : decode cX11_isWord 82 = .ok (.getfield 107, 3) := by decide +kernel
theorem dX11_isWord_85 : decode cX11_isWord 85 = .ok (.iconst 3, 1) := by decide +kernel
theorem dX11_isWord_86 : decode cX11_isWord 86 = .ok (.iadd, 1) := by decide +kernel
theorem dX11_isWord_87 : decode cX11_isWord 87 = .ok (.iaload, 1) := by decide +kernel
theorem dX11_isWord_88 : decode cX11_isWord 88 = .ok (.iload 4, 2) := by decide +kernel
theorem dX11_isWord_90 : decode cX11_isWord 90 = .ok (.if_icmp .ne 7, 3) := by decide +kernel
theorem dX11_isWord_93 : decode cX11_isWord 93 = .ok (.iconst 1, 1) := by decide +kernel
theorem dX11_isWord_94 : decode cX11_isWord 94 = .ok (.goto 4, 3) := by decide +kernel
theorem dX11_isWord_97 : decode cX11_isWord 97 = .ok (.iconst 0, 1) := by decide +kernel
theorem dX11_isWord_98 : decode cX11_isWord 98 = .ok (.istore 7, 2) := by decide +kernel
theorem dX11_isWord_100 : decode cX11_isWord 100 = .ok (.iload 7, 2) := by decide +kernel
theorem dX11_isWord_102 : decode cX11_isWord 102 = .ok (.ifCond .eq 29, 3) := by decide +kernel
theorem dX11_isWord_105 : decode cX11_isWord 105 = .ok (.iload 6, 2) := by decide +kernel
theorem dX11_isWord_107 : decode cX11_isWord 107 = .ok (.iconst 5, 1) := by decide +kernel
theorem dX11_isWord_108 : decode cX11_isWord 108 = .ok (.if_icmp .lt 19, 3) := by decide +kernel
theorem dX11_isWord_111 : decode cX11_isWord 111 = .ok (.aload_n 0, 1) := by decide +kernel
theorem dX11_isWord_112 : decode cX11_isWord 112 = .ok (.getfield 20, 3) := by decide +kernel
theorem dX11_isWord_115 : decode cX11_isWord 115 = .ok (.aload_n 0, 1) := by decide +kernel
theorem dX11_isWord_116 : decode cX11_isWord 116 = .ok (.getfield 107, 3) := by decide +kernel
theorem dX11_isWord_119 : decode cX11_isWord 119 = .ok (.iconst 4, 1) := by decide +kernel
theorem dX11_isWord_120 : decode cX11_isWord 120 = .ok (.iadd, 1) := by decide +kernel
theorem dX11_isWord_121 : decode cX11_isWord 121 = .ok (.iaload, 1) := by decide +kernel
theorem dX11_isWord_122 : decode cX11_isWord 122 = .ok (.iload 5, 2) := by decide +kernel
theorem dX11_isWord_124 : decode cX11_isWord 124 = .ok (.if_icmp .ne 7, 3) := by decide +kernel
theorem dX11_isWord_127 : decode cX11_isWord 127 = .ok (.iconst 1, 1) := by decide +kernel
theorem dX11_isWord_128 : decode cX11_isWord 128 = .ok (.goto 4, 3) := by decide +kernel
theorem dX11_isWord_131 : decode cX11_isWord 131 = .ok (.iconst 0, 1) := by decide +kernel
theorem dX11_isWord_132 : decode cX11_isWord 132 = .ok (.ireturn, 1) := by decide +kernel
def j_X11_isWord_98 (M : gMem) (p1 : Int32) (p2 : Int32) (p3 : Int32) (p4 : Int32) (p5 : Int32) (b6 : Int32) (t0 : Int32) : Option Int32 := (if t0 = 0 then some 0 else (if b6 < 5 then some 1 else gd (gin ((M.1 0 59 9) + 4) 150) ((if (M.1 0 62 ((M.1 0 59 9) + 4).toNatClampNeg) = p5 then some 1 else some 0))))
def j_X11_isWord_97 (M : gMem) (p1 : Int32) (p2 : Int32) (p3 : Int32) (p4 : Int32) (p5 : Int32) (b6 : Int32) : Option Int32 := j_X11_isWord_98 M p1 p2 p3 p4 p5 b6 0
def j_X11_isWord_10 (M : gMem) (p1 : Int32) (p2 : Int32) (p3 : Int32) (p4 : Int32) (p5 : Int32) (t0 : Int32) : Option Int32 := (if (M.1 0 59 7) = 1 then (if ((M.1 0 59 6) - (M.1 0 59 9)) = t0 then gd (gin (M.1 0 59 9) 150) ((if (M.1 0 62 (M.1 0 59 9).toNatClampNeg) = p1 then gd (gin ((M.1 0 59 9) + 1) 150) ((if (M.1 0 62 ((M.1 0 59 9) + 1).toNatClampNeg) = p2 then gd (gin ((M.1 0 59 9) + 2) 150) ((if (M.1 0 62 ((M.1 0 59 9) + 2).toNatClampNeg) = p3 then gd (gin ((M.1 0 59 9) + 3) 150) ((if (M.1 0 62 ((M.1 0 59 9) + 3).toNatClampNeg) = p4 then j_X11_isWord_98 M p1 p2 p3 p4 p5 t0 1 else j_X11_isWord_97 M p1 p2 p3 p4 p5 t0)) else j_X11_isWord_97 M p1 p2 p3 p4 p5 t0)) else j_X11_isWord_97 M p1 p2 p3 p4 p5 t0)) else j_X11_isWord_97 M p1 p2 p3 p4 p5 t0)) else j_X11_isWord_97 M p1 p2 p3 p4 p5 t0) else j_X11_isWord_97 M p1 p2 p3 p4 p5 t0)
def x_X11_isWord (M : gMem) (p1 : Int32) (p2 : Int32) (p3 : Int32) (p4 : Int32) (p5 : Int32) : Option Int32 := (if p5 = 0 then j_X11_isWord_10 M p1 p2 p3 p4 p5 4 else j_X11_isWord_10 M p1 p2 p3 p4 p5 5)
set_option maxRecDepth 100000 in
set_option maxHeartbeats 4000000 in
theorem c_X11_isWord {l : Launch} {Y : gY} {M : gMem} {p1 : Int32} {p2 : Int32} {p3 : Int32} {p4 : Int32} {p5 : Int32} {r : Int32} (hx : x_X11_isWord M p1 p2 p3 p4 p5 = some r) : Met l yX11_isWord (gws yX11_isWord cX11_isWord 8 (some .boolean)) { frames := 0, cells := 0, slots := 0, locals := 0 } (va_Pc [.ref (gad Y 0 59), .int p1, .int p2, .int p3, .int p4, .int p5] (gS0 Y M)) (gQz Y (r, M)) 0 0 (gA Y) := by
  refine gmet (lv := [(0, .ref (gad Y 0 59)), (1, .int p1), (2, .int p2), (3, .int p3), (4, .int p4), (5, .int p5)]) "GuestStaffModel" (by decide) rfl (Nat.le_of_ble_eq_true rfl) rfl (fun X hC hF => ?_)
  have J98 : ∀ (b6 : Int32) (t0 : Int32) , j_X11_isWord_98 M p1 p2 p3 p4 p5 b6 t0 = some r → gWW X Y 8 98 [(0, .ref (gad Y 0 59)), (5, .int p5), (6, .int b6)] [.int t0] M := by
    intro b6 t0 hx
    unfold j_X11_isWord_98 at hx
    refine q_istore hC [(7, .int t0), (0, .ref (gad Y 0 59)), (5, .int p5), (6, .int b6)] dX11_isWord_98 (by decide) rfl ?_
    refine q_iload hC 0 dX11_isWord_100 rfl ?_
    refine q_if_eq hC 131 dX11_isWord_102 rfl (fun h3 => ?_) (fun h3 => ?_)
    · have hx := gi_p h3 hx
      refine q_iconst hC 0 dX11_isWord_131 rfl ?_
      exact q_zret hC hF dX11_isWord_132 (Or.inl rfl) (congrArg (fun z => (z, M)) (Option.some.inj hx))
    · have hx := gi_n h3 hx
      refine q_iload hC 3 dX11_isWord_105 rfl ?_
      refine q_iconst hC 5 dX11_isWord_107 rfl ?_
      refine q_ic_lt hC 127 dX11_isWord_108 rfl (fun h4 => ?_) (fun h4 => ?_)
      · have hx := gi_p h4 hx
        refine q_iconst hC 1 dX11_isWord_127 rfl ?_
        refine q_goto hC 132 dX11_isWord_128 rfl ?_
        exact q_zret hC hF dX11_isWord_132 (Or.inr rfl) (congrArg (fun z => (z, M)) (Option.some.inj hx))
      · have hx := gi_n h4 hx
        refine q_aload_n hC 1 dX11_isWord_111 rfl rfl ?_
        refine gf_X11_20 hC dX11_isWord_112 ?_
        refine q_aload_n hC 1 dX11_isWord_115 rfl rfl ?_
        refine gf_X11_107 hC dX11_isWord_116 ?_
        refine q_iconst hC 4 dX11_isWord_119 rfl ?_
        refine q_iadd hC dX11_isWord_120 ?_
        have g5 := (gd_e hx).1
        have hx := (gd_e hx).2
        refine q_iald hC 149 (gV_t (by decide) (by decide)) rfl g5 dX11_isWord_121 ?_
        refine q_iload hC 2 dX11_isWord_122 rfl ?_
        refine q_ic_ne hC 131 dX11_isWord_124 rfl (fun h6 => ?_) (fun h6 => ?_)
        · have hx := gi_n h6 hx
          refine q_iconst hC 0 dX11_isWord_131 rfl ?_
          exact q_zret hC hF dX11_isWord_132 (Or.inl rfl) (congrArg (fun z => (z, M)) (Option.some.inj hx))
        · have hx := gi_p h6 hx
          refine q_iconst hC 1 dX11_isWord_127 rfl ?_
          refine q_goto hC 132 dX11_isWord_128 rfl ?_
          exact q_zret hC hF dX11_isWord_132 (Or.inr rfl) (congrArg (fun z => (z, M)) (Option.some.inj hx))
  have J97 : ∀ (b6 : Int32) , j_X11_isWord_97 M p1 p2 p3 p4 p5 b6 = some r → gWW X Y 8 97 [(0, .ref (gad Y 0 59)), (5, .int p5), (6, .int b6)] [] M := by
    intro b6 hx
    unfold j_X11_isWord_97 at hx
    refine q_iconst hC 0 dX11_isWord_97 rfl ?_
    exact q_sub [0, 1, 2] rfl (J98 b6 0 hx)
  have J10 : ∀ (t0 : Int32) , j_X11_isWord_10 M p1 p2 p3 p4 p5 t0 = some r → gWW X Y 8 10 [(0, .ref (gad Y 0 59)), (1, .int p1), (2, .int p2), (3, .int p3), (4, .int p4), (5, .int p5)] [.int t0] M := by
    intro t0 hx
    unfold j_X11_isWord_10 at hx
    refine q_istore hC [(6, .int t0), (0, .ref (gad Y 0 59)), (1, .int p1), (2, .int p2), (3, .int p3), (4, .int p4), (5, .int p5)] dX11_isWord_10 (by decide) rfl ?_
    refine q_aload_n hC 1 dX11_isWord_12 rfl rfl ?_
    refine gf_X11_113 hC dX11_isWord_13 ?_
    refine q_iconst hC 1 dX11_isWord_16 rfl ?_
    refine q_ic_ne hC 97 dX11_isWord_17 rfl (fun h2 => ?_) (fun h2 => ?_)
    · have hx := gi_n h2 hx
      exact q_sub [1, 6, 0] rfl (J97 t0 hx)
    · have hx := gi_p h2 hx
      refine q_aload_n hC 1 dX11_isWord_20 rfl rfl ?_
      refine gf_X11_100 hC dX11_isWord_21 ?_
      refine q_aload_n hC 1 dX11_isWord_24 rfl rfl ?_
      refine gf_X11_107 hC dX11_isWord_25 ?_
      refine q_isub hC dX11_isWord_28 ?_
      refine q_iload hC 0 dX11_isWord_29 rfl ?_
      refine q_ic_ne hC 97 dX11_isWord_31 rfl (fun h7 => ?_) (fun h7 => ?_)
      · have hx := gi_n h7 hx
        exact q_sub [1, 6, 0] rfl (J97 t0 hx)
      · have hx := gi_p h7 hx
        refine q_aload_n hC 1 dX11_isWord_34 rfl rfl ?_
        refine gf_X11_20 hC dX11_isWord_35 ?_
        refine q_aload_n hC 1 dX11_isWord_38 rfl rfl ?_
        refine gf_X11_107 hC dX11_isWord_39 ?_
        have g8 := (gd_e hx).1
        have hx := (gd_e hx).2
        refine q_iald hC 149 (gV_t (by decide) (by decide)) rfl g8 dX11_isWord_42 ?_
        refine q_iload_n hC 2 dX11_isWord_43 rfl rfl ?_
        refine q_ic_ne hC 97 dX11_isWord_44 rfl (fun h9 => ?_) (fun h9 => ?_)
        · have hx := gi_n h9 hx
          exact q_sub [1, 6, 0] rfl (J97 t0 hx)
        · have hx := gi_p h9 hx
          refine q_aload_n hC 1 dX11_isWord_47 rfl rfl ?_
          refine gf_X11_20 hC dX11_isWord_48 ?_
          refine q_aload_n hC 1 dX11_isWord_51 rfl rfl ?_
          refine gf_X11_107 hC dX11_isWord_52 ?_
          refine q_iconst hC 1 dX11_isWord_55 rfl ?_
          refine q_iadd hC dX11_isWord_56 ?_
          have g10 := (gd_e hx).1
          have hx := (gd_e hx).2
          refine q_iald hC 149 (gV_t (by decide) (by decide)) rfl g10 dX11_isWord_57 ?_
          refine q_iload_n hC 3 dX11_isWord_58 rfl rfl ?_
          refine q_ic_ne hC 97 dX11_isWord_59 rfl (fun h11 => ?_) (fun h11 => ?_)
          · have hx := gi_n h11 hx
            exact q_sub [1, 6, 0] rfl (J97 t0 hx)
          · have hx := gi_p h11 hx
            refine q_aload_n hC 1 dX11_isWord_62 rfl rfl ?_
            refine gf_X11_20 hC dX11_isWord_63 ?_
            refine q_aload_n hC 1 dX11_isWord_66 rfl rfl ?_
            refine gf_X11_107 hC dX11_isWord_67 ?_
            refine q_iconst hC 2 dX11_isWord_70 rfl ?_
            refine q_iadd hC dX11_isWord_71 ?_
            have g12 := (gd_e hx).1
            have hx := (gd_e hx).2
            refine q_iald hC 149 (gV_t (by decide) (by decide)) rfl g12 dX11_isWord_72 ?_
            refine q_iload_n hC 4 dX11_isWord_73 rfl rfl ?_
            refine q_ic_ne hC 97 dX11_isWord_74 rfl (fun h13 => ?_) (fun h13 => ?_)
            · have hx := gi_n h13 hx
              exact q_sub [1, 6, 0] rfl (J97 t0 hx)
            · have hx := gi_p h13 hx
              refine q_aload_n hC 1 dX11_isWord_77 rfl rfl ?_
              refine gf_X11_20 hC dX11_isWord_78 ?_
              refine q_aload_n hC 1 dX11_isWord_81 rfl rfl ?_
              refine gf_X11_107 hC dX11_isWord_82 ?_
              refine q_iconst hC 3 dX11_isWord_85 rfl ?_
              refine q_iadd hC dX11_isWord_86 ?_
              have g14 := (gd_e hx).1
              have hx := (gd_e hx).2
              refine q_iald hC 149 (gV_t (by decide) (by decide)) rfl g14 dX11_isWord_87 ?_
              refine q_iload hC 5 dX11_isWord_88 rfl ?_
              refine q_ic_ne hC 97 dX11_isWord_90 rfl (fun h15 => ?_) (fun h15 => ?_)
              · have hx := gi_n h15 hx
                exact q_sub [1, 6, 0] rfl (J97 t0 hx)
              · have hx := gi_p h15 hx
                refine q_iconst hC 1 dX11_isWord_93 rfl ?_
                refine q_goto hC 98 dX11_isWord_94 rfl ?_
                exact q_sub [1, 6, 0] rfl (J98 t0 1 hx)
  unfold x_X11_isWord at hx
  refine q_iload hC 5 dX11_isWord_0 rfl ?_
  refine q_if_ne hC 9 dX11_isWord_2 rfl (fun h1 => ?_) (fun h1 => ?_)
  · have hx := gi_n h1 hx
    refine q_iconst hC 5 dX11_isWord_9 rfl ?_
    exact q_sub [0, 1, 2, 3, 4, 5] rfl (J10 5 hx)
  · have hx := gi_p h1 hx
    refine q_iconst hC 4 dX11_isWord_5 rfl ?_
    refine q_goto hC 10 dX11_isWord_6 rfl ?_
    exact q_sub [0, 1, 2, 3, 4, 5] rfl (J10 4 hx)

theorem dX11_reads_0 : decode cX11_reads 0 = .ok (.aload_n 0, 1) := by decide +kernel
theorem dX11_reads_1 : decode cX11_reads 1 = .ok (.invokevirtual 124, 3) := by decide +kernel
theorem dX11_reads_4 : decode cX11_reads 4 = .ok (.aload_n 0, 1) := by decide +kernel
theorem dX11_reads_5 : decode cX11_reads 5 = .ok (.getfield 23, 3) := by decide +kernel
theorem dX11_reads_8 : decode cX11_reads 8 = .ok (.iload_n 1, 1) := by decide +kernel
theorem dX11_reads_9 : decode cX11_reads 9 = .ok (.aload_n 0, 1) := by decide +kernel
theorem dX11_reads_10 : decode cX11_reads 10 = .ok (.getfield 110, 3) := by decide +kernel
theorem dX11_reads_13 : decode cX11_reads 13 = .ok (.iastore, 1) := by decide +kernel
theorem dX11_reads_14 : decode cX11_reads 14 = .ok (.aload_n 0, 1) := by decide +kernel
theorem dX11_reads_15 : decode cX11_reads 15 = .ok (.getfield 113, 3) := by decide +kernel
theorem dX11_reads_18 : decode cX11_reads 18 = .ok (.iconst 2, 1) := by decide +kernel
theorem dX11_reads_19 : decode cX11_reads 19 = .ok (.if_icmp .ne 15, 3) := by decide +kernel
theorem dX11_reads_22 : decode cX11_reads 22 = .ok (.aload_n 0, 1) := by decide +kernel
theorem dX11_reads_23 : decode cX11_reads 23 = .ok (.getfield 110, 3) := by decide +kernel
theorem dX11_reads_26 : decode cX11_reads 26 = .ok (.iload_n 2, 1) := by decide +kernel
theorem dX11_reads_27 : decode cX11_reads 27 = .ok (.if_icmp .gt 7, 3) := by decide +kernel
theorem dX11_reads_30 : decode cX11_reads 30 = .ok (.iconst 1, 1) := by decide +kernel
theorem dX11_reads_31 : decode cX11_reads 31 = .ok (.goto 4, 3) := by decide +kernel
theorem dX11_reads_34 : decode cX11_reads 34 = .ok (.iconst 0, 1) := by decide +kernel
theorem dX11_reads_35 : decode cX11_reads 35 = .ok (.ireturn, 1) := by decide +kernel
def x_X11_reads (M : gMem) (p1 : Int32) (p2 : Int32) : Option (Int32 × gMem) := Option.bind (x_X11_nextToken M) (fun v1 => gd (gin p1 2) ((if ((gwr v1 0 63 (p1).toNatClampNeg (v1.1 0 59 8)).1 0 59 7) = 2 then (if p2 < ((gwr v1 0 63 (p1).toNatClampNeg (v1.1 0 59 8)).1 0 59 8) then some (0, gwr v1 0 63 (p1).toNatClampNeg (v1.1 0 59 8)) else some (1, gwr v1 0 63 (p1).toNatClampNeg (v1.1 0 59 8))) else some (0, gwr v1 0 63 (p1).toNatClampNeg (v1.1 0 59 8)))))
set_option maxRecDepth 100000 in
set_option maxHeartbeats 4000000 in
theorem c_X11_reads {l : Launch} {Y : gY} {M : gMem} {p1 : Int32} {p2 : Int32} {r : (Int32 × gMem)} (hx : x_X11_reads M p1 p2 = some r) : Met l yX11_reads (gws yX11_reads cX11_reads 3 (some .boolean)) { frames := 2, cells := 0, slots := 0, locals := 45 } (va_Pc [.ref (gad Y 0 59), .int p1, .int p2] (gS0 Y M)) (gQz Y r) 0 0 (gA Y) := by
  refine gmet (lv := [(0, .ref (gad Y 0 59)), (1, .int p1), (2, .int p2)]) "GuestStaffModel" (by decide) rfl (Nat.le_of_ble_eq_true rfl) rfl (fun X hC hF => ?_)
  unfold x_X11_reads at hx
  refine q_aload_n hC 0 dX11_reads_0 rfl rfl ?_
  obtain ⟨v1, q2, hx⟩ := gb_e hx
  refine q_kv (q_rV (As := []) (rest := []) hC mm_X11_nextToken wM_X11_124 (c_X11_nextToken q2) ⟨rfl, rfl, Nat.le_of_ble_eq_true rfl, Nat.le_of_ble_eq_true rfl⟩ (gV_t (by decide) (by decide)) rfl rfl rfl rfl (Nat.le_of_ble_eq_true rfl) dX11_reads_1) ?_
  refine q_aload_n hC 0 dX11_reads_4 rfl rfl ?_
  refine gf_X11_23 hC dX11_reads_5 ?_
  refine q_iload_n hC 1 dX11_reads_8 rfl rfl ?_
  refine q_aload_n hC 0 dX11_reads_9 rfl rfl ?_
  refine gf_X11_110 hC dX11_reads_10 ?_
  have g3 := (gd_e hx).1
  have hx := (gd_e hx).2
  refine q_iast hC 1 (gV_t (by decide) (by decide)) rfl g3 dX11_reads_13 ?_
  refine q_aload_n hC 0 dX11_reads_14 rfl rfl ?_
  refine gf_X11_113 hC dX11_reads_15 ?_
  refine q_iconst hC 2 dX11_reads_18 rfl ?_
  refine q_ic_ne hC 34 dX11_reads_19 rfl (fun h4 => ?_) (fun h4 => ?_)
  · have hx := gi_n h4 hx
    refine q_iconst hC 0 dX11_reads_34 rfl ?_
    exact q_zret hC hF dX11_reads_35 (Or.inl rfl) (Option.some.inj hx)
  · have hx := gi_p h4 hx
    refine q_aload_n hC 0 dX11_reads_22 rfl rfl ?_
    refine gf_X11_110 hC dX11_reads_23 ?_
    refine q_iload_n hC 2 dX11_reads_26 rfl rfl ?_
    refine q_ic_gt hC 34 dX11_reads_27 rfl (fun h5 => ?_) (fun h5 => ?_)
    · have hx := gi_p h5 hx
      refine q_iconst hC 0 dX11_reads_34 rfl ?_
      exact q_zret hC hF dX11_reads_35 (Or.inl rfl) (Option.some.inj hx)
    · have hx := gi_n h5 hx
      refine q_iconst hC 1 dX11_reads_30 rfl ?_
      refine q_goto hC 35 dX11_reads_31 rfl ?_
      exact q_zret hC hF dX11_reads_35 (Or.inr rfl) (Option.some.inj hx)

theorem dX11_readServices_0 : decode cX11_readServices 0 = .ok (.aload_n 0, 1) := by decide +kernel
theorem dX11_readServices_1 : decode cX11_readServices 1 = .ok (.iconst 0, 1) := by decide +kernel
theorem dX11_readServices_2 : decode cX11_readServices 2 = .ok (.putfield 127, 3) := by decide +kernel
theorem dX11_readServices_5 : decode cX11_readServices 5 = .ok (.aload_n 0, 1) := by decide +kernel
theorem dX11_readServices_6 : decode cX11_readServices 6 = .ok (.invokevirtual 124, 3) := by decide +kernel
theorem dX11_readServices_9 : decode cX11_readServices 9 = .ok (.aload_n 0, 1) := by decide +kernel
theorem dX11_readServices_10 : decode cX11_readServices 10 = .ok (.getfield 113, 3) := by decide +kernel
theorem dX11_readServices_13 : decode cX11_readServices 13 = .ok (.iconst 2, 1) := by decide +kernel
theorem dX11_readServices_14 : decode cX11_readServices 14 = .ok (.if_icmp .ne 34, 3) := by decide +kernel
theorem dX11_readServices_17 : decode cX11_readServices 17 = .ok (.aload_n 0, 1) := by decide +kernel
theorem dX11_readServices_18 : decode cX11_readServices 18 = .ok (.getfield 110, 3) := by decide +kernel
theorem dX11_readServices_21 : decode cX11_readServices 21 = .ok (.bipush 8, 2) := by decide +kernel
theorem dX11_readServices_23 : decode cX11_readServices 23 = .ok (.if_icmp .ge 25, 3) := by decide +kernel
theorem dX11_readServices_26 : decode cX11_readServices 26 = .ok (.aload_n 0, 1) := by decide +kernel
theorem dX11_readServices_27 : decode cX11_readServices 27 = .ok (.dup, 1) := by decide +kernel
theorem dX11_readServices_28 : decode cX11_readServices 28 = .ok (.getfield 127, 3) := by decide +kernel
theorem dX11_readServices_31 : decode cX11_readServices 31 = .ok (.iconst 1, 1) := by decide +kernel
theorem dX11_readServices_32 : decode cX11_readServices 32 = .ok (.aload_n 0, 1) := by decide +kernel
theorem dX11_readServices_33 : decode cX11_readServices 33 = .ok (.getfield 110, 3) := by decide +kernel
theorem dX11_readServices_36 : decode cX11_readServices 36 = .ok (.ishl, 1) := by decide +kernel
theorem dX11_readServices_37 : decode cX11_readServices 37 = .ok (.ior, 1) := by decide +kernel
theorem dX11_readServices_38 : decode cX11_readServices 38 = .ok (.putfield 127, 3) := by decide +kernel
theorem dX11_readServices_41 : decode cX11_readServices 41 = .ok (.aload_n 0, 1) := by decide +kernel
theorem dX11_readServices_42 : decode cX11_readServices 42 = .ok (.invokevirtual 124, 3) := by decide +kernel
theorem dX11_readServices_45 : decode cX11_readServices 45 = .ok (.goto (-36), 3) := by decide +kernel
theorem dX11_readServices_48 : decode cX11_readServices 48 = .ok (.aload_n 0, 1) := by decide +kernel
theorem dX11_readServices_49 : decode cX11_readServices 49 = .ok (.getfield 113, 3) := by decide +kernel
theorem dX11_readServices_52 : decode cX11_readServices 52 = .ok (.iconst 4, 1) := by decide +kernel
theorem dX11_readServices_53 : decode cX11_readServices 53 = .ok (.if_icmp .ne 7, 3) := by decide +kernel
theorem dX11_readServices_56 : decode cX11_readServices 56 = .ok (.iconst 1, 1) := by decide +kernel
theorem dX11_readServices_57 : decode cX11_readServices 57 = .ok (.goto 4, 3) := by decide +kernel
theorem dX11_readServices_60 : decode cX11_readServices 60 = .ok (.iconst 0, 1) := by decide +kernel
theorem dX11_readServices_61 : decode cX11_readServices 61 = .ok (.ireturn, 1) := by decide +kernel
def s_X11_readServices_9 (N : gMem) : Option (gMem ⊕ gMem) := (if (N.1 0 59 7) = 2 then (if 8 ≤ (N.1 0 59 8) then some (.inr N) else Option.bind (x_X11_nextToken (gwr N 0 59 11 ((N.1 0 59 11) ||| (1 <<< ((N.1 0 59 8) &&& 31))))) (fun v5 => some (.inl v5))) else some (.inr N))
def x_X11_readServices (M : gMem) : Option (Int32 × gMem) := Option.bind (x_X11_nextToken (gwr M 0 59 11 0)) (fun v1 => Option.bind (itr FU (fun s => s_X11_readServices_9 s) v1) (fun e7 => (if (e7.1 0 59 7) = 4 then some (1, e7) else some (0, e7))))
set_option maxRecDepth 100000 in
set_option maxHeartbeats 4000000 in
theorem w_X11_readServices_9 {X : gX} {Y : gY} {r : (Int32 × gMem)} (hC : gC X Y cX11_readServices "GuestStaffModel" 1 2 45) (hF : gF X Y (some .boolean) (gQz Y r)) {e : gMem} (kE : ∀ s : gMem, e = s → gWW X Y 1 48 [(0, .ref (gad Y 0 59))] [] s) : ∀ (F : Nat) (s : gMem), itr F (fun s => s_X11_readServices_9 s) s = some e → gWW X Y 1 9 [(0, .ref (gad Y 0 59))] [] s := by
  intro F s
  refine itr_w (P := fun s => gWW X Y 1 9 [(0, .ref (gad Y 0 59))] [] s) (fun s o hx kI kx => ?_) F s
  obtain ⟨N, rfl⟩ : ∃ z, z = s := ⟨s, rfl⟩
  have hx : s_X11_readServices_9 N = some o := hx
  have kE : ∀ s : gMem, o = .inr s → gWW X Y 1 48 [(0, .ref (gad Y 0 59))] [] s := fun s q => kE s (kx _ q).symm
  unfold s_X11_readServices_9 at hx
  refine q_aload_n hC 0 dX11_readServices_9 rfl rfl ?_
  refine gf_X11_113 hC dX11_readServices_10 ?_
  refine q_iconst hC 2 dX11_readServices_13 rfl ?_
  refine q_ic_ne hC 48 dX11_readServices_14 rfl (fun h3 => ?_) (fun h3 => ?_)
  · have hx := gi_n h3 hx
    exact q_sub [0] rfl (kE N (Option.some.inj hx).symm)
  · have hx := gi_p h3 hx
    refine q_aload_n hC 0 dX11_readServices_17 rfl rfl ?_
    refine gf_X11_110 hC dX11_readServices_18 ?_
    refine q_bipush hC 8 dX11_readServices_21 rfl ?_
    refine q_ic_ge hC 48 dX11_readServices_23 rfl (fun h4 => ?_) (fun h4 => ?_)
    · have hx := gi_p h4 hx
      exact q_sub [0] rfl (kE N (Option.some.inj hx).symm)
    · have hx := gi_n h4 hx
      refine q_aload_n hC 0 dX11_readServices_26 rfl rfl ?_
      refine q_dup hC dX11_readServices_27 rfl ?_
      refine gf_X11_127 hC dX11_readServices_28 ?_
      refine q_iconst hC 1 dX11_readServices_31 rfl ?_
      refine q_aload_n hC 0 dX11_readServices_32 rfl rfl ?_
      refine gf_X11_110 hC dX11_readServices_33 ?_
      refine q_ishl hC dX11_readServices_36 ?_
      refine q_ior hC dX11_readServices_37 ?_
      refine pf_X11_127 hC dX11_readServices_38 ?_
      refine q_aload_n hC 0 dX11_readServices_41 rfl rfl ?_
      obtain ⟨v5, q6, hx⟩ := gb_e hx
      refine q_kv (q_rV (As := []) (rest := []) hC mm_X11_nextToken wM_X11_124 (c_X11_nextToken q6) ⟨rfl, rfl, Nat.le_of_ble_eq_true rfl, Nat.le_of_ble_eq_true rfl⟩ (gV_t (by decide) (by decide)) rfl rfl rfl rfl (Nat.le_of_ble_eq_true rfl) dX11_readServices_42) ?_
      refine q_goto hC 9 dX11_readServices_45 rfl ?_
      exact q_sub [0] rfl (kI v5 (Option.some.inj hx).symm)
set_option maxRecDepth 100000 in
set_option maxHeartbeats 4000000 in
theorem c_X11_readServices {l : Launch} {Y : gY} {M : gMem} {r : (Int32 × gMem)} (hx : x_X11_readServices M = some r) : Met l yX11_readServices (gws yX11_readServices cX11_readServices 1 (some .boolean)) { frames := 2, cells := 0, slots := 0, locals := 45 } (va_Pc [.ref (gad Y 0 59)] (gS0 Y M)) (gQz Y r) 0 0 (gA Y) := by
  refine gmet (lv := [(0, .ref (gad Y 0 59))]) "GuestStaffModel" (by decide) rfl (Nat.le_of_ble_eq_true rfl) rfl (fun X hC hF => ?_)
  unfold x_X11_readServices at hx
  refine q_aload_n hC 0 dX11_readServices_0 rfl rfl ?_
  refine q_iconst hC 0 dX11_readServices_1 rfl ?_
  refine pf_X11_127 hC dX11_readServices_2 ?_
  refine q_aload_n hC 0 dX11_readServices_5 rfl rfl ?_
  obtain ⟨v1, q2, hx⟩ := gb_e hx
  refine q_kv (q_rV (As := []) (rest := []) hC mm_X11_nextToken wM_X11_124 (c_X11_nextToken q2) ⟨rfl, rfl, Nat.le_of_ble_eq_true rfl, Nat.le_of_ble_eq_true rfl⟩ (gV_t (by decide) (by decide)) rfl rfl rfl rfl (Nat.le_of_ble_eq_true rfl) dX11_readServices_6) ?_
  obtain ⟨e7, qe7, hx⟩ := gb_e hx
  refine q_sub [0] rfl (w_X11_readServices_9 hC hF (e := e7) (fun s q => ?_) _ _ qe7)
  · subst q
    refine q_aload_n hC 0 dX11_readServices_48 rfl rfl ?_
    refine gf_X11_113 hC dX11_readServices_49 ?_
    refine q_iconst hC 4 dX11_readServices_52 rfl ?_
    refine q_ic_ne hC 60 dX11_readServices_53 rfl (fun h8 => ?_) (fun h8 => ?_)
    · have hx := gi_n h8 hx
      refine q_iconst hC 0 dX11_readServices_60 rfl ?_
      exact q_zret hC hF dX11_readServices_61 (Or.inl rfl) (Option.some.inj hx)
    · have hx := gi_p h8 hx
      refine q_iconst hC 1 dX11_readServices_56 rfl ?_
      refine q_goto hC 61 dX11_readServices_57 rfl ?_
      exact q_zret hC hF dX11_readServices_61 (Or.inr rfl) (Option.some.inj hx)

theorem dX11_readItem_0 : decode cX11_readItem 0 = .ok (.iload_n 1, 1) := by decide +kernel
theorem dX11_readItem_1 : decode cX11_readItem 1 = .ok (.ifCond .ne 50, 3) := by decide +kernel
theorem dX11_readItem_4 : decode cX11_readItem 4 = .ok (.aload_n 0, 1) := by decide +kernel
theorem dX11_readItem_5 : decode cX11_readItem 5 = .ok (.bipush 104, 2) := by decide +kernel
theorem dX11_readItem_7 : decode cX11_readItem 7 = .ok (.bipush 111, 2) := by decide +kernel
theorem dX11_readItem_9 : decode cX11_readItem 9 = .ok (.bipush 117, 2) := by decide +kernel
theorem dX11_readItem_11 : decode cX11_readItem 11 = .ok (.bipush 115, 2) := by decide +kernel
theorem dX11_readItem_13 : decode cX11_readItem 13 = .ok (.bipush 101, 2) := by decide +kernel
theorem dX11_readItem_15 : decode cX11_readItem 15 = .ok (.invokevirtual 130, 3) := by decide +kernel
theorem dX11_readItem_18 : decode cX11_readItem 18 = .ok (.istore_n 3, 1) := by decide +kernel
theorem dX11_readItem_19 : decode cX11_readItem 19 = .ok (.iload_n 3, 1) := by decide +kernel
theorem dX11_readItem_20 : decode cX11_readItem 20 = .ok (.ifCond .ne 5, 3) := by decide +kernel
theorem dX11_readItem_23 : decode cX11_readItem 23 = .ok (.iconst 0, 1) := by decide +kernel
theorem dX11_readItem_24 : decode cX11_readItem 24 = .ok (.ireturn, 1) := by decide +kernel
theorem dX11_readItem_25 : decode cX11_readItem 25 = .ok (.iload_n 2, 1) := by decide +kernel
theorem dX11_readItem_26 : decode cX11_readItem 26 = .ok (.ifCond .eq 7, 3) := by decide +kernel
theorem dX11_readItem_29 : decode cX11_readItem 29 = .ok (.aload_n 0, 1) := by decide +kernel
theorem dX11_readItem_30 : decode cX11_readItem 30 = .ok (.invokevirtual 65, 3) := by decide +kernel
theorem dX11_readItem_33 : decode cX11_readItem 33 = .ok (.aload_n 0, 1) := by decide +kernel
theorem dX11_readItem_34 : decode cX11_readItem 34 = .ok (.invokevirtual 124, 3) := by decide +kernel
theorem dX11_readItem_37 : decode cX11_readItem 37 = .ok (.aload_n 0, 1) := by decide +kernel
theorem dX11_readItem_38 : decode cX11_readItem 38 = .ok (.getfield 113, 3) := by decide +kernel
theorem dX11_readItem_41 : decode cX11_readItem 41 = .ok (.iconst 4, 1) := by decide +kernel
theorem dX11_readItem_42 : decode cX11_readItem 42 = .ok (.if_icmp .ne 7, 3) := by decide +kernel
theorem dX11_readItem_45 : decode cX11_readItem 45 = .ok (.iconst 1, 1) := by decide +kernel
theorem dX11_readItem_46 : decode cX11_readItem 46 = .ok (.goto 4, 3) := by decide +kernel
theorem dX11_readItem_49 : decode cX11_readItem 49 = .ok (.iconst 0, 1) := by decide +kernel
theorem dX11_readItem_50 : decode cX11_readItem 50 = .ok (.ireturn, 1) := by decide +kernel
theorem dX11_readItem_51 : decode cX11_readItem 51 = .ok (.aload_n 0, 1) := by decide +kernel
theorem dX11_readItem_52 : decode cX11_readItem 52 = .ok (.bipush 103, 2) := by decide +kernel
theorem dX11_readItem_54 : decode cX11_readItem 54 = .ok (.bipush 117, 2) := by decide +kernel
theorem dX11_readItem_56 : decode cX11_readItem 56 = .ok (.bipush 101, 2) := by decide +kernel
theorem dX11_readItem_58 : decode cX11_readItem 58 = .ok (.bipush 115, 2) := by decide +kernel
theorem dX11_readItem_60 : decode cX11_readItem 60 = .ok (.bipush 116, 2) := by decide +kernel
theorem dX11_readItem_62 : decode cX11_readItem 62 = .ok (.invokevirtual 130, 3) := by decide +kernel
theorem dX11_readItem_65 : decode cX11_readItem 65 = .ok (.ifCond .eq 84, 3) := by decide +kernel
theorem dX11_readItem_68 : decode cX11_readItem 68 = .ok (.aload_n 0, 1) := by decide +kernel
theorem dX11_readItem_69 : decode cX11_readItem 69 = .ok (.getfield 134, 3) := by decide +kernel
theorem dX11_readItem_72 : decode cX11_readItem 72 = .ok (.bipush 7, 2) := by decide +kernel
theorem dX11_readItem_74 : decode cX11_readItem 74 = .ok (.if_icmp .ge 33, 3) := by decide +kernel
theorem dX11_readItem_77 : decode cX11_readItem 77 = .ok (.aload_n 0, 1) := by decide +kernel
theorem dX11_readItem_78 : decode cX11_readItem 78 = .ok (.iconst 0, 1) := by decide +kernel
theorem dX11_readItem_79 : decode cX11_readItem 79 = .ok (.iconst 5, 1) := by decide +kernel
theorem dX11_readItem_80 : decode cX11_readItem 80 = .ok (.invokevirtual 137, 3) := by decide +kernel
theorem dX11_readItem_83 : decode cX11_readItem 83 = .ok (.ifCond .eq 24, 3) := by decide +kernel
theorem dX11_readItem_86 : decode cX11_readItem 86 = .ok (.aload_n 0, 1) := by decide +kernel
theorem dX11_readItem_87 : decode cX11_readItem 87 = .ok (.iconst 1, 1) := by decide +kernel
theorem dX11_readItem_88 : decode cX11_readItem 88 = .ok (.bipush 7, 2) := by decide +kernel
theorem dX11_readItem_90 : decode cX11_readItem 90 = .ok (.invokevirtual 137, 3) := by decide +kernel
theorem dX11_readItem_93 : decode cX11_readItem 93 = .ok (.ifCond .eq 14, 3) := by decide +kernel
theorem dX11_readItem_96 : decode cX11_readItem 96 = .ok (.aload_n 0, 1) := by decide +kernel
theorem dX11_readItem_97 : decode cX11_readItem 97 = .ok (.invokevirtual 141, 3) := by decide +kernel
theorem dX11_readItem_100 : decode cX11_readItem 100 = .ok (.ifCond .eq 7, 3) := by decide +kernel
theorem dX11_readItem_103 : decode cX11_readItem 103 = .ok (.iconst 1, 1) := by decide +kernel
theorem dX11_readItem_104 : decode cX11_readItem 104 = .ok (.goto 4, 3) := by decide +kernel
theorem dX11_readItem_107 : decode cX11_readItem 107 = .ok (.iconst 0, 1) := by decide +kernel
theorem dX11_readItem_108 : decode cX11_readItem 108 = .ok (.istore_n 3, 1) := by decide +kernel
theorem dX11_readItem_109 : decode cX11_readItem 109 = .ok (.aload_n 0, 1) := by decide +kernel
theorem dX11_readItem_110 : decode cX11_readItem 110 = .ok (.dup, 1) := by decide +kernel
theorem dX11_readItem_111 : decode cX11_readItem 111 = .ok (.getfield 134, 3) := by decide +kernel
theorem dX11_readItem_114 : decode cX11_readItem 114 = .ok (.iconst 1, 1) := by decide +kernel
theorem dX11_readItem_115 : decode cX11_readItem 115 = .ok (.iadd, 1) := by decide +kernel
theorem dX11_readItem_116 : decode cX11_readItem 116 = .ok (.putfield 134, 3) := by decide +kernel
theorem dX11_readItem_119 : decode cX11_readItem 119 = .ok (.iload_n 3, 1) := by decide +kernel
theorem dX11_readItem_120 : decode cX11_readItem 120 = .ok (.ifCond .eq 27, 3) := by decide +kernel
theorem dX11_readItem_123 : decode cX11_readItem 123 = .ok (.iload_n 2, 1) := by decide +kernel
theorem dX11_readItem_124 : decode cX11_readItem 124 = .ok (.ifCond .eq 23, 3) := by decide +kernel
theorem dX11_readItem_127 : decode cX11_readItem 127 = .ok (.aload_n 0, 1) := by decide +kernel
theorem dX11_readItem_128 : decode cX11_readItem 128 = .ok (.aload_n 0, 1) := by decide +kernel
theorem dX11_readItem_129 : decode cX11_readItem 129 = .ok (.getfield 23, 3) := by decide +kernel
theorem dX11_readItem_132 : decode cX11_readItem 132 = .ok (.iconst 0, 1) := by decide +kernel
theorem dX11_readItem_133 : decode cX11_readItem 133 = .ok (.iaload, 1) := by decide +kernel
theorem dX11_readItem_134 : decode cX11_readItem 134 = .ok (.aload_n 0, 1) := by decide +kernel
theorem dX11_readItem_135 : decode cX11_readItem 135 = .ok (.getfield 23, 3) := by decide +kernel
theorem dX11_readItem_138 : decode cX11_readItem 138 = .ok (.iconst 1, 1) := by decide +kernel
theorem dX11_readItem_139 : decode cX11_readItem 139 = .ok (.iaload, 1) := by decide +kernel
theorem dX11_readItem_140 : decode cX11_readItem 140 = .ok (.aload_n 0, 1) := by decide +kernel
theorem dX11_readItem_141 : decode cX11_readItem 141 = .ok (.getfield 127, 3) := by decide +kernel
theorem dX11_readItem_144 : decode cX11_readItem 144 = .ok (.invokevirtual 81, 3) := by decide +kernel
theorem dX11_readItem_147 : decode cX11_readItem 147 = .ok (.iload_n 3, 1) := by decide +kernel
theorem dX11_readItem_148 : decode cX11_readItem 148 = .ok (.ireturn, 1) := by decide +kernel
theorem dX11_readItem_149 : decode cX11_readItem 149 = .ok (.aload_n 0, 1) := by decide +kernel
theorem dX11_readItem_150 : decode cX11_readItem 150 = .ok (.bipush 100, 2) := by decide +kernel
theorem dX11_readItem_152 : decode cX11_readItem 152 = .ok (.bipush 117, 2) := by decide +kernel
theorem dX11_readItem_154 : decode cX11_readItem 154 = .ok (.bipush 116, 2) := by decide +kernel
theorem dX11_readItem_156 : decode cX11_readItem 156 = .ok (.bipush 121, 2) := by decide +kernel
theorem dX11_readItem_158 : decode cX11_readItem 158 = .ok (.iconst 0, 1) := by decide +kernel
theorem dX11_readItem_159 : decode cX11_readItem 159 = .ok (.invokevirtual 130, 3) := by decide +kernel
theorem dX11_readItem_162 : decode cX11_readItem 162 = .ok (.ifCond .eq 50, 3) := by decide +kernel
theorem dX11_readItem_165 : decode cX11_readItem 165 = .ok (.aload_n 0, 1) := by decide +kernel
theorem dX11_readItem_166 : decode cX11_readItem 166 = .ok (.iconst 0, 1) := by decide +kernel
theorem dX11_readItem_167 : decode cX11_readItem 167 = .ok (.aload_n 0, 1) := by decide +kernel
theorem dX11_readItem_168 : decode cX11_readItem 168 = .ok (.getfield 134, 3) := by decide +kernel
theorem dX11_readItem_171 : decode cX11_readItem 171 = .ok (.iconst 1, 1) := by decide +kernel
theorem dX11_readItem_172 : decode cX11_readItem 172 = .ok (.isub, 1) := by decide +kernel
theorem dX11_readItem_173 : decode cX11_readItem 173 = .ok (.invokevirtual 137, 3) := by decide +kernel
theorem dX11_readItem_176 : decode cX11_readItem 176 = .ok (.ifCond .eq 36, 3) := by decide +kernel
theorem dX11_readItem_179 : decode cX11_readItem 179 = .ok (.aload_n 0, 1) := by decide +kernel
theorem dX11_readItem_180 : decode cX11_readItem 180 = .ok (.iconst 1, 1) := by decide +kernel
theorem dX11_readItem_181 : decode cX11_readItem 181 = .ok (.aload_n 0, 1) := by decide +kernel
theorem dX11_readItem_182 : decode cX11_readItem 182 = .ok (.getfield 134, 3) := by decide +kernel
theorem dX11_readItem_185 : decode cX11_readItem 185 = .ok (.iconst 1, 1) := by decide +kernel
theorem dX11_readItem_186 : decode cX11_readItem 186 = .ok (.isub, 1) := by decide +kernel
theorem dX11_readItem_187 : decode cX11_readItem 187 = .ok (.invokevirtual 137, 3) := by decide +kernel
theorem dX11_readItem_190 : decode cX11_readItem 190 = .ok (.ifCond .eq 22, 3) := by decide +kernel
theorem dX11_readItem_193 : decode cX11_readItem 193 = .ok (.aload_n 0, 1) := by decide +kernel
theorem dX11_readItem_194 : decode cX11_readItem 194 = .ok (.getfield 23, 3) := by decide +kernel
theorem dX11_readItem_197 : decode cX11_readItem 197 = .ok (.iconst 0, 1) := by decide +kernel
theorem dX11_readItem_198 : decode cX11_readItem 198 = .ok (.iaload, 1) := by decide +kernel
theorem dX11_readItem_199 : decode cX11_readItem 199 = .ok (.aload_n 0, 1) := by decide +kernel
theorem dX11_readItem_200 : decode cX11_readItem 200 = .ok (.getfield 23, 3) := by decide +kernel
theorem dX11_readItem_203 : decode cX11_readItem 203 = .ok (.iconst 1, 1) := by decide +kernel
theorem dX11_readItem_204 : decode cX11_readItem 204 = .ok (.iaload, 1) := by decide +kernel
theorem dX11_readItem_205 : decode cX11_readItem 205 = .ok (.if_icmp .eq 7, 3) := by decide +kernel
theorem dX11_readItem_208 : decode cX11_readItem 208 = .ok (.iconst 1, 1) := by decide +kernel
theorem dX11_readItem_209 : decode cX11_readItem 209 = .ok (.goto 4, 3) := by decide +kernel
theorem dX11_readItem_212 : decode cX11_readItem 212 = .ok (.iconst 0, 1) := by decide +kernel
theorem dX11_readItem_213 : decode cX11_readItem 213 = .ok (.istore_n 3, 1) := by decide +kernel
theorem dX11_readItem_214 : decode cX11_readItem 214 = .ok (.iload_n 3, 1) := by decide +kernel
theorem dX11_readItem_215 : decode cX11_readItem 215 = .ok (.ifCond .ne 5, 3) := by decide +kernel
theorem dX11_readItem_218 : decode cX11_readItem 218 = .ok (.iconst 0, 1) := by decide +kernel
theorem dX11_readItem_219 : decode cX11_readItem 219 = .ok (.ireturn, 1) := by decide +kernel
theorem dX11_readItem_220 : decode cX11_readItem 220 = .ok (.iload_n 2, 1) := by decide +kernel
theorem dX11_readItem_221 : decode cX11_readItem 221 = .ok (.ifCond .eq 22, 3) := by decide +kernel
theorem dX11_readItem_224 : decode cX11_readItem 224 = .ok (.aload_n 0, 1) := by decide +kernel
theorem dX11_readItem_225 : decode cX11_readItem 225 = .ok (.getfield 7, 3) := by decide +kernel
theorem dX11_readItem_228 : decode cX11_readItem 228 = .ok (.iconst 2, 1) := by decide +kernel
theorem dX11_readItem_229 : decode cX11_readItem 229 = .ok (.aload_n 0, 1) := by decide +kernel
theorem dX11_readItem_230 : decode cX11_readItem 230 = .ok (.getfield 23, 3) := by decide +kernel
theorem dX11_readItem_233 : decode cX11_readItem 233 = .ok (.iconst 0, 1) := by decide +kernel
theorem dX11_readItem_234 : decode cX11_readItem 234 = .ok (.iaload, 1) := by decide +kernel
theorem dX11_readItem_235 : decode cX11_readItem 235 = .ok (.iadd, 1) := by decide +kernel
theorem dX11_readItem_236 : decode cX11_readItem 236 = .ok (.aload_n 0, 1) := by decide +kernel
theorem dX11_readItem_237 : decode cX11_readItem 237 = .ok (.getfield 23, 3) := by decide +kernel
theorem dX11_readItem_240 : decode cX11_readItem 240 = .ok (.iconst 1, 1) := by decide +kernel
theorem dX11_readItem_241 : decode cX11_readItem 241 = .ok (.iaload, 1) := by decide +kernel
theorem dX11_readItem_242 : decode cX11_readItem 242 = .ok (.iastore, 1) := by decide +kernel
theorem dX11_readItem_243 : decode cX11_readItem 243 = .ok (.aload_n 0, 1) := by decide +kernel
theorem dX11_readItem_244 : decode cX11_readItem 244 = .ok (.invokevirtual 124, 3) := by decide +kernel
theorem dX11_readItem_247 : decode cX11_readItem 247 = .ok (.aload_n 0, 1) := by decide +kernel
theorem dX11_readItem_248 : decode cX11_readItem 248 = .ok (.getfield 113, 3) := by decide +kernel
theorem dX11_readItem_251 : decode cX11_readItem 251 = .ok (.iconst 4, 1) := by decide +kernel
theorem dX11_readItem_252 : decode cX11_readItem 252 = .ok (.if_icmp .ne 7, 3) := by decide +kernel
theorem dX11_readItem_255 : decode cX11_readItem 255 = .ok (.iconst 1, 1) := by decide +kernel
theorem dX11_readItem_256 : decode cX11_readItem 256 = .ok (.goto 4, 3) := by decide +kernel
theorem dX11_readItem_259 : decode cX11_readItem 259 = .ok (.iconst 0, 1) := by decide +kernel
theorem dX11_readItem_260 : decode cX11_readItem 260 = .ok (.ireturn, 1) := by decide +kernel
def j_X11_readItem_243 (M : gMem) (p1 : Int32) (p2 : Int32) (N : gMem) : Option (Int32 × gMem) := Option.bind (x_X11_nextToken N) (fun v12 => (if (v12.1 0 59 7) = 4 then some (1, v12) else some (0, v12)))
def j_X11_readItem_213 (M : gMem) (p1 : Int32) (p2 : Int32) (N : gMem) (t0 : Int32) : Option (Int32 × gMem) := (if t0 = 0 then some (0, N) else (if p2 = 0 then j_X11_readItem_243 M p1 p2 N else gd (gin (2 + (N.1 0 63 0)) 70) (j_X11_readItem_243 M p1 p2 (gwr N 0 60 (2 + (N.1 0 63 0)).toNatClampNeg (N.1 0 63 1)))))
def j_X11_readItem_212 (M : gMem) (p1 : Int32) (p2 : Int32) (N : gMem) : Option (Int32 × gMem) := j_X11_readItem_213 M p1 p2 N 0
def j_X11_readItem_108 (M : gMem) (p1 : Int32) (p2 : Int32) (N : gMem) (t0 : Int32) : Option (Int32 × gMem) := (if t0 = 0 then gd (t0 = 0 ∨ t0 = 1) (some (t0, gwr N 0 59 12 ((N.1 0 59 12) + 1))) else (if p2 = 0 then gd (t0 = 0 ∨ t0 = 1) (some (t0, gwr N 0 59 12 ((N.1 0 59 12) + 1))) else Option.bind (x_X11_add (gwr N 0 59 12 ((N.1 0 59 12) + 1)) ((gwr N 0 59 12 ((N.1 0 59 12) + 1)).1 0 63 0) ((gwr N 0 59 12 ((N.1 0 59 12) + 1)).1 0 63 1) ((gwr N 0 59 12 ((N.1 0 59 12) + 1)).1 0 59 11)) (fun v30 => gd (t0 = 0 ∨ t0 = 1) (some (t0, v30)))))
def j_X11_readItem_107 (M : gMem) (p1 : Int32) (p2 : Int32) (N : gMem) : Option (Int32 × gMem) := j_X11_readItem_108 M p1 p2 N 0
def j_X11_readItem_33 (M : gMem) (p1 : Int32) (p2 : Int32) (N : gMem) : Option (Int32 × gMem) := Option.bind (x_X11_nextToken N) (fun v50 => (if (v50.1 0 59 7) = 4 then some (1, v50) else some (0, v50)))
def x_X11_readItem (M : gMem) (p1 : Int32) (p2 : Int32) : Option (Int32 × gMem) := (if p1 = 0 then Option.bind (x_X11_isWord M 104 111 117 115 101) (fun v45 => (if v45 = 0 then some (0, M) else (if p2 = 0 then j_X11_readItem_33 M p1 p2 M else Option.bind (x_X11_anew M) (fun v53 => j_X11_readItem_33 M p1 p2 v53)))) else Option.bind (x_X11_isWord M 103 117 101 115 116) (fun v2 => (if v2 = 0 then Option.bind (x_X11_isWord M 100 117 116 121 0) (fun v6 => (if v6 = 0 then j_X11_readItem_212 M p1 p2 M else Option.bind (x_X11_reads M 0 ((M.1 0 59 12) - 1)) (fun v16 => (if v16.1 = 0 then j_X11_readItem_212 M p1 p2 v16.2 else Option.bind (x_X11_reads v16.2 1 ((v16.2.1 0 59 12) - 1)) (fun v20 => (if v20.1 = 0 then j_X11_readItem_212 M p1 p2 v20.2 else (if (v20.2.1 0 63 0) = (v20.2.1 0 63 1) then j_X11_readItem_212 M p1 p2 v20.2 else j_X11_readItem_213 M p1 p2 v20.2 1))))))) else (if 7 ≤ (M.1 0 59 12) then j_X11_readItem_107 M p1 p2 M else Option.bind (x_X11_reads M 0 5) (fun v33 => (if v33.1 = 0 then j_X11_readItem_107 M p1 p2 v33.2 else Option.bind (x_X11_reads v33.2 1 7) (fun v37 => (if v37.1 = 0 then j_X11_readItem_107 M p1 p2 v37.2 else Option.bind (x_X11_readServices v37.2) (fun v41 => (if v41.1 = 0 then j_X11_readItem_107 M p1 p2 v41.2 else j_X11_readItem_108 M p1 p2 v41.2 1))))))))))
set_option maxRecDepth 100000 in
set_option maxHeartbeats 4000000 in
theorem c_X11_readItem {l : Launch} {Y : gY} {M : gMem} {p1 : Int32} {p2 : Int32} {r : (Int32 × gMem)} (hx : x_X11_readItem M p1 p2 = some r) : Met l yX11_readItem (gws yX11_readItem cX11_readItem 4 (some .boolean)) { frames := 3, cells := 0, slots := 0, locals := 67 } (va_Pc [.ref (gad Y 0 59), .int p1, .int p2] (gS0 Y M)) (gQz Y r) 0 0 (gA Y) := by
  refine gmet (lv := [(0, .ref (gad Y 0 59)), (1, .int p1), (2, .int p2)]) "GuestStaffModel" (by decide) rfl (Nat.le_of_ble_eq_true rfl) rfl (fun X hC hF => ?_)
  have J243 : ∀ (N : gMem) , j_X11_readItem_243 M p1 p2 N = some r → gWW X Y 4 243 [(0, .ref (gad Y 0 59))] [] N := by
    intro N hx
    unfold j_X11_readItem_243 at hx
    refine q_aload_n hC 0 dX11_readItem_243 rfl rfl ?_
    obtain ⟨v12, q13, hx⟩ := gb_e hx
    refine q_kv (q_rV (As := []) (rest := []) hC mm_X11_nextToken wM_X11_124 (c_X11_nextToken q13) ⟨rfl, rfl, Nat.le_of_ble_eq_true rfl, Nat.le_of_ble_eq_true rfl⟩ (gV_t (by decide) (by decide)) rfl rfl rfl rfl (Nat.le_of_ble_eq_true rfl) dX11_readItem_244) ?_
    refine q_aload_n hC 0 dX11_readItem_247 rfl rfl ?_
    refine gf_X11_113 hC dX11_readItem_248 ?_
    refine q_iconst hC 4 dX11_readItem_251 rfl ?_
    refine q_ic_ne hC 259 dX11_readItem_252 rfl (fun h14 => ?_) (fun h14 => ?_)
    · have hx := gi_n h14 hx
      refine q_iconst hC 0 dX11_readItem_259 rfl ?_
      exact q_zret hC hF dX11_readItem_260 (Or.inl rfl) (Option.some.inj hx)
    · have hx := gi_p h14 hx
      refine q_iconst hC 1 dX11_readItem_255 rfl ?_
      refine q_goto hC 260 dX11_readItem_256 rfl ?_
      exact q_zret hC hF dX11_readItem_260 (Or.inr rfl) (Option.some.inj hx)
  have J213 : ∀ (N : gMem) (t0 : Int32) , j_X11_readItem_213 M p1 p2 N t0 = some r → gWW X Y 4 213 [(0, .ref (gad Y 0 59)), (2, .int p2)] [.int t0] N := by
    intro N t0 hx
    unfold j_X11_readItem_213 at hx
    refine q_istore_n hC [(3, .int t0), (0, .ref (gad Y 0 59)), (2, .int p2)] dX11_readItem_213 rfl (by decide) rfl ?_
    refine q_iload_n hC 0 dX11_readItem_214 rfl rfl ?_
    refine q_if_ne hC 220 dX11_readItem_215 rfl (fun h10 => ?_) (fun h10 => ?_)
    · have hx := gi_n h10 hx
      refine q_iload_n hC 2 dX11_readItem_220 rfl rfl ?_
      refine q_if_eq hC 243 dX11_readItem_221 rfl (fun h11 => ?_) (fun h11 => ?_)
      · have hx := gi_p h11 hx
        exact q_sub [1] rfl (J243 N hx)
      · have hx := gi_n h11 hx
        refine q_aload_n hC 1 dX11_readItem_224 rfl rfl ?_
        refine gf_X11_7 hC dX11_readItem_225 ?_
        refine q_iconst hC 2 dX11_readItem_228 rfl ?_
        refine q_aload_n hC 1 dX11_readItem_229 rfl rfl ?_
        refine gf_X11_23 hC dX11_readItem_230 ?_
        refine q_iconst hC 0 dX11_readItem_233 rfl ?_
        refine q_ialdk hC 0 1 (gV_t (by decide) (by decide)) rfl (by decide) rfl dX11_readItem_234 ?_
        refine q_iadd hC dX11_readItem_235 ?_
        refine q_aload_n hC 1 dX11_readItem_236 rfl rfl ?_
        refine gf_X11_23 hC dX11_readItem_237 ?_
        refine q_iconst hC 1 dX11_readItem_240 rfl ?_
        refine q_ialdk hC 1 1 (gV_t (by decide) (by decide)) rfl (by decide) rfl dX11_readItem_241 ?_
        have g15 := (gd_e hx).1
        have hx := (gd_e hx).2
        refine q_iast hC 69 (gV_t (by decide) (by decide)) rfl g15 dX11_readItem_242 ?_
        exact q_sub [1] rfl (J243 (gwr N 0 60 (2 + (N.1 0 63 0)).toNatClampNeg (N.1 0 63 1)) hx)
    · have hx := gi_p h10 hx
      refine q_iconst hC 0 dX11_readItem_218 rfl ?_
      exact q_zret hC hF dX11_readItem_219 (Or.inl rfl) (Option.some.inj hx)
  have J212 : ∀ (N : gMem) , j_X11_readItem_212 M p1 p2 N = some r → gWW X Y 4 212 [(0, .ref (gad Y 0 59)), (2, .int p2)] [] N := by
    intro N hx
    unfold j_X11_readItem_212 at hx
    refine q_iconst hC 0 dX11_readItem_212 rfl ?_
    exact q_sub [0, 1] rfl (J213 N 0 hx)
  have J108 : ∀ (N : gMem) (t0 : Int32) , j_X11_readItem_108 M p1 p2 N t0 = some r → gWW X Y 4 108 [(0, .ref (gad Y 0 59)), (2, .int p2)] [.int t0] N := by
    intro N t0 hx
    unfold j_X11_readItem_108 at hx
    refine q_istore_n hC [(3, .int t0), (0, .ref (gad Y 0 59)), (2, .int p2)] dX11_readItem_108 rfl (by decide) rfl ?_
    refine q_aload_n hC 1 dX11_readItem_109 rfl rfl ?_
    refine q_dup hC dX11_readItem_110 rfl ?_
    refine gf_X11_134 hC dX11_readItem_111 ?_
    refine q_iconst hC 1 dX11_readItem_114 rfl ?_
    refine q_iadd hC dX11_readItem_115 ?_
    refine pf_X11_134 hC dX11_readItem_116 ?_
    refine q_iload_n hC 0 dX11_readItem_119 rfl rfl ?_
    refine q_if_eq hC 147 dX11_readItem_120 rfl (fun h26 => ?_) (fun h26 => ?_)
    · have hx := gi_p h26 hx
      refine q_iload_n hC 0 dX11_readItem_147 rfl rfl ?_
      have g27 := (gd_e hx).1
      have hx := (gd_e hx).2
      exact q_zret hC hF dX11_readItem_148 g27 (Option.some.inj hx)
    · have hx := gi_n h26 hx
      refine q_iload_n hC 2 dX11_readItem_123 rfl rfl ?_
      refine q_if_eq hC 147 dX11_readItem_124 rfl (fun h28 => ?_) (fun h28 => ?_)
      · have hx := gi_p h28 hx
        refine q_iload_n hC 0 dX11_readItem_147 rfl rfl ?_
        have g29 := (gd_e hx).1
        have hx := (gd_e hx).2
        exact q_zret hC hF dX11_readItem_148 g29 (Option.some.inj hx)
      · have hx := gi_n h28 hx
        refine q_aload_n hC 1 dX11_readItem_127 rfl rfl ?_
        refine q_aload_n hC 1 dX11_readItem_128 rfl rfl ?_
        refine gf_X11_23 hC dX11_readItem_129 ?_
        refine q_iconst hC 0 dX11_readItem_132 rfl ?_
        refine q_ialdk hC 0 1 (gV_t (by decide) (by decide)) rfl (by decide) rfl dX11_readItem_133 ?_
        refine q_aload_n hC 1 dX11_readItem_134 rfl rfl ?_
        refine gf_X11_23 hC dX11_readItem_135 ?_
        refine q_iconst hC 1 dX11_readItem_138 rfl ?_
        refine q_ialdk hC 1 1 (gV_t (by decide) (by decide)) rfl (by decide) rfl dX11_readItem_139 ?_
        refine q_aload_n hC 1 dX11_readItem_140 rfl rfl ?_
        refine gf_X11_127 hC dX11_readItem_141 ?_
        obtain ⟨v30, q31, hx⟩ := gb_e hx
        refine q_kv (q_rV (As := [.int ((gwr N 0 59 12 ((N.1 0 59 12) + 1)).1 0 63 0), .int ((gwr N 0 59 12 ((N.1 0 59 12) + 1)).1 0 63 1), .int ((gwr N 0 59 12 ((N.1 0 59 12) + 1)).1 0 59 11)]) (rest := []) hC mm_X11_add wM_X11_81 (c_X11_add q31) ⟨rfl, rfl, Nat.le_of_ble_eq_true rfl, Nat.le_of_ble_eq_true rfl⟩ (gV_t (by decide) (by decide)) rfl rfl rfl rfl (Nat.le_of_ble_eq_true rfl) dX11_readItem_144) ?_
        refine q_iload_n hC 0 dX11_readItem_147 rfl rfl ?_
        have g32 := (gd_e hx).1
        have hx := (gd_e hx).2
        exact q_zret hC hF dX11_readItem_148 g32 (Option.some.inj hx)
  have J107 : ∀ (N : gMem) , j_X11_readItem_107 M p1 p2 N = some r → gWW X Y 4 107 [(0, .ref (gad Y 0 59)), (2, .int p2)] [] N := by
    intro N hx
    unfold j_X11_readItem_107 at hx
    refine q_iconst hC 0 dX11_readItem_107 rfl ?_
    exact q_sub [0, 1] rfl (J108 N 0 hx)
  have J33 : ∀ (N : gMem) , j_X11_readItem_33 M p1 p2 N = some r → gWW X Y 4 33 [(0, .ref (gad Y 0 59))] [] N := by
    intro N hx
    unfold j_X11_readItem_33 at hx
    refine q_aload_n hC 0 dX11_readItem_33 rfl rfl ?_
    obtain ⟨v50, q51, hx⟩ := gb_e hx
    refine q_kv (q_rV (As := []) (rest := []) hC mm_X11_nextToken wM_X11_124 (c_X11_nextToken q51) ⟨rfl, rfl, Nat.le_of_ble_eq_true rfl, Nat.le_of_ble_eq_true rfl⟩ (gV_t (by decide) (by decide)) rfl rfl rfl rfl (Nat.le_of_ble_eq_true rfl) dX11_readItem_34) ?_
    refine q_aload_n hC 0 dX11_readItem_37 rfl rfl ?_
    refine gf_X11_113 hC dX11_readItem_38 ?_
    refine q_iconst hC 4 dX11_readItem_41 rfl ?_
    refine q_ic_ne hC 49 dX11_readItem_42 rfl (fun h52 => ?_) (fun h52 => ?_)
    · have hx := gi_n h52 hx
      refine q_iconst hC 0 dX11_readItem_49 rfl ?_
      exact q_zret hC hF dX11_readItem_50 (Or.inl rfl) (Option.some.inj hx)
    · have hx := gi_p h52 hx
      refine q_iconst hC 1 dX11_readItem_45 rfl ?_
      refine q_goto hC 50 dX11_readItem_46 rfl ?_
      exact q_zret hC hF dX11_readItem_50 (Or.inr rfl) (Option.some.inj hx)
  unfold x_X11_readItem at hx
  refine q_iload_n hC 1 dX11_readItem_0 rfl rfl ?_
  refine q_if_ne hC 51 dX11_readItem_1 rfl (fun h1 => ?_) (fun h1 => ?_)
  · have hx := gi_n h1 hx
    refine q_aload_n hC 0 dX11_readItem_51 rfl rfl ?_
    refine q_bipush hC 103 dX11_readItem_52 rfl ?_
    refine q_bipush hC 117 dX11_readItem_54 rfl ?_
    refine q_bipush hC 101 dX11_readItem_56 rfl ?_
    refine q_bipush hC 115 dX11_readItem_58 rfl ?_
    refine q_bipush hC 116 dX11_readItem_60 rfl ?_
    obtain ⟨v2, q3, hx⟩ := gb_e hx
    refine q_kzp (q_rV (As := [.int 103, .int 117, .int 101, .int 115, .int 116]) (rest := []) hC mm_X11_isWord wM_X11_130 (c_X11_isWord q3) ⟨rfl, rfl, Nat.le_of_ble_eq_true rfl, Nat.le_of_ble_eq_true rfl⟩ (gV_t (by decide) (by decide)) rfl rfl rfl rfl (Nat.le_of_ble_eq_true rfl) dX11_readItem_62) (fun z4 => ?_)
    refine q_if_eq hC 149 dX11_readItem_65 rfl (fun h5 => ?_) (fun h5 => ?_)
    · have hx := gi_p h5 hx
      refine q_aload_n hC 0 dX11_readItem_149 rfl rfl ?_
      refine q_bipush hC 100 dX11_readItem_150 rfl ?_
      refine q_bipush hC 117 dX11_readItem_152 rfl ?_
      refine q_bipush hC 116 dX11_readItem_154 rfl ?_
      refine q_bipush hC 121 dX11_readItem_156 rfl ?_
      refine q_iconst hC 0 dX11_readItem_158 rfl ?_
      obtain ⟨v6, q7, hx⟩ := gb_e hx
      refine q_kzp (q_rV (As := [.int 100, .int 117, .int 116, .int 121, .int 0]) (rest := []) hC mm_X11_isWord wM_X11_130 (c_X11_isWord q7) ⟨rfl, rfl, Nat.le_of_ble_eq_true rfl, Nat.le_of_ble_eq_true rfl⟩ (gV_t (by decide) (by decide)) rfl rfl rfl rfl (Nat.le_of_ble_eq_true rfl) dX11_readItem_159) (fun z8 => ?_)
      refine q_if_eq hC 212 dX11_readItem_162 rfl (fun h9 => ?_) (fun h9 => ?_)
      · have hx := gi_p h9 hx
        exact q_sub [0, 2] rfl (J212 M hx)
      · have hx := gi_n h9 hx
        refine q_aload_n hC 0 dX11_readItem_165 rfl rfl ?_
        refine q_iconst hC 0 dX11_readItem_166 rfl ?_
        refine q_aload_n hC 0 dX11_readItem_167 rfl rfl ?_
        refine gf_X11_134 hC dX11_readItem_168 ?_
        refine q_iconst hC 1 dX11_readItem_171 rfl ?_
        refine q_isub hC dX11_readItem_172 ?_
        obtain ⟨v16, q17, hx⟩ := gb_e hx
        refine q_kz (q_rV (As := [.int 0, .int ((M.1 0 59 12) - 1)]) (rest := []) hC mm_X11_reads wM_X11_137 (c_X11_reads q17) ⟨rfl, rfl, Nat.le_of_ble_eq_true rfl, Nat.le_of_ble_eq_true rfl⟩ (gV_t (by decide) (by decide)) rfl rfl rfl rfl (Nat.le_of_ble_eq_true rfl) dX11_readItem_173) (fun z18 => ?_)
        refine q_if_eq hC 212 dX11_readItem_176 rfl (fun h19 => ?_) (fun h19 => ?_)
        · have hx := gi_p h19 hx
          exact q_sub [0, 2] rfl (J212 v16.2 hx)
        · have hx := gi_n h19 hx
          refine q_aload_n hC 0 dX11_readItem_179 rfl rfl ?_
          refine q_iconst hC 1 dX11_readItem_180 rfl ?_
          refine q_aload_n hC 0 dX11_readItem_181 rfl rfl ?_
          refine gf_X11_134 hC dX11_readItem_182 ?_
          refine q_iconst hC 1 dX11_readItem_185 rfl ?_
          refine q_isub hC dX11_readItem_186 ?_
          obtain ⟨v20, q21, hx⟩ := gb_e hx
          refine q_kz (q_rV (As := [.int 1, .int ((v16.2.1 0 59 12) - 1)]) (rest := []) hC mm_X11_reads wM_X11_137 (c_X11_reads q21) ⟨rfl, rfl, Nat.le_of_ble_eq_true rfl, Nat.le_of_ble_eq_true rfl⟩ (gV_t (by decide) (by decide)) rfl rfl rfl rfl (Nat.le_of_ble_eq_true rfl) dX11_readItem_187) (fun z22 => ?_)
          refine q_if_eq hC 212 dX11_readItem_190 rfl (fun h23 => ?_) (fun h23 => ?_)
          · have hx := gi_p h23 hx
            exact q_sub [0, 2] rfl (J212 v20.2 hx)
          · have hx := gi_n h23 hx
            refine q_aload_n hC 0 dX11_readItem_193 rfl rfl ?_
            refine gf_X11_23 hC dX11_readItem_194 ?_
            refine q_iconst hC 0 dX11_readItem_197 rfl ?_
            refine q_ialdk hC 0 1 (gV_t (by decide) (by decide)) rfl (by decide) rfl dX11_readItem_198 ?_
            refine q_aload_n hC 0 dX11_readItem_199 rfl rfl ?_
            refine gf_X11_23 hC dX11_readItem_200 ?_
            refine q_iconst hC 1 dX11_readItem_203 rfl ?_
            refine q_ialdk hC 1 1 (gV_t (by decide) (by decide)) rfl (by decide) rfl dX11_readItem_204 ?_
            refine q_ic_eq hC 212 dX11_readItem_205 rfl (fun h24 => ?_) (fun h24 => ?_)
            · have hx := gi_p h24 hx
              exact q_sub [0, 2] rfl (J212 v20.2 hx)
            · have hx := gi_n h24 hx
              refine q_iconst hC 1 dX11_readItem_208 rfl ?_
              refine q_goto hC 213 dX11_readItem_209 rfl ?_
              exact q_sub [0, 2] rfl (J213 v20.2 1 hx)
    · have hx := gi_n h5 hx
      refine q_aload_n hC 0 dX11_readItem_68 rfl rfl ?_
      refine gf_X11_134 hC dX11_readItem_69 ?_
      refine q_bipush hC 7 dX11_readItem_72 rfl ?_
      refine q_ic_ge hC 107 dX11_readItem_74 rfl (fun h25 => ?_) (fun h25 => ?_)
      · have hx := gi_p h25 hx
        exact q_sub [0, 2] rfl (J107 M hx)
      · have hx := gi_n h25 hx
        refine q_aload_n hC 0 dX11_readItem_77 rfl rfl ?_
        refine q_iconst hC 0 dX11_readItem_78 rfl ?_
        refine q_iconst hC 5 dX11_readItem_79 rfl ?_
        obtain ⟨v33, q34, hx⟩ := gb_e hx
        refine q_kz (q_rV (As := [.int 0, .int 5]) (rest := []) hC mm_X11_reads wM_X11_137 (c_X11_reads q34) ⟨rfl, rfl, Nat.le_of_ble_eq_true rfl, Nat.le_of_ble_eq_true rfl⟩ (gV_t (by decide) (by decide)) rfl rfl rfl rfl (Nat.le_of_ble_eq_true rfl) dX11_readItem_80) (fun z35 => ?_)
        refine q_if_eq hC 107 dX11_readItem_83 rfl (fun h36 => ?_) (fun h36 => ?_)
        · have hx := gi_p h36 hx
          exact q_sub [0, 2] rfl (J107 v33.2 hx)
        · have hx := gi_n h36 hx
          refine q_aload_n hC 0 dX11_readItem_86 rfl rfl ?_
          refine q_iconst hC 1 dX11_readItem_87 rfl ?_
          refine q_bipush hC 7 dX11_readItem_88 rfl ?_
          obtain ⟨v37, q38, hx⟩ := gb_e hx
          refine q_kz (q_rV (As := [.int 1, .int 7]) (rest := []) hC mm_X11_reads wM_X11_137 (c_X11_reads q38) ⟨rfl, rfl, Nat.le_of_ble_eq_true rfl, Nat.le_of_ble_eq_true rfl⟩ (gV_t (by decide) (by decide)) rfl rfl rfl rfl (Nat.le_of_ble_eq_true rfl) dX11_readItem_90) (fun z39 => ?_)
          refine q_if_eq hC 107 dX11_readItem_93 rfl (fun h40 => ?_) (fun h40 => ?_)
          · have hx := gi_p h40 hx
            exact q_sub [0, 2] rfl (J107 v37.2 hx)
          · have hx := gi_n h40 hx
            refine q_aload_n hC 0 dX11_readItem_96 rfl rfl ?_
            obtain ⟨v41, q42, hx⟩ := gb_e hx
            refine q_kz (q_rV (As := []) (rest := []) hC mm_X11_readServices wM_X11_141 (c_X11_readServices q42) ⟨rfl, rfl, Nat.le_of_ble_eq_true rfl, Nat.le_of_ble_eq_true rfl⟩ (gV_t (by decide) (by decide)) rfl rfl rfl rfl (Nat.le_of_ble_eq_true rfl) dX11_readItem_97) (fun z43 => ?_)
            refine q_if_eq hC 107 dX11_readItem_100 rfl (fun h44 => ?_) (fun h44 => ?_)
            · have hx := gi_p h44 hx
              exact q_sub [0, 2] rfl (J107 v41.2 hx)
            · have hx := gi_n h44 hx
              refine q_iconst hC 1 dX11_readItem_103 rfl ?_
              refine q_goto hC 108 dX11_readItem_104 rfl ?_
              exact q_sub [0, 2] rfl (J108 v41.2 1 hx)
  · have hx := gi_p h1 hx
    refine q_aload_n hC 0 dX11_readItem_4 rfl rfl ?_
    refine q_bipush hC 104 dX11_readItem_5 rfl ?_
    refine q_bipush hC 111 dX11_readItem_7 rfl ?_
    refine q_bipush hC 117 dX11_readItem_9 rfl ?_
    refine q_bipush hC 115 dX11_readItem_11 rfl ?_
    refine q_bipush hC 101 dX11_readItem_13 rfl ?_
    obtain ⟨v45, q46, hx⟩ := gb_e hx
    refine q_kzp (q_rV (As := [.int 104, .int 111, .int 117, .int 115, .int 101]) (rest := []) hC mm_X11_isWord wM_X11_130 (c_X11_isWord q46) ⟨rfl, rfl, Nat.le_of_ble_eq_true rfl, Nat.le_of_ble_eq_true rfl⟩ (gV_t (by decide) (by decide)) rfl rfl rfl rfl (Nat.le_of_ble_eq_true rfl) dX11_readItem_15) (fun z47 => ?_)
    refine q_istore_n hC [(3, .int v45), (0, .ref (gad Y 0 59)), (1, .int p1), (2, .int p2)] dX11_readItem_18 rfl (by decide) rfl ?_
    refine q_iload_n hC 0 dX11_readItem_19 rfl rfl ?_
    refine q_if_ne hC 25 dX11_readItem_20 rfl (fun h48 => ?_) (fun h48 => ?_)
    · have hx := gi_n h48 hx
      refine q_iload_n hC 3 dX11_readItem_25 rfl rfl ?_
      refine q_if_eq hC 33 dX11_readItem_26 rfl (fun h49 => ?_) (fun h49 => ?_)
      · have hx := gi_p h49 hx
        exact q_sub [1] rfl (J33 M hx)
      · have hx := gi_n h49 hx
        refine q_aload_n hC 1 dX11_readItem_29 rfl rfl ?_
        obtain ⟨v53, q54, hx⟩ := gb_e hx
        refine q_kv (q_rV (As := []) (rest := []) hC mm_X11_anew wM_X11_65 (c_X11_anew q54) ⟨rfl, rfl, Nat.le_of_ble_eq_true rfl, Nat.le_of_ble_eq_true rfl⟩ (gV_t (by decide) (by decide)) rfl rfl rfl rfl (Nat.le_of_ble_eq_true rfl) dX11_readItem_30) ?_
        exact q_sub [1] rfl (J33 v53 hx)
    · have hx := gi_p h48 hx
      refine q_iconst hC 0 dX11_readItem_23 rfl ?_
      exact q_zret hC hF dX11_readItem_24 (Or.inl rfl) (Option.some.inj hx)

theorem dX11_readText_0 : decode cX11_readText 0 = .ok (.aload_n 0, 1) := by decide +kernel
theorem dX11_readText_1 : decode cX11_readText 1 = .ok (.iconst 0, 1) := by decide +kernel
theorem dX11_readText_2 : decode cX11_readText 2 = .ok (.putfield 100, 3) := by decide +kernel
theorem dX11_readText_5 : decode cX11_readText 5 = .ok (.aload_n 0, 1) := by decide +kernel
theorem dX11_readText_6 : decode cX11_readText 6 = .ok (.iconst 0, 1) := by decide +kernel
theorem dX11_readText_7 : decode cX11_readText 7 = .ok (.putfield 134, 3) := by decide +kernel
theorem dX11_readText_10 : decode cX11_readText 10 = .ok (.iconst 0, 1) := by decide +kernel
theorem dX11_readText_11 : decode cX11_readText 11 = .ok (.istore_n 2, 1) := by decide +kernel
theorem dX11_readText_12 : decode cX11_readText 12 = .ok (.aload_n 0, 1) := by decide +kernel
theorem dX11_readText_13 : decode cX11_readText 13 = .ok (.invokevirtual 124, 3) := by decide +kernel
theorem dX11_readText_16 : decode cX11_readText 16 = .ok (.iload_n 2, 1) := by decide +kernel
theorem dX11_readText_17 : decode cX11_readText 17 = .ok (.ifCond .eq 11, 3) := by decide +kernel
theorem dX11_readText_20 : decode cX11_readText 20 = .ok (.aload_n 0, 1) := by decide +kernel
theorem dX11_readText_21 : decode cX11_readText 21 = .ok (.getfield 113, 3) := by decide +kernel
theorem dX11_readText_24 : decode cX11_readText 24 = .ok (.iconst 3, 1) := by decide +kernel
theorem dX11_readText_25 : decode cX11_readText 25 = .ok (.if_icmp .eq 24, 3) := by decide +kernel
theorem dX11_readText_28 : decode cX11_readText 28 = .ok (.aload_n 0, 1) := by decide +kernel
theorem dX11_readText_29 : decode cX11_readText 29 = .ok (.iload_n 2, 1) := by decide +kernel
theorem dX11_readText_30 : decode cX11_readText 30 = .ok (.iload_n 1, 1) := by decide +kernel
theorem dX11_readText_31 : decode cX11_readText 31 = .ok (.invokevirtual 145, 3) := by decide +kernel
theorem dX11_readText_34 : decode cX11_readText 34 = .ok (.ifCond .ne 5, 3) := by decide +kernel
theorem dX11_readText_37 : decode cX11_readText 37 = .ok (.iconst (-1), 1) := by decide +kernel
theorem dX11_readText_38 : decode cX11_readText 38 = .ok (.ireturn, 1) := by decide +kernel
theorem dX11_readText_39 : decode cX11_readText 39 = .ok (.iinc 2 1, 3) := by decide +kernel
theorem dX11_readText_42 : decode cX11_readText 42 = .ok (.aload_n 0, 1) := by decide +kernel
theorem dX11_readText_43 : decode cX11_readText 43 = .ok (.invokevirtual 124, 3) := by decide +kernel
theorem dX11_readText_46 : decode cX11_readText 46 = .ok (.goto (-30), 3) := by decide +kernel
theorem dX11_readText_49 : decode cX11_readText 49 = .ok (.iload_n 2, 1) := by decide +kernel
theorem dX11_readText_50 : decode cX11_readText 50 = .ok (.ireturn, 1) := by decide +kernel
def j_X11_readText_16_28 (a1 : Int32) (N : gMem) (b2 : Int32) : Option ((Int32 × gMem) ⊕ ((Int32 × gMem) ⊕ (Int32 × gMem))) := Option.bind (x_X11_readItem N b2 a1) (fun v4 => (if v4.1 = 0 then some (.inr (.inr ((-1), v4.2))) else Option.bind (x_X11_nextToken v4.2) (fun v8 => some (.inl (b2 + 1, v8)))))
def s_X11_readText_16 (a1 : Int32) (b2 : Int32) (N : gMem) : Option ((Int32 × gMem) ⊕ ((Int32 × gMem) ⊕ (Int32 × gMem))) := (if b2 = 0 then j_X11_readText_16_28 a1 N b2 else (if (N.1 0 59 7) = 3 then some (.inr (.inl (b2, N))) else j_X11_readText_16_28 a1 N b2))
def x_X11_readText (M : gMem) (p1 : Int32) : Option (Int32 × gMem) := Option.bind (x_X11_nextToken (gwr (gwr M 0 59 6 0) 0 59 12 0)) (fun v1 => Option.bind (itr FU (fun s => s_X11_readText_16 p1 s.1 s.2) (0, v1)) (fun e11 => Sum.elim (fun s12 => some (s12.1, s12.2)) (fun z13 => some z13) e11))
set_option maxRecDepth 100000 in
set_option maxHeartbeats 4000000 in
theorem w_X11_readText_16 {X : gX} {Y : gY} {a1 : Int32} {r : (Int32 × gMem)} (hC : gC X Y cX11_readText "GuestStaffModel" 3 4 90) (hF : gF X Y (some .int) (gQi Y r)) {e : ((Int32 × gMem) ⊕ (Int32 × gMem))} (kE : ∀ s : (Int32 × gMem), e = .inl s → gWW X Y 3 49 [(2, .int s.1)] [] s.2) (kR : ∀ z : (Int32 × gMem), e = .inr z → z = r) : ∀ (F : Nat) (s : (Int32 × gMem)), itr F (fun s => s_X11_readText_16 a1 s.1 s.2) s = some e → gWW X Y 3 16 [(0, .ref (gad Y 0 59)), (1, .int a1), (2, .int s.1)] [] s.2 := by
  intro F s
  refine itr_w (P := fun s => gWW X Y 3 16 [(0, .ref (gad Y 0 59)), (1, .int a1), (2, .int s.1)] [] s.2) (fun s o hx kI kx => ?_) F s
  obtain ⟨b2, N⟩ := s
  have hx : s_X11_readText_16 a1 b2 N = some o := hx
  have kE : ∀ s : (Int32 × gMem), o = .inr (.inl s) → gWW X Y 3 49 [(2, .int s.1)] [] s.2 := fun s q => kE s (kx _ q).symm
  have kR : ∀ z : (Int32 × gMem), o = .inr (.inr z) → z = r := fun z q => kR z (kx _ q).symm
  have J28 : ∀ (N : gMem) (b2 : Int32) , j_X11_readText_16_28 a1 N b2 = some o → gWW X Y 3 28 [(0, .ref (gad Y 0 59)), (1, .int a1), (2, .int b2)] [] N := by
    intro N b2 hx
    unfold j_X11_readText_16_28 at hx
    refine q_aload_n hC 0 dX11_readText_28 rfl rfl ?_
    refine q_iload_n hC 2 dX11_readText_29 rfl rfl ?_
    refine q_iload_n hC 1 dX11_readText_30 rfl rfl ?_
    obtain ⟨v4, q5, hx⟩ := gb_e hx
    refine q_kz (q_rV (As := [.int b2, .int a1]) (rest := []) hC mm_X11_readItem wM_X11_145 (c_X11_readItem q5) ⟨rfl, rfl, Nat.le_of_ble_eq_true rfl, Nat.le_of_ble_eq_true rfl⟩ (gV_t (by decide) (by decide)) rfl rfl rfl rfl (Nat.le_of_ble_eq_true rfl) dX11_readText_31) (fun z6 => ?_)
    refine q_if_ne hC 39 dX11_readText_34 rfl (fun h7 => ?_) (fun h7 => ?_)
    · have hx := gi_n h7 hx
      refine q_iinc hC 2 1 [(2, .int (b2 + 1)), (0, .ref (gad Y 0 59)), (1, .int a1)] dX11_readText_39 rfl rfl (by decide) rfl ?_
      refine q_aload_n hC 1 dX11_readText_42 rfl rfl ?_
      obtain ⟨v8, q9, hx⟩ := gb_e hx
      refine q_kv (q_rV (As := []) (rest := []) hC mm_X11_nextToken wM_X11_124 (c_X11_nextToken q9) ⟨rfl, rfl, Nat.le_of_ble_eq_true rfl, Nat.le_of_ble_eq_true rfl⟩ (gV_t (by decide) (by decide)) rfl rfl rfl rfl (Nat.le_of_ble_eq_true rfl) dX11_readText_43) ?_
      refine q_goto hC 16 dX11_readText_46 rfl ?_
      exact q_sub [1, 2, 0] rfl (kI (b2 + 1, v8) (Option.some.inj hx).symm)
    · have hx := gi_p h7 hx
      refine q_iconst hC (-1) dX11_readText_37 rfl ?_
      exact q_iret hC hF dX11_readText_38 (kR _ (Option.some.inj hx).symm)
  unfold s_X11_readText_16 at hx
  refine q_iload_n hC 2 dX11_readText_16 rfl rfl ?_
  refine q_if_eq hC 28 dX11_readText_17 rfl (fun h3 => ?_) (fun h3 => ?_)
  · have hx := gi_p h3 hx
    exact q_sub [0, 1, 2] rfl (J28 N b2 hx)
  · have hx := gi_n h3 hx
    refine q_aload_n hC 0 dX11_readText_20 rfl rfl ?_
    refine gf_X11_113 hC dX11_readText_21 ?_
    refine q_iconst hC 3 dX11_readText_24 rfl ?_
    refine q_ic_eq hC 49 dX11_readText_25 rfl (fun h10 => ?_) (fun h10 => ?_)
    · have hx := gi_p h10 hx
      exact q_sub [2] rfl (kE (b2, N) (Option.some.inj hx).symm)
    · have hx := gi_n h10 hx
      exact q_sub [0, 1, 2] rfl (J28 N b2 hx)
set_option maxRecDepth 100000 in
set_option maxHeartbeats 4000000 in
theorem c_X11_readText {l : Launch} {Y : gY} {M : gMem} {p1 : Int32} {r : (Int32 × gMem)} (hx : x_X11_readText M p1 = some r) : Met l yX11_readText (gws yX11_readText cX11_readText 3 (some .int)) { frames := 4, cells := 0, slots := 0, locals := 90 } (va_Pc [.ref (gad Y 0 59), .int p1] (gS0 Y M)) (gQi Y r) 0 0 (gA Y) := by
  refine gmet (lv := [(0, .ref (gad Y 0 59)), (1, .int p1)]) "GuestStaffModel" (by decide) rfl (Nat.le_of_ble_eq_true rfl) rfl (fun X hC hF => ?_)
  unfold x_X11_readText at hx
  refine q_aload_n hC 0 dX11_readText_0 rfl rfl ?_
  refine q_iconst hC 0 dX11_readText_1 rfl ?_
  refine pf_X11_100 hC dX11_readText_2 ?_
  refine q_aload_n hC 0 dX11_readText_5 rfl rfl ?_
  refine q_iconst hC 0 dX11_readText_6 rfl ?_
  refine pf_X11_134 hC dX11_readText_7 ?_
  refine q_iconst hC 0 dX11_readText_10 rfl ?_
  refine q_istore_n hC [(2, .int 0), (0, .ref (gad Y 0 59)), (1, .int p1)] dX11_readText_11 rfl (by decide) rfl ?_
  refine q_aload_n hC 1 dX11_readText_12 rfl rfl ?_
  obtain ⟨v1, q2, hx⟩ := gb_e hx
  refine q_kv (q_rV (As := []) (rest := []) hC mm_X11_nextToken wM_X11_124 (c_X11_nextToken q2) ⟨rfl, rfl, Nat.le_of_ble_eq_true rfl, Nat.le_of_ble_eq_true rfl⟩ (gV_t (by decide) (by decide)) rfl rfl rfl rfl (Nat.le_of_ble_eq_true rfl) dX11_readText_13) ?_
  obtain ⟨e11, qe11, hx⟩ := gb_e hx
  refine q_sub [1, 2, 0] rfl (w_X11_readText_16 hC hF (e := e11) (fun s12 qs12 => ?_) (fun z13 qz13 => ?_) _ _ qe11)
  · subst qs12
    refine q_iload_n hC 0 dX11_readText_49 rfl rfl ?_
    exact q_iret hC hF dX11_readText_50 (Option.some.inj hx)
  · subst qz13
    exact Option.some.inj hx
