theorem dX4_contentBy_0 : decode cX4_contentBy 0 = .ok (.iconst 5, 1) := by decide +kernel
theorem dX4_contentBy_1 : decode cX4_contentBy 1 = .ok (.ireturn, 1) := by decide +kernel
def x_X4_contentBy (kd : Nat) (p1 : Int32) (p2 : Int32) : Option Int32 := some 5
set_option maxRecDepth 100000 in
set_option maxHeartbeats 4000000 in
theorem c_X4_contentBy {l : Launch} {Y : gY} {M : gMem} {kd : Nat} {p1 : Int32} {p2 : Int32} {r : Int32} (hkd : kd < 6) (hx : x_X4_contentBy kd p1 p2 = some r) : Met l yX4_contentBy (gws yX4_contentBy cX4_contentBy 3 (some .int)) { frames := 0, cells := 0, slots := 0, locals := 0 } (va_Pc [.ref (gad Y 0 (52 + kd)), .int p1, .int p2] (gS0 Y M)) (gQi Y (r, M)) 0 0 (gA Y) := by
  refine gmet (lv := [(0, .ref (gad Y 0 (52 + kd))), (1, .int p1), (2, .int p2)]) "GuestStaff$Plain" (by decide) rfl (Nat.le_of_ble_eq_true rfl) rfl (fun X hC hF => ?_)
  unfold x_X4_contentBy at hx
  refine q_iconst hC 5 dX4_contentBy_0 rfl ?_
  exact q_iret hC hF dX4_contentBy_1 (congrArg (fun z => (z, M)) (Option.some.inj hx))

theorem dX0_contentBy_0 : decode cX0_contentBy 0 = .ok (.iconst 2, 1) := by decide +kernel
theorem dX0_contentBy_1 : decode cX0_contentBy 1 = .ok (.aload_n 0, 1) := by decide +kernel
theorem dX0_contentBy_2 : decode cX0_contentBy 2 = .ok (.iload_n 1, 1) := by decide +kernel
theorem dX0_contentBy_3 : decode cX0_contentBy 3 = .ok (.iload_n 2, 1) := by decide +kernel
theorem dX0_contentBy_4 : decode cX0_contentBy 4 = .ok (.invokespecial 7, 3) := by decide +kernel
theorem dX0_contentBy_7 : decode cX0_contentBy 7 = .ok (.imul, 1) := by decide +kernel
theorem dX0_contentBy_8 : decode cX0_contentBy 8 = .ok (.ireturn, 1) := by decide +kernel
def x_X0_contentBy (kd : Nat) (p1 : Int32) (p2 : Int32) : Option Int32 := Option.bind (x_X4_contentBy kd p1 p2) (fun v1 => some (2 * v1))
set_option maxRecDepth 100000 in
set_option maxHeartbeats 4000000 in
theorem c_X0_contentBy {l : Launch} {Y : gY} {M : gMem} {kd : Nat} {p1 : Int32} {p2 : Int32} {r : Int32} (hkd : kd < 6) (hx : x_X0_contentBy kd p1 p2 = some r) : Met l yX0_contentBy (gws yX0_contentBy cX0_contentBy 3 (some .int)) { frames := 1, cells := 0, slots := 0, locals := 22 } (va_Pc [.ref (gad Y 0 (52 + kd)), .int p1, .int p2] (gS0 Y M)) (gQi Y (r, M)) 0 0 (gA Y) := by
  refine gmet (lv := [(0, .ref (gad Y 0 (52 + kd))), (1, .int p1), (2, .int p2)]) "GuestStaff$Banker" (by decide) rfl (Nat.le_of_ble_eq_true rfl) rfl (fun X hC hF => ?_)
  unfold x_X0_contentBy at hx
  obtain ⟨ci, C, T, N, hek, hek2⟩ := gkind Y M hkd
  refine q_iconst hC 2 dX0_contentBy_0 rfl ?_
  refine q_aload_n hC 0 dX0_contentBy_1 rfl rfl ?_
  refine q_iload_n hC 1 dX0_contentBy_2 rfl rfl ?_
  refine q_iload_n hC 2 dX0_contentBy_3 rfl rfl ?_
  obtain ⟨v1, q2, hx⟩ := gb_e hx
  refine q_kip (q_rU (As := [.int p1, .int p2]) (rest := [.int 2]) hC mt_X4_contentBy mi_X4_contentBy wM_X0_7 wA_X4_contentBy wU_X0 (by decide) (c_X4_contentBy hkd q2) ⟨rfl, rfl, Nat.le_of_ble_eq_true rfl, Nat.le_of_ble_eq_true rfl⟩ (gV_t (by omega) (by omega)) hek hek2 rfl rfl (Nat.le_of_ble_eq_true rfl) dX0_contentBy_4) ?_
  refine q_imul hC dX0_contentBy_7 ?_
  exact q_iret hC hF dX0_contentBy_8 (congrArg (fun z => (z, M)) (Option.some.inj hx))

theorem dX4_workOn_0 : decode cX4_workOn 0 = .ok (.iconst 2, 1) := by decide +kernel
theorem dX4_workOn_1 : decode cX4_workOn 1 = .ok (.ireturn, 1) := by decide +kernel
def x_X4_workOn (kd : Nat) (p1 : Int32) : Option Int32 := some 2
set_option maxRecDepth 100000 in
set_option maxHeartbeats 4000000 in
theorem c_X4_workOn {l : Launch} {Y : gY} {M : gMem} {kd : Nat} {p1 : Int32} {r : Int32} (hkd : kd < 6) (hx : x_X4_workOn kd p1 = some r) : Met l yX4_workOn (gws yX4_workOn cX4_workOn 2 (some .int)) { frames := 0, cells := 0, slots := 0, locals := 0 } (va_Pc [.ref (gad Y 0 (52 + kd)), .int p1] (gS0 Y M)) (gQi Y (r, M)) 0 0 (gA Y) := by
  refine gmet (lv := [(0, .ref (gad Y 0 (52 + kd))), (1, .int p1)]) "GuestStaff$Plain" (by decide) rfl (Nat.le_of_ble_eq_true rfl) rfl (fun X hC hF => ?_)
  unfold x_X4_workOn at hx
  refine q_iconst hC 2 dX4_workOn_0 rfl ?_
  exact q_iret hC hF dX4_workOn_1 (congrArg (fun z => (z, M)) (Option.some.inj hx))

theorem dX0_workOn_0 : decode cX0_workOn 0 = .ok (.aload_n 0, 1) := by decide +kernel
theorem dX0_workOn_1 : decode cX0_workOn 1 = .ok (.iload_n 1, 1) := by decide +kernel
theorem dX0_workOn_2 : decode cX0_workOn 2 = .ok (.invokespecial 11, 3) := by decide +kernel
theorem dX0_workOn_5 : decode cX0_workOn 5 = .ok (.iload_n 1, 1) := by decide +kernel
theorem dX0_workOn_6 : decode cX0_workOn 6 = .ok (.iadd, 1) := by decide +kernel
theorem dX0_workOn_7 : decode cX0_workOn 7 = .ok (.ireturn, 1) := by decide +kernel
def x_X0_workOn (kd : Nat) (p1 : Int32) : Option Int32 := Option.bind (x_X4_workOn kd p1) (fun v1 => some (v1 + p1))
set_option maxRecDepth 100000 in
set_option maxHeartbeats 4000000 in
theorem c_X0_workOn {l : Launch} {Y : gY} {M : gMem} {kd : Nat} {p1 : Int32} {r : Int32} (hkd : kd < 6) (hx : x_X0_workOn kd p1 = some r) : Met l yX0_workOn (gws yX0_workOn cX0_workOn 2 (some .int)) { frames := 1, cells := 0, slots := 0, locals := 21 } (va_Pc [.ref (gad Y 0 (52 + kd)), .int p1] (gS0 Y M)) (gQi Y (r, M)) 0 0 (gA Y) := by
  refine gmet (lv := [(0, .ref (gad Y 0 (52 + kd))), (1, .int p1)]) "GuestStaff$Banker" (by decide) rfl (Nat.le_of_ble_eq_true rfl) rfl (fun X hC hF => ?_)
  unfold x_X0_workOn at hx
  obtain ⟨ci, C, T, N, hek, hek2⟩ := gkind Y M hkd
  refine q_aload_n hC 0 dX0_workOn_0 rfl rfl ?_
  refine q_iload_n hC 1 dX0_workOn_1 rfl rfl ?_
  obtain ⟨v1, q2, hx⟩ := gb_e hx
  refine q_kip (q_rU (As := [.int p1]) (rest := []) hC mt_X4_workOn mi_X4_workOn wM_X0_11 wA_X4_workOn wU_X0 (by decide) (c_X4_workOn hkd q2) ⟨rfl, rfl, Nat.le_of_ble_eq_true rfl, Nat.le_of_ble_eq_true rfl⟩ (gV_t (by omega) (by omega)) hek hek2 rfl rfl (Nat.le_of_ble_eq_true rfl) dX0_workOn_2) ?_
  refine q_iload_n hC 1 dX0_workOn_5 rfl rfl ?_
  refine q_iadd hC dX0_workOn_6 ?_
  exact q_iret hC hF dX0_workOn_7 (congrArg (fun z => (z, M)) (Option.some.inj hx))

theorem dX6_contentBy_0 : decode cX6_contentBy 0 = .ok (.aload_n 0, 1) := by decide +kernel
theorem dX6_contentBy_1 : decode cX6_contentBy 1 = .ok (.iload_n 1, 1) := by decide +kernel
theorem dX6_contentBy_2 : decode cX6_contentBy 2 = .ok (.iload_n 2, 1) := by decide +kernel
theorem dX6_contentBy_3 : decode cX6_contentBy 3 = .ok (.invokespecial 9, 3) := by decide +kernel
theorem dX6_contentBy_6 : decode cX6_contentBy 6 = .ok (.istore_n 3, 1) := by decide +kernel
theorem dX6_contentBy_7 : decode cX6_contentBy 7 = .ok (.iload_n 1, 1) := by decide +kernel
theorem dX6_contentBy_8 : decode cX6_contentBy 8 = .ok (.iconst 1, 1) := by decide +kernel
theorem dX6_contentBy_9 : decode cX6_contentBy 9 = .ok (.if_icmp .ne 9, 3) := by decide +kernel
theorem dX6_contentBy_12 : decode cX6_contentBy 12 = .ok (.iload_n 3, 1) := by decide +kernel
theorem dX6_contentBy_13 : decode cX6_contentBy 13 = .ok (.iconst 3, 1) := by decide +kernel
theorem dX6_contentBy_14 : decode cX6_contentBy 14 = .ok (.iadd, 1) := by decide +kernel
theorem dX6_contentBy_15 : decode cX6_contentBy 15 = .ok (.goto 4, 3) := by decide +kernel
theorem dX6_contentBy_18 : decode cX6_contentBy 18 = .ok (.iload_n 3, 1) := by decide +kernel
theorem dX6_contentBy_19 : decode cX6_contentBy 19 = .ok (.ireturn, 1) := by decide +kernel
def x_X6_contentBy (kd : Nat) (p1 : Int32) (p2 : Int32) : Option Int32 := Option.bind (x_X4_contentBy kd p1 p2) (fun v1 => (if p1 = 1 then some (v1 + 3) else some v1))
set_option maxRecDepth 100000 in
set_option maxHeartbeats 4000000 in
theorem c_X6_contentBy {l : Launch} {Y : gY} {M : gMem} {kd : Nat} {p1 : Int32} {p2 : Int32} {r : Int32} (hkd : kd < 6) (hx : x_X6_contentBy kd p1 p2 = some r) : Met l yX6_contentBy (gws yX6_contentBy cX6_contentBy 4 (some .int)) { frames := 1, cells := 0, slots := 0, locals := 22 } (va_Pc [.ref (gad Y 0 (52 + kd)), .int p1, .int p2] (gS0 Y M)) (gQi Y (r, M)) 0 0 (gA Y) := by
  refine gmet (lv := [(0, .ref (gad Y 0 (52 + kd))), (1, .int p1), (2, .int p2)]) "GuestStaff$Quiet" (by decide) rfl (Nat.le_of_ble_eq_true rfl) rfl (fun X hC hF => ?_)
  unfold x_X6_contentBy at hx
  obtain ⟨ci, C, T, N, hek, hek2⟩ := gkind Y M hkd
  refine q_aload_n hC 0 dX6_contentBy_0 rfl rfl ?_
  refine q_iload_n hC 1 dX6_contentBy_1 rfl rfl ?_
  refine q_iload_n hC 2 dX6_contentBy_2 rfl rfl ?_
  obtain ⟨v1, q2, hx⟩ := gb_e hx
  refine q_kip (q_rU (As := [.int p1, .int p2]) (rest := []) hC mt_X4_contentBy mi_X4_contentBy wM_X6_9 wA_X4_contentBy wU_X6 (by decide) (c_X4_contentBy hkd q2) ⟨rfl, rfl, Nat.le_of_ble_eq_true rfl, Nat.le_of_ble_eq_true rfl⟩ (gV_t (by omega) (by omega)) hek hek2 rfl rfl (Nat.le_of_ble_eq_true rfl) dX6_contentBy_3) ?_
  refine q_istore_n hC [(3, .int v1), (0, .ref (gad Y 0 (52 + kd))), (1, .int p1), (2, .int p2)] dX6_contentBy_6 rfl (by decide) rfl ?_
  refine q_iload_n hC 2 dX6_contentBy_7 rfl rfl ?_
  refine q_iconst hC 1 dX6_contentBy_8 rfl ?_
  refine q_ic_ne hC 18 dX6_contentBy_9 rfl (fun h3 => ?_) (fun h3 => ?_)
  · have hx := gi_n h3 hx
    refine q_iload_n hC 0 dX6_contentBy_18 rfl rfl ?_
    exact q_iret hC hF dX6_contentBy_19 (congrArg (fun z => (z, M)) (Option.some.inj hx))
  · have hx := gi_p h3 hx
    refine q_iload_n hC 0 dX6_contentBy_12 rfl rfl ?_
    refine q_iconst hC 3 dX6_contentBy_13 rfl ?_
    refine q_iadd hC dX6_contentBy_14 ?_
    refine q_goto hC 19 dX6_contentBy_15 rfl ?_
    exact q_iret hC hF dX6_contentBy_19 (congrArg (fun z => (z, M)) (Option.some.inj hx))

theorem dX2_contentBy_0 : decode cX2_contentBy 0 = .ok (.iload_n 2, 1) := by decide +kernel
theorem dX2_contentBy_1 : decode cX2_contentBy 1 = .ok (.iconst 4, 1) := by decide +kernel
theorem dX2_contentBy_2 : decode cX2_contentBy 2 = .ok (.irem, 1) := by decide +kernel
theorem dX2_contentBy_3 : decode cX2_contentBy 3 = .ok (.ifCond .ne 7, 3) := by decide +kernel
theorem dX2_contentBy_6 : decode cX2_contentBy 6 = .ok (.iconst 0, 1) := by decide +kernel
theorem dX2_contentBy_7 : decode cX2_contentBy 7 = .ok (.goto 9, 3) := by decide +kernel
theorem dX2_contentBy_10 : decode cX2_contentBy 10 = .ok (.aload_n 0, 1) := by decide +kernel
theorem dX2_contentBy_11 : decode cX2_contentBy 11 = .ok (.iload_n 1, 1) := by decide +kernel
theorem dX2_contentBy_12 : decode cX2_contentBy 12 = .ok (.iload_n 2, 1) := by decide +kernel
theorem dX2_contentBy_13 : decode cX2_contentBy 13 = .ok (.invokespecial 7, 3) := by decide +kernel
theorem dX2_contentBy_16 : decode cX2_contentBy 16 = .ok (.ireturn, 1) := by decide +kernel
def x_X2_contentBy (kd : Nat) (p1 : Int32) (p2 : Int32) : Option Int32 := (if (p2 - p2 / 4 * 4) = 0 then some 0 else Option.bind (x_X6_contentBy kd p1 p2) (fun v2 => some v2))
set_option maxRecDepth 100000 in
set_option maxHeartbeats 4000000 in
theorem c_X2_contentBy {l : Launch} {Y : gY} {M : gMem} {kd : Nat} {p1 : Int32} {p2 : Int32} {r : Int32} (hkd : kd < 6) (hx : x_X2_contentBy kd p1 p2 = some r) : Met l yX2_contentBy (gws yX2_contentBy cX2_contentBy 3 (some .int)) { frames := 2, cells := 0, slots := 0, locals := 45 } (va_Pc [.ref (gad Y 0 (52 + kd)), .int p1, .int p2] (gS0 Y M)) (gQi Y (r, M)) 0 0 (gA Y) := by
  refine gmet (lv := [(0, .ref (gad Y 0 (52 + kd))), (1, .int p1), (2, .int p2)]) "GuestStaff$Late" (by decide) rfl (Nat.le_of_ble_eq_true rfl) rfl (fun X hC hF => ?_)
  unfold x_X2_contentBy at hx
  obtain ⟨ci, C, T, N, hek, hek2⟩ := gkind Y M hkd
  refine q_iload_n hC 2 dX2_contentBy_0 rfl rfl ?_
  refine q_iconst hC 4 dX2_contentBy_1 rfl ?_
  refine q_irem hC dX2_contentBy_2 (by decide) ?_
  refine q_if_ne hC 10 dX2_contentBy_3 rfl (fun h1 => ?_) (fun h1 => ?_)
  · have hx := gi_n h1 hx
    refine q_aload_n hC 0 dX2_contentBy_10 rfl rfl ?_
    refine q_iload_n hC 1 dX2_contentBy_11 rfl rfl ?_
    refine q_iload_n hC 2 dX2_contentBy_12 rfl rfl ?_
    obtain ⟨v2, q3, hx⟩ := gb_e hx
    refine q_kip (q_rU (As := [.int p1, .int p2]) (rest := []) hC mt_X6_contentBy mi_X6_contentBy wM_X2_7 wA_X6_contentBy wU_X2 (by decide) (c_X6_contentBy hkd q3) ⟨rfl, rfl, Nat.le_of_ble_eq_true rfl, Nat.le_of_ble_eq_true rfl⟩ (gV_t (by omega) (by omega)) hek hek2 rfl rfl (Nat.le_of_ble_eq_true rfl) dX2_contentBy_13) ?_
    exact q_iret hC hF dX2_contentBy_16 (congrArg (fun z => (z, M)) (Option.some.inj hx))
  · have hx := gi_p h1 hx
    refine q_iconst hC 0 dX2_contentBy_6 rfl ?_
    refine q_goto hC 16 dX2_contentBy_7 rfl ?_
    exact q_iret hC hF dX2_contentBy_16 (congrArg (fun z => (z, M)) (Option.some.inj hx))

theorem dX5_contentBy_0 : decode cX5_contentBy 0 = .ok (.aload_n 0, 1) := by decide +kernel
theorem dX5_contentBy_1 : decode cX5_contentBy 1 = .ok (.iload_n 1, 1) := by decide +kernel
theorem dX5_contentBy_2 : decode cX5_contentBy 2 = .ok (.iload_n 2, 1) := by decide +kernel
theorem dX5_contentBy_3 : decode cX5_contentBy 3 = .ok (.invokespecial 7, 3) := by decide +kernel
theorem dX5_contentBy_6 : decode cX5_contentBy 6 = .ok (.iconst 4, 1) := by decide +kernel
theorem dX5_contentBy_7 : decode cX5_contentBy 7 = .ok (.isub, 1) := by decide +kernel
theorem dX5_contentBy_8 : decode cX5_contentBy 8 = .ok (.ireturn, 1) := by decide +kernel
def x_X5_contentBy (kd : Nat) (p1 : Int32) (p2 : Int32) : Option Int32 := Option.bind (x_X0_contentBy kd p1 p2) (fun v1 => some (v1 - 4))
set_option maxRecDepth 100000 in
set_option maxHeartbeats 4000000 in
theorem c_X5_contentBy {l : Launch} {Y : gY} {M : gMem} {kd : Nat} {p1 : Int32} {p2 : Int32} {r : Int32} (hkd : kd < 6) (hx : x_X5_contentBy kd p1 p2 = some r) : Met l yX5_contentBy (gws yX5_contentBy cX5_contentBy 3 (some .int)) { frames := 2, cells := 0, slots := 0, locals := 44 } (va_Pc [.ref (gad Y 0 (52 + kd)), .int p1, .int p2] (gS0 Y M)) (gQi Y (r, M)) 0 0 (gA Y) := by
  refine gmet (lv := [(0, .ref (gad Y 0 (52 + kd))), (1, .int p1), (2, .int p2)]) "GuestStaff$Polisher" (by decide) rfl (Nat.le_of_ble_eq_true rfl) rfl (fun X hC hF => ?_)
  unfold x_X5_contentBy at hx
  obtain ⟨ci, C, T, N, hek, hek2⟩ := gkind Y M hkd
  refine q_aload_n hC 0 dX5_contentBy_0 rfl rfl ?_
  refine q_iload_n hC 1 dX5_contentBy_1 rfl rfl ?_
  refine q_iload_n hC 2 dX5_contentBy_2 rfl rfl ?_
  obtain ⟨v1, q2, hx⟩ := gb_e hx
  refine q_kip (q_rU (As := [.int p1, .int p2]) (rest := []) hC mt_X0_contentBy mi_X0_contentBy wM_X5_7 wA_X0_contentBy wU_X5 (by decide) (c_X0_contentBy hkd q2) ⟨rfl, rfl, Nat.le_of_ble_eq_true rfl, Nat.le_of_ble_eq_true rfl⟩ (gV_t (by omega) (by omega)) hek hek2 rfl rfl (Nat.le_of_ble_eq_true rfl) dX5_contentBy_3) ?_
  refine q_iconst hC 4 dX5_contentBy_6 rfl ?_
  refine q_isub hC dX5_contentBy_7 ?_
  exact q_iret hC hF dX5_contentBy_8 (congrArg (fun z => (z, M)) (Option.some.inj hx))

theorem dX5_workOn_0 : decode cX5_workOn 0 = .ok (.aload_n 0, 1) := by decide +kernel
theorem dX5_workOn_1 : decode cX5_workOn 1 = .ok (.iload_n 1, 1) := by decide +kernel
theorem dX5_workOn_2 : decode cX5_workOn 2 = .ok (.invokespecial 11, 3) := by decide +kernel
theorem dX5_workOn_5 : decode cX5_workOn 5 = .ok (.iconst 2, 1) := by decide +kernel
theorem dX5_workOn_6 : decode cX5_workOn 6 = .ok (.idiv, 1) := by decide +kernel
theorem dX5_workOn_7 : decode cX5_workOn 7 = .ok (.ireturn, 1) := by decide +kernel
def x_X5_workOn (kd : Nat) (p1 : Int32) : Option Int32 := Option.bind (x_X0_workOn kd p1) (fun v1 => some (v1 / 2))
set_option maxRecDepth 100000 in
set_option maxHeartbeats 4000000 in
theorem c_X5_workOn {l : Launch} {Y : gY} {M : gMem} {kd : Nat} {p1 : Int32} {r : Int32} (hkd : kd < 6) (hx : x_X5_workOn kd p1 = some r) : Met l yX5_workOn (gws yX5_workOn cX5_workOn 2 (some .int)) { frames := 2, cells := 0, slots := 0, locals := 42 } (va_Pc [.ref (gad Y 0 (52 + kd)), .int p1] (gS0 Y M)) (gQi Y (r, M)) 0 0 (gA Y) := by
  refine gmet (lv := [(0, .ref (gad Y 0 (52 + kd))), (1, .int p1)]) "GuestStaff$Polisher" (by decide) rfl (Nat.le_of_ble_eq_true rfl) rfl (fun X hC hF => ?_)
  unfold x_X5_workOn at hx
  obtain ⟨ci, C, T, N, hek, hek2⟩ := gkind Y M hkd
  refine q_aload_n hC 0 dX5_workOn_0 rfl rfl ?_
  refine q_iload_n hC 1 dX5_workOn_1 rfl rfl ?_
  obtain ⟨v1, q2, hx⟩ := gb_e hx
  refine q_kip (q_rU (As := [.int p1]) (rest := []) hC mt_X0_workOn mi_X0_workOn wM_X5_11 wA_X0_workOn wU_X5 (by decide) (c_X0_workOn hkd q2) ⟨rfl, rfl, Nat.le_of_ble_eq_true rfl, Nat.le_of_ble_eq_true rfl⟩ (gV_t (by omega) (by omega)) hek hek2 rfl rfl (Nat.le_of_ble_eq_true rfl) dX5_workOn_2) ?_
  refine q_iconst hC 2 dX5_workOn_5 rfl ?_
  refine q_idiv hC dX5_workOn_6 (by decide) ?_
  exact q_iret hC hF dX5_workOn_7 (congrArg (fun z => (z, M)) (Option.some.inj hx))

theorem dX6_workOn_0 : decode cX6_workOn 0 = .ok (.aload_n 0, 1) := by decide +kernel
theorem dX6_workOn_1 : decode cX6_workOn 1 = .ok (.iload_n 1, 1) := by decide +kernel
theorem dX6_workOn_2 : decode cX6_workOn 2 = .ok (.invokespecial 13, 3) := by decide +kernel
theorem dX6_workOn_5 : decode cX6_workOn 5 = .ok (.iconst 1, 1) := by decide +kernel
theorem dX6_workOn_6 : decode cX6_workOn 6 = .ok (.isub, 1) := by decide +kernel
theorem dX6_workOn_7 : decode cX6_workOn 7 = .ok (.ireturn, 1) := by decide +kernel
def x_X6_workOn (kd : Nat) (p1 : Int32) : Option Int32 := Option.bind (x_X4_workOn kd p1) (fun v1 => some (v1 - 1))
set_option maxRecDepth 100000 in
set_option maxHeartbeats 4000000 in
theorem c_X6_workOn {l : Launch} {Y : gY} {M : gMem} {kd : Nat} {p1 : Int32} {r : Int32} (hkd : kd < 6) (hx : x_X6_workOn kd p1 = some r) : Met l yX6_workOn (gws yX6_workOn cX6_workOn 2 (some .int)) { frames := 1, cells := 0, slots := 0, locals := 21 } (va_Pc [.ref (gad Y 0 (52 + kd)), .int p1] (gS0 Y M)) (gQi Y (r, M)) 0 0 (gA Y) := by
  refine gmet (lv := [(0, .ref (gad Y 0 (52 + kd))), (1, .int p1)]) "GuestStaff$Quiet" (by decide) rfl (Nat.le_of_ble_eq_true rfl) rfl (fun X hC hF => ?_)
  unfold x_X6_workOn at hx
  obtain ⟨ci, C, T, N, hek, hek2⟩ := gkind Y M hkd
  refine q_aload_n hC 0 dX6_workOn_0 rfl rfl ?_
  refine q_iload_n hC 1 dX6_workOn_1 rfl rfl ?_
  obtain ⟨v1, q2, hx⟩ := gb_e hx
  refine q_kip (q_rU (As := [.int p1]) (rest := []) hC mt_X4_workOn mi_X4_workOn wM_X6_13 wA_X4_workOn wU_X6 (by decide) (c_X4_workOn hkd q2) ⟨rfl, rfl, Nat.le_of_ble_eq_true rfl, Nat.le_of_ble_eq_true rfl⟩ (gV_t (by omega) (by omega)) hek hek2 rfl rfl (Nat.le_of_ble_eq_true rfl) dX6_workOn_2) ?_
  refine q_iconst hC 1 dX6_workOn_5 rfl ?_
  refine q_isub hC dX6_workOn_6 ?_
  exact q_iret hC hF dX6_workOn_7 (congrArg (fun z => (z, M)) (Option.some.inj hx))

theorem dX8_contentBy_0 : decode cX8_contentBy 0 = .ok (.aload_n 0, 1) := by decide +kernel
theorem dX8_contentBy_1 : decode cX8_contentBy 1 = .ok (.iload_n 1, 1) := by decide +kernel
theorem dX8_contentBy_2 : decode cX8_contentBy 2 = .ok (.iload_n 2, 1) := by decide +kernel
theorem dX8_contentBy_3 : decode cX8_contentBy 3 = .ok (.invokespecial 7, 3) := by decide +kernel
theorem dX8_contentBy_6 : decode cX8_contentBy 6 = .ok (.istore_n 3, 1) := by decide +kernel
theorem dX8_contentBy_7 : decode cX8_contentBy 7 = .ok (.iload_n 2, 1) := by decide +kernel
theorem dX8_contentBy_8 : decode cX8_contentBy 8 = .ok (.iconst 2, 1) := by decide +kernel
theorem dX8_contentBy_9 : decode cX8_contentBy 9 = .ok (.irem, 1) := by decide +kernel
theorem dX8_contentBy_10 : decode cX8_contentBy 10 = .ok (.ifCond .ne 9, 3) := by decide +kernel
theorem dX8_contentBy_13 : decode cX8_contentBy 13 = .ok (.iload_n 3, 1) := by decide +kernel
theorem dX8_contentBy_14 : decode cX8_contentBy 14 = .ok (.iconst 2, 1) := by decide +kernel
theorem dX8_contentBy_15 : decode cX8_contentBy 15 = .ok (.isub, 1) := by decide +kernel
theorem dX8_contentBy_16 : decode cX8_contentBy 16 = .ok (.goto 4, 3) := by decide +kernel
theorem dX8_contentBy_19 : decode cX8_contentBy 19 = .ok (.iload_n 3, 1) := by decide +kernel
theorem dX8_contentBy_20 : decode cX8_contentBy 20 = .ok (.ireturn, 1) := by decide +kernel
def x_X8_contentBy (kd : Nat) (p1 : Int32) (p2 : Int32) : Option Int32 := Option.bind (x_X4_contentBy kd p1 p2) (fun v1 => (if (p2 - p2 / 2 * 2) = 0 then some (v1 - 2) else some v1))
set_option maxRecDepth 100000 in
set_option maxHeartbeats 4000000 in
theorem c_X8_contentBy {l : Launch} {Y : gY} {M : gMem} {kd : Nat} {p1 : Int32} {p2 : Int32} {r : Int32} (hkd : kd < 6) (hx : x_X8_contentBy kd p1 p2 = some r) : Met l yX8_contentBy (gws yX8_contentBy cX8_contentBy 4 (some .int)) { frames := 1, cells := 0, slots := 0, locals := 22 } (va_Pc [.ref (gad Y 0 (52 + kd)), .int p1, .int p2] (gS0 Y M)) (gQi Y (r, M)) 0 0 (gA Y) := by
  refine gmet (lv := [(0, .ref (gad Y 0 (52 + kd))), (1, .int p1), (2, .int p2)]) "GuestStaff$Shouter" (by decide) rfl (Nat.le_of_ble_eq_true rfl) rfl (fun X hC hF => ?_)
  unfold x_X8_contentBy at hx
  obtain ⟨ci, C, T, N, hek, hek2⟩ := gkind Y M hkd
  refine q_aload_n hC 0 dX8_contentBy_0 rfl rfl ?_
  refine q_iload_n hC 1 dX8_contentBy_1 rfl rfl ?_
  refine q_iload_n hC 2 dX8_contentBy_2 rfl rfl ?_
  obtain ⟨v1, q2, hx⟩ := gb_e hx
  refine q_kip (q_rU (As := [.int p1, .int p2]) (rest := []) hC mt_X4_contentBy mi_X4_contentBy wM_X8_7 wA_X4_contentBy wU_X8 (by decide) (c_X4_contentBy hkd q2) ⟨rfl, rfl, Nat.le_of_ble_eq_true rfl, Nat.le_of_ble_eq_true rfl⟩ (gV_t (by omega) (by omega)) hek hek2 rfl rfl (Nat.le_of_ble_eq_true rfl) dX8_contentBy_3) ?_
  refine q_istore_n hC [(3, .int v1), (0, .ref (gad Y 0 (52 + kd))), (1, .int p1), (2, .int p2)] dX8_contentBy_6 rfl (by decide) rfl ?_
  refine q_iload_n hC 3 dX8_contentBy_7 rfl rfl ?_
  refine q_iconst hC 2 dX8_contentBy_8 rfl ?_
  refine q_irem hC dX8_contentBy_9 (by decide) ?_
  refine q_if_ne hC 19 dX8_contentBy_10 rfl (fun h3 => ?_) (fun h3 => ?_)
  · have hx := gi_n h3 hx
    refine q_iload_n hC 0 dX8_contentBy_19 rfl rfl ?_
    exact q_iret hC hF dX8_contentBy_20 (congrArg (fun z => (z, M)) (Option.some.inj hx))
  · have hx := gi_p h3 hx
    refine q_iload_n hC 0 dX8_contentBy_13 rfl rfl ?_
    refine q_iconst hC 2 dX8_contentBy_14 rfl ?_
    refine q_isub hC dX8_contentBy_15 ?_
    refine q_goto hC 20 dX8_contentBy_16 rfl ?_
    exact q_iret hC hF dX8_contentBy_20 (congrArg (fun z => (z, M)) (Option.some.inj hx))
