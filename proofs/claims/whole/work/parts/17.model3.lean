theorem dX11_all_0 : decode cX11_all 0 = .ok (.aload_n 0, 1) := by decide +kernel
theorem dX11_all_1 : decode cX11_all 1 = .ok (.iload_n 1, 1) := by decide +kernel
theorem dX11_all_2 : decode cX11_all 2 = .ok (.invokevirtual 214, 3) := by decide +kernel
theorem dX11_all_5 : decode cX11_all 5 = .ok (.ifCond .ne 8, 3) := by decide +kernel
theorem dX11_all_8 : decode cX11_all 8 = .ok (.aload_n 0, 1) := by decide +kernel
theorem dX11_all_9 : decode cX11_all 9 = .ok (.invokevirtual 89, 3) := by decide +kernel
theorem dX11_all_12 : decode cX11_all 12 = .ok (.ireturn, 1) := by decide +kernel
theorem dX11_all_13 : decode cX11_all 13 = .ok (.aload_n 0, 1) := by decide +kernel
theorem dX11_all_14 : decode cX11_all 14 = .ok (.invokevirtual 217, 3) := by decide +kernel
theorem dX11_all_17 : decode cX11_all 17 = .ok (.iload_n 1, 1) := by decide +kernel
theorem dX11_all_18 : decode cX11_all 18 = .ok (.ifCond .ge 10, 3) := by decide +kernel
theorem dX11_all_21 : decode cX11_all 21 = .ok (.aload_n 0, 1) := by decide +kernel
theorem dX11_all_22 : decode cX11_all 22 = .ok (.getfield 196, 3) := by decide +kernel
theorem dX11_all_25 : decode cX11_all 25 = .ok (.goto 20, 3) := by decide +kernel
theorem dX11_all_28 : decode cX11_all 28 = .ok (.aload_n 0, 1) := by decide +kernel
theorem dX11_all_29 : decode cX11_all 29 = .ok (.getfield 196, 3) := by decide +kernel
theorem dX11_all_32 : decode cX11_all 32 = .ok (.ifCond .ne 7, 3) := by decide +kernel
theorem dX11_all_35 : decode cX11_all 35 = .ok (.iconst (-1), 1) := by decide +kernel
theorem dX11_all_36 : decode cX11_all 36 = .ok (.goto 9, 3) := by decide +kernel
theorem dX11_all_39 : decode cX11_all 39 = .ok (.aload_n 0, 1) := by decide +kernel
theorem dX11_all_40 : decode cX11_all 40 = .ok (.getfield 35, 3) := by decide +kernel
theorem dX11_all_43 : decode cX11_all 43 = .ok (.iload_n 1, 1) := by decide +kernel
theorem dX11_all_44 : decode cX11_all 44 = .ok (.iaload, 1) := by decide +kernel
theorem dX11_all_45 : decode cX11_all 45 = .ok (.ireturn, 1) := by decide +kernel
def x_X11_all (M : gMem) (p1 : Int32) : Option (Int32 × gMem) := Option.bind (x_X11_isOne M p1) (fun v1 => (if v1 = 0 then Option.bind (x_X11_badFar M) (fun v10 => some (v10.1, v10.2)) else Option.bind (x_X11_findRows M) (fun v5 => (if 0 ≤ p1 then (if (v5.1 0 59 19) = 0 then some ((-1), v5) else gd (gin p1 7) (some (v5.1 0 67 (p1).toNatClampNeg, v5))) else some (v5.1 0 59 19, v5)))))
set_option maxRecDepth 100000 in
set_option maxHeartbeats 4000000 in
theorem c_X11_all {l : Launch} {Y : gY} {M : gMem} {p1 : Int32} {r : (Int32 × gMem)} (hx : x_X11_all M p1 = some r) : Met l yX11_all (gws yX11_all cX11_all 2 (some .int)) { frames := 4, cells := 0, slots := 0, locals := 97 } (va_Pc [.ref (gad Y 0 59), .int p1] (gS0 Y M)) (gQi Y r) 0 0 (gA Y) := by
  refine gmet (lv := [(0, .ref (gad Y 0 59)), (1, .int p1)]) "GuestStaffModel" (by decide) rfl (Nat.le_of_ble_eq_true rfl) rfl (fun X hC hF => ?_)
  unfold x_X11_all at hx
  refine q_aload_n hC 0 dX11_all_0 rfl rfl ?_
  refine q_iload_n hC 1 dX11_all_1 rfl rfl ?_
  obtain ⟨v1, q2, hx⟩ := gb_e hx
  refine q_kzp (q_rV (As := [.int p1]) (rest := []) hC mm_X11_isOne wM_X11_214 (c_X11_isOne q2) ⟨rfl, rfl, Nat.le_of_ble_eq_true rfl, Nat.le_of_ble_eq_true rfl⟩ (gV_t (by decide) (by decide)) rfl rfl rfl rfl (Nat.le_of_ble_eq_true rfl) dX11_all_2) (fun z3 => ?_)
  refine q_if_ne hC 13 dX11_all_5 rfl (fun h4 => ?_) (fun h4 => ?_)
  · have hx := gi_n h4 hx
    refine q_aload_n hC 0 dX11_all_13 rfl rfl ?_
    obtain ⟨v5, q6, hx⟩ := gb_e hx
    refine q_kv (q_rV (As := []) (rest := []) hC mm_X11_findRows wM_X11_217 (c_X11_findRows q6) ⟨rfl, rfl, Nat.le_of_ble_eq_true rfl, Nat.le_of_ble_eq_true rfl⟩ (gV_t (by decide) (by decide)) rfl rfl rfl rfl (Nat.le_of_ble_eq_true rfl) dX11_all_14) ?_
    refine q_iload_n hC 1 dX11_all_17 rfl rfl ?_
    refine q_if_ge hC 28 dX11_all_18 rfl (fun h7 => ?_) (fun h7 => ?_)
    · have hx := gi_p h7 hx
      refine q_aload_n hC 0 dX11_all_28 rfl rfl ?_
      refine gf_X11_196 hC dX11_all_29 ?_
      refine q_if_ne hC 39 dX11_all_32 rfl (fun h8 => ?_) (fun h8 => ?_)
      · have hx := gi_n h8 hx
        refine q_aload_n hC 0 dX11_all_39 rfl rfl ?_
        refine gf_X11_35 hC dX11_all_40 ?_
        refine q_iload_n hC 1 dX11_all_43 rfl rfl ?_
        have g9 := (gd_e hx).1
        have hx := (gd_e hx).2
        refine q_iald hC 6 (gV_t (by decide) (by decide)) rfl g9 dX11_all_44 ?_
        exact q_iret hC hF dX11_all_45 (Option.some.inj hx)
      · have hx := gi_p h8 hx
        refine q_iconst hC (-1) dX11_all_35 rfl ?_
        refine q_goto hC 45 dX11_all_36 rfl ?_
        exact q_iret hC hF dX11_all_45 (Option.some.inj hx)
    · have hx := gi_n h7 hx
      refine q_aload_n hC 0 dX11_all_21 rfl rfl ?_
      refine gf_X11_196 hC dX11_all_22 ?_
      refine q_goto hC 45 dX11_all_25 rfl ?_
      exact q_iret hC hF dX11_all_45 (Option.some.inj hx)
  · have hx := gi_p h4 hx
    refine q_aload_n hC 0 dX11_all_8 rfl rfl ?_
    obtain ⟨v10, q11, hx⟩ := gb_e hx
    refine q_ki (q_rV (As := []) (rest := []) hC mm_X11_badFar wM_X11_89 (c_X11_badFar q11) ⟨rfl, rfl, Nat.le_of_ble_eq_true rfl, Nat.le_of_ble_eq_true rfl⟩ (gV_t (by decide) (by decide)) rfl rfl rfl rfl (Nat.le_of_ble_eq_true rfl) dX11_all_9) ?_
    exact q_iret hC hF dX11_all_12 (Option.some.inj hx)

theorem dX11_least_0 : decode cX11_least 0 = .ok (.aload_n 0, 1) := by decide +kernel
theorem dX11_least_1 : decode cX11_least 1 = .ok (.invokevirtual 217, 3) := by decide +kernel
theorem dX11_least_4 : decode cX11_least 4 = .ok (.aload_n 0, 1) := by decide +kernel
theorem dX11_least_5 : decode cX11_least 5 = .ok (.getfield 199, 3) := by decide +kernel
theorem dX11_least_8 : decode cX11_least 8 = .ok (.ireturn, 1) := by decide +kernel
def x_X11_least (M : gMem) : Option (Int32 × gMem) := Option.bind (x_X11_findRows M) (fun v1 => some (v1.1 0 59 20, v1))
set_option maxRecDepth 100000 in
set_option maxHeartbeats 4000000 in
theorem c_X11_least {l : Launch} {Y : gY} {M : gMem} {r : (Int32 × gMem)} (hx : x_X11_least M = some r) : Met l yX11_least (gws yX11_least cX11_least 1 (some .int)) { frames := 4, cells := 0, slots := 0, locals := 97 } (va_Pc [.ref (gad Y 0 59)] (gS0 Y M)) (gQi Y r) 0 0 (gA Y) := by
  refine gmet (lv := [(0, .ref (gad Y 0 59))]) "GuestStaffModel" (by decide) rfl (Nat.le_of_ble_eq_true rfl) rfl (fun X hC hF => ?_)
  unfold x_X11_least at hx
  refine q_aload_n hC 0 dX11_least_0 rfl rfl ?_
  obtain ⟨v1, q2, hx⟩ := gb_e hx
  refine q_kv (q_rV (As := []) (rest := []) hC mm_X11_findRows wM_X11_217 (c_X11_findRows q2) ⟨rfl, rfl, Nat.le_of_ble_eq_true rfl, Nat.le_of_ble_eq_true rfl⟩ (gV_t (by decide) (by decide)) rfl rfl rfl rfl (Nat.le_of_ble_eq_true rfl) dX11_least_1) ?_
  refine q_aload_n hC 0 dX11_least_4 rfl rfl ?_
  refine gf_X11_199 hC dX11_least_5 ?_
  exact q_iret hC hF dX11_least_8 (Option.some.inj hx)

theorem dX11_most_0 : decode cX11_most 0 = .ok (.aload_n 0, 1) := by decide +kernel
theorem dX11_most_1 : decode cX11_most 1 = .ok (.iload_n 1, 1) := by decide +kernel
theorem dX11_most_2 : decode cX11_most 2 = .ok (.invokevirtual 214, 3) := by decide +kernel
theorem dX11_most_5 : decode cX11_most 5 = .ok (.ifCond .ne 8, 3) := by decide +kernel
theorem dX11_most_8 : decode cX11_most 8 = .ok (.aload_n 0, 1) := by decide +kernel
theorem dX11_most_9 : decode cX11_most 9 = .ok (.invokevirtual 89, 3) := by decide +kernel
theorem dX11_most_12 : decode cX11_most 12 = .ok (.ireturn, 1) := by decide +kernel
theorem dX11_most_13 : decode cX11_most 13 = .ok (.aload_n 0, 1) := by decide +kernel
theorem dX11_most_14 : decode cX11_most 14 = .ok (.invokevirtual 217, 3) := by decide +kernel
theorem dX11_most_17 : decode cX11_most 17 = .ok (.aload_n 0, 1) := by decide +kernel
theorem dX11_most_18 : decode cX11_most 18 = .ok (.getfield 196, 3) := by decide +kernel
theorem dX11_most_21 : decode cX11_most 21 = .ok (.ifCond .eq 7, 3) := by decide +kernel
theorem dX11_most_24 : decode cX11_most 24 = .ok (.iload_n 1, 1) := by decide +kernel
theorem dX11_most_25 : decode cX11_most 25 = .ok (.ifCond .ge 10, 3) := by decide +kernel
theorem dX11_most_28 : decode cX11_most 28 = .ok (.aload_n 0, 1) := by decide +kernel
theorem dX11_most_29 : decode cX11_most 29 = .ok (.getfield 202, 3) := by decide +kernel
theorem dX11_most_32 : decode cX11_most 32 = .ok (.goto 9, 3) := by decide +kernel
theorem dX11_most_35 : decode cX11_most 35 = .ok (.aload_n 0, 1) := by decide +kernel
theorem dX11_most_36 : decode cX11_most 36 = .ok (.getfield 38, 3) := by decide +kernel
theorem dX11_most_39 : decode cX11_most 39 = .ok (.iload_n 1, 1) := by decide +kernel
theorem dX11_most_40 : decode cX11_most 40 = .ok (.iaload, 1) := by decide +kernel
theorem dX11_most_41 : decode cX11_most 41 = .ok (.ireturn, 1) := by decide +kernel
def x_X11_most (M : gMem) (p1 : Int32) : Option (Int32 × gMem) := Option.bind (x_X11_isOne M p1) (fun v1 => (if v1 = 0 then Option.bind (x_X11_badFar M) (fun v10 => some (v10.1, v10.2)) else Option.bind (x_X11_findRows M) (fun v5 => (if (v5.1 0 59 19) = 0 then some (v5.1 0 59 21, v5) else (if 0 ≤ p1 then gd (gin p1 7) (some (v5.1 0 68 (p1).toNatClampNeg, v5)) else some (v5.1 0 59 21, v5))))))
set_option maxRecDepth 100000 in
set_option maxHeartbeats 4000000 in
theorem c_X11_most {l : Launch} {Y : gY} {M : gMem} {p1 : Int32} {r : (Int32 × gMem)} (hx : x_X11_most M p1 = some r) : Met l yX11_most (gws yX11_most cX11_most 2 (some .int)) { frames := 4, cells := 0, slots := 0, locals := 97 } (va_Pc [.ref (gad Y 0 59), .int p1] (gS0 Y M)) (gQi Y r) 0 0 (gA Y) := by
  refine gmet (lv := [(0, .ref (gad Y 0 59)), (1, .int p1)]) "GuestStaffModel" (by decide) rfl (Nat.le_of_ble_eq_true rfl) rfl (fun X hC hF => ?_)
  unfold x_X11_most at hx
  refine q_aload_n hC 0 dX11_most_0 rfl rfl ?_
  refine q_iload_n hC 1 dX11_most_1 rfl rfl ?_
  obtain ⟨v1, q2, hx⟩ := gb_e hx
  refine q_kzp (q_rV (As := [.int p1]) (rest := []) hC mm_X11_isOne wM_X11_214 (c_X11_isOne q2) ⟨rfl, rfl, Nat.le_of_ble_eq_true rfl, Nat.le_of_ble_eq_true rfl⟩ (gV_t (by decide) (by decide)) rfl rfl rfl rfl (Nat.le_of_ble_eq_true rfl) dX11_most_2) (fun z3 => ?_)
  refine q_if_ne hC 13 dX11_most_5 rfl (fun h4 => ?_) (fun h4 => ?_)
  · have hx := gi_n h4 hx
    refine q_aload_n hC 0 dX11_most_13 rfl rfl ?_
    obtain ⟨v5, q6, hx⟩ := gb_e hx
    refine q_kv (q_rV (As := []) (rest := []) hC mm_X11_findRows wM_X11_217 (c_X11_findRows q6) ⟨rfl, rfl, Nat.le_of_ble_eq_true rfl, Nat.le_of_ble_eq_true rfl⟩ (gV_t (by decide) (by decide)) rfl rfl rfl rfl (Nat.le_of_ble_eq_true rfl) dX11_most_14) ?_
    refine q_aload_n hC 0 dX11_most_17 rfl rfl ?_
    refine gf_X11_196 hC dX11_most_18 ?_
    refine q_if_eq hC 28 dX11_most_21 rfl (fun h7 => ?_) (fun h7 => ?_)
    · have hx := gi_p h7 hx
      refine q_aload_n hC 0 dX11_most_28 rfl rfl ?_
      refine gf_X11_202 hC dX11_most_29 ?_
      refine q_goto hC 41 dX11_most_32 rfl ?_
      exact q_iret hC hF dX11_most_41 (Option.some.inj hx)
    · have hx := gi_n h7 hx
      refine q_iload_n hC 1 dX11_most_24 rfl rfl ?_
      refine q_if_ge hC 35 dX11_most_25 rfl (fun h8 => ?_) (fun h8 => ?_)
      · have hx := gi_p h8 hx
        refine q_aload_n hC 0 dX11_most_35 rfl rfl ?_
        refine gf_X11_38 hC dX11_most_36 ?_
        refine q_iload_n hC 1 dX11_most_39 rfl rfl ?_
        have g9 := (gd_e hx).1
        have hx := (gd_e hx).2
        refine q_iald hC 6 (gV_t (by decide) (by decide)) rfl g9 dX11_most_40 ?_
        exact q_iret hC hF dX11_most_41 (Option.some.inj hx)
      · have hx := gi_n h8 hx
        refine q_aload_n hC 0 dX11_most_28 rfl rfl ?_
        refine gf_X11_202 hC dX11_most_29 ?_
        refine q_goto hC 41 dX11_most_32 rfl ?_
        exact q_iret hC hF dX11_most_41 (Option.some.inj hx)
  · have hx := gi_p h4 hx
    refine q_aload_n hC 0 dX11_most_8 rfl rfl ?_
    obtain ⟨v10, q11, hx⟩ := gb_e hx
    refine q_ki (q_rV (As := []) (rest := []) hC mm_X11_badFar wM_X11_89 (c_X11_badFar q11) ⟨rfl, rfl, Nat.le_of_ble_eq_true rfl, Nat.le_of_ble_eq_true rfl⟩ (gV_t (by decide) (by decide)) rfl rfl rfl rfl (Nat.le_of_ble_eq_true rfl) dX11_most_9) ?_
    exact q_iret hC hF dX11_most_12 (Option.some.inj hx)

theorem dX11_lone_0 : decode cX11_lone 0 = .ok (.iconst 0, 1) := by decide +kernel
theorem dX11_lone_1 : decode cX11_lone 1 = .ok (.istore_n 1, 1) := by decide +kernel
theorem dX11_lone_2 : decode cX11_lone 2 = .ok (.iconst 0, 1) := by decide +kernel
theorem dX11_lone_3 : decode cX11_lone 3 = .ok (.istore_n 2, 1) := by decide +kernel
theorem dX11_lone_4 : decode cX11_lone 4 = .ok (.iload_n 2, 1) := by decide +kernel
theorem dX11_lone_5 : decode cX11_lone 5 = .ok (.aload_n 0, 1) := by decide +kernel
theorem dX11_lone_6 : decode cX11_lone 6 = .ok (.getfield 7, 3) := by decide +kernel
theorem dX11_lone_9 : decode cX11_lone 9 = .ok (.bipush 16, 2) := by decide +kernel
theorem dX11_lone_11 : decode cX11_lone 11 = .ok (.iaload, 1) := by decide +kernel
theorem dX11_lone_12 : decode cX11_lone 12 = .ok (.if_icmp .ge 66, 3) := by decide +kernel
theorem dX11_lone_15 : decode cX11_lone 15 = .ok (.iconst 0, 1) := by decide +kernel
theorem dX11_lone_16 : decode cX11_lone 16 = .ok (.istore_n 3, 1) := by decide +kernel
theorem dX11_lone_17 : decode cX11_lone 17 = .ok (.iconst 0, 1) := by decide +kernel
theorem dX11_lone_18 : decode cX11_lone 18 = .ok (.istore 4, 2) := by decide +kernel
theorem dX11_lone_20 : decode cX11_lone 20 = .ok (.iload 4, 2) := by decide +kernel
theorem dX11_lone_22 : decode cX11_lone 22 = .ok (.aload_n 0, 1) := by decide +kernel
theorem dX11_lone_23 : decode cX11_lone 23 = .ok (.getfield 7, 3) := by decide +kernel
theorem dX11_lone_26 : decode cX11_lone 26 = .ok (.bipush 16, 2) := by decide +kernel
theorem dX11_lone_28 : decode cX11_lone 28 = .ok (.iaload, 1) := by decide +kernel
theorem dX11_lone_29 : decode cX11_lone 29 = .ok (.if_icmp .ge 29, 3) := by decide +kernel
theorem dX11_lone_32 : decode cX11_lone 32 = .ok (.iload_n 3, 1) := by decide +kernel
theorem dX11_lone_33 : decode cX11_lone 33 = .ok (.ifCond .ne 13, 3) := by decide +kernel
theorem dX11_lone_36 : decode cX11_lone 36 = .ok (.aload_n 0, 1) := by decide +kernel
theorem dX11_lone_37 : decode cX11_lone 37 = .ok (.iload 4, 2) := by decide +kernel
theorem dX11_lone_39 : decode cX11_lone 39 = .ok (.iload_n 2, 1) := by decide +kernel
theorem dX11_lone_40 : decode cX11_lone 40 = .ok (.invokevirtual 156, 3) := by decide +kernel
theorem dX11_lone_43 : decode cX11_lone 43 = .ok (.ifCond .eq 7, 3) := by decide +kernel
theorem dX11_lone_46 : decode cX11_lone 46 = .ok (.iconst 1, 1) := by decide +kernel
theorem dX11_lone_47 : decode cX11_lone 47 = .ok (.goto 4, 3) := by decide +kernel
theorem dX11_lone_50 : decode cX11_lone 50 = .ok (.iconst 0, 1) := by decide +kernel
theorem dX11_lone_51 : decode cX11_lone 51 = .ok (.istore_n 3, 1) := by decide +kernel
theorem dX11_lone_52 : decode cX11_lone 52 = .ok (.iinc 4 1, 3) := by decide +kernel
theorem dX11_lone_55 : decode cX11_lone 55 = .ok (.goto (-35), 3) := by decide +kernel
theorem dX11_lone_58 : decode cX11_lone 58 = .ok (.iload_n 1, 1) := by decide +kernel
theorem dX11_lone_59 : decode cX11_lone 59 = .ok (.iload_n 3, 1) := by decide +kernel
theorem dX11_lone_60 : decode cX11_lone 60 = .ok (.ifCond .eq 7, 3) := by decide +kernel
theorem dX11_lone_63 : decode cX11_lone 63 = .ok (.iconst 0, 1) := by decide +kernel
theorem dX11_lone_64 : decode cX11_lone 64 = .ok (.goto 6, 3) := by decide +kernel
theorem dX11_lone_67 : decode cX11_lone 67 = .ok (.iconst 1, 1) := by decide +kernel
theorem dX11_lone_68 : decode cX11_lone 68 = .ok (.iload_n 2, 1) := by decide +kernel
theorem dX11_lone_69 : decode cX11_lone 69 = .ok (.ishl, 1) := by decide +kernel
theorem dX11_lone_70 : decode cX11_lone 70 = .ok (.ior, 1) := by decide +kernel
theorem dX11_lone_71 : decode cX11_lone 71 = .ok (.istore_n 1, 1) := by decide +kernel
theorem dX11_lone_72 : decode cX11_lone 72 = .ok (.iinc 2 1, 3) := by decide +kernel
theorem dX11_lone_75 : decode cX11_lone 75 = .ok (.goto (-71), 3) := by decide +kernel
theorem dX11_lone_78 : decode cX11_lone 78 = .ok (.iload_n 1, 1) := by decide +kernel
theorem dX11_lone_79 : decode cX11_lone 79 = .ok (.ireturn, 1) := by decide +kernel
def j_X11_lone_20_51 (M : gMem) (a1 : Int32) (a2 : Int32) (b4 : Int32) (t0 : Int32) : Option ((Int32 × Int32) ⊕ (Int32 × Int32)) := some (.inl (t0, b4 + 1))
def j_X11_lone_20_46 (M : gMem) (a1 : Int32) (a2 : Int32) (b4 : Int32) : Option ((Int32 × Int32) ⊕ (Int32 × Int32)) := j_X11_lone_20_51 M a1 a2 b4 1
def s_X11_lone_20 (M : gMem) (a1 : Int32) (a2 : Int32) (b3 : Int32) (b4 : Int32) : Option ((Int32 × Int32) ⊕ (Int32 × Int32)) := (if (M.1 0 60 16) ≤ b4 then some (.inr (b3, b4)) else (if b3 = 0 then Option.bind (x_X11_canServe M b4 a2) (fun v4 => (if v4 = 0 then j_X11_lone_20_51 M a1 a2 b4 0 else j_X11_lone_20_46 M a1 a2 b4)) else j_X11_lone_20_46 M a1 a2 b4))
def j_X11_lone_4_70 (M : gMem) (b2 : Int32) (t0 : Int32) (t1 : Int32) : Option ((Int32 × Int32) ⊕ (Int32 × Int32)) := some (.inl (t1 ||| t0, b2 + 1))
def s_X11_lone_4 (M : gMem) (b1 : Int32) (b2 : Int32) : Option ((Int32 × Int32) ⊕ (Int32 × Int32)) := (if (M.1 0 60 16) ≤ b2 then some (.inr (b1, b2)) else Option.bind (itr FU (fun s => s_X11_lone_20 M b1 b2 s.1 s.2) (0, 0)) (fun e8 => (if e8.1 = 0 then j_X11_lone_4_70 M b2 (1 <<< (b2 &&& 31)) b1 else j_X11_lone_4_70 M b2 0 b1)))
def x_X11_lone (M : gMem) : Option Int32 := Option.bind (itr FU (fun s => s_X11_lone_4 M s.1 s.2) (0, 0)) (fun e10 => some e10.1)
set_option maxRecDepth 100000 in
set_option maxHeartbeats 4000000 in
theorem w_X11_lone_20 {X : gX} {Y : gY} {M : gMem} {a1 : Int32} {a2 : Int32} {r : Int32} (hC : gC X Y cX11_lone "GuestStaffModel" 5 2 43) (hF : gF X Y (some .int) (gQi Y (r, M))) {e : (Int32 × Int32)} (kE : ∀ s : (Int32 × Int32), e = s → gWW X Y 5 58 [(0, .ref (gad Y 0 59)), (1, .int a1), (2, .int a2), (3, .int s.1)] [] M) : ∀ (F : Nat) (s : (Int32 × Int32)), itr F (fun s => s_X11_lone_20 M a1 a2 s.1 s.2) s = some e → gWW X Y 5 20 [(0, .ref (gad Y 0 59)), (1, .int a1), (2, .int a2), (3, .int s.1), (4, .int s.2)] [] M := by
  intro F s
  refine itr_w (P := fun s => gWW X Y 5 20 [(0, .ref (gad Y 0 59)), (1, .int a1), (2, .int a2), (3, .int s.1), (4, .int s.2)] [] M) (fun s o hx kI kx => ?_) F s
  obtain ⟨b3, b4⟩ := s
  have hx : s_X11_lone_20 M a1 a2 b3 b4 = some o := hx
  have kE : ∀ s : (Int32 × Int32), o = .inr s → gWW X Y 5 58 [(0, .ref (gad Y 0 59)), (1, .int a1), (2, .int a2), (3, .int s.1)] [] M := fun s q => kE s (kx _ q).symm
  have J51 : ∀ (b4 : Int32) (t0 : Int32) , j_X11_lone_20_51 M a1 a2 b4 t0 = some o → gWW X Y 5 51 [(0, .ref (gad Y 0 59)), (1, .int a1), (2, .int a2), (4, .int b4)] [.int t0] M := by
    intro b4 t0 hx
    unfold j_X11_lone_20_51 at hx
    refine q_istore_n hC [(3, .int t0), (0, .ref (gad Y 0 59)), (1, .int a1), (2, .int a2), (4, .int b4)] dX11_lone_51 rfl (by decide) rfl ?_
    refine q_iinc hC 4 1 [(4, .int (b4 + 1)), (3, .int t0), (0, .ref (gad Y 0 59)), (1, .int a1), (2, .int a2)] dX11_lone_52 rfl rfl (by decide) rfl ?_
    refine q_goto hC 20 dX11_lone_55 rfl ?_
    exact q_sub [2, 3, 4, 1, 0] rfl (kI (t0, b4 + 1) (Option.some.inj hx).symm)
  have J46 : ∀ (b4 : Int32) , j_X11_lone_20_46 M a1 a2 b4 = some o → gWW X Y 5 46 [(0, .ref (gad Y 0 59)), (1, .int a1), (2, .int a2), (4, .int b4)] [] M := by
    intro b4 hx
    unfold j_X11_lone_20_46 at hx
    refine q_iconst hC 1 dX11_lone_46 rfl ?_
    refine q_goto hC 51 dX11_lone_47 rfl ?_
    exact q_sub [0, 1, 2, 3] rfl (J51 b4 1 hx)
  unfold s_X11_lone_20 at hx
  refine q_iload hC 4 dX11_lone_20 rfl ?_
  refine q_aload_n hC 0 dX11_lone_22 rfl rfl ?_
  refine gf_X11_7 hC dX11_lone_23 ?_
  refine q_bipush hC 16 dX11_lone_26 rfl ?_
  refine q_ialdk hC 16 69 (gV_t (by decide) (by decide)) rfl (by decide) rfl dX11_lone_28 ?_
  refine q_ic_ge hC 58 dX11_lone_29 rfl (fun h2 => ?_) (fun h2 => ?_)
  · have hx := gi_p h2 hx
    exact q_sub [0, 1, 2, 3] rfl (kE (b3, b4) (Option.some.inj hx).symm)
  · have hx := gi_n h2 hx
    refine q_iload_n hC 3 dX11_lone_32 rfl rfl ?_
    refine q_if_ne hC 46 dX11_lone_33 rfl (fun h3 => ?_) (fun h3 => ?_)
    · have hx := gi_n h3 hx
      exact q_sub [0, 1, 2, 4] rfl (J46 b4 hx)
    · have hx := gi_p h3 hx
      refine q_aload_n hC 0 dX11_lone_36 rfl rfl ?_
      refine q_iload hC 4 dX11_lone_37 rfl ?_
      refine q_iload_n hC 2 dX11_lone_39 rfl rfl ?_
      obtain ⟨v4, q5, hx⟩ := gb_e hx
      refine q_kzp (q_rV (As := [.int b4, .int a2]) (rest := []) hC mm_X11_canServe wM_X11_156 (c_X11_canServe q5) ⟨rfl, rfl, Nat.le_of_ble_eq_true rfl, Nat.le_of_ble_eq_true rfl⟩ (gV_t (by decide) (by decide)) rfl rfl rfl rfl (Nat.le_of_ble_eq_true rfl) dX11_lone_40) (fun z6 => ?_)
      refine q_if_eq hC 50 dX11_lone_43 rfl (fun h7 => ?_) (fun h7 => ?_)
      · have hx := gi_p h7 hx
        refine q_iconst hC 0 dX11_lone_50 rfl ?_
        exact q_sub [0, 1, 2, 4] rfl (J51 b4 0 hx)
      · have hx := gi_n h7 hx
        exact q_sub [0, 1, 2, 4] rfl (J46 b4 hx)
set_option maxRecDepth 100000 in
set_option maxHeartbeats 4000000 in
theorem w_X11_lone_4 {X : gX} {Y : gY} {M : gMem} {r : Int32} (hC : gC X Y cX11_lone "GuestStaffModel" 5 2 43) (hF : gF X Y (some .int) (gQi Y (r, M))) {e : (Int32 × Int32)} (kE : ∀ s : (Int32 × Int32), e = s → gWW X Y 5 78 [(1, .int s.1)] [] M) : ∀ (F : Nat) (s : (Int32 × Int32)), itr F (fun s => s_X11_lone_4 M s.1 s.2) s = some e → gWW X Y 5 4 [(0, .ref (gad Y 0 59)), (1, .int s.1), (2, .int s.2)] [] M := by
  intro F s
  refine itr_w (P := fun s => gWW X Y 5 4 [(0, .ref (gad Y 0 59)), (1, .int s.1), (2, .int s.2)] [] M) (fun s o hx kI kx => ?_) F s
  obtain ⟨b1, b2⟩ := s
  have hx : s_X11_lone_4 M b1 b2 = some o := hx
  have kE : ∀ s : (Int32 × Int32), o = .inr s → gWW X Y 5 78 [(1, .int s.1)] [] M := fun s q => kE s (kx _ q).symm
  have J70 : ∀ (b2 : Int32) (t0 : Int32) (t1 : Int32) , j_X11_lone_4_70 M b2 t0 t1 = some o → gWW X Y 5 70 [(0, .ref (gad Y 0 59)), (2, .int b2)] [.int t0, .int t1] M := by
    intro b2 t0 t1 hx
    unfold j_X11_lone_4_70 at hx
    refine q_ior hC dX11_lone_70 ?_
    refine q_istore_n hC [(1, .int (t1 ||| t0)), (0, .ref (gad Y 0 59)), (2, .int b2)] dX11_lone_71 rfl (by decide) rfl ?_
    refine q_iinc hC 2 1 [(2, .int (b2 + 1)), (1, .int (t1 ||| t0)), (0, .ref (gad Y 0 59))] dX11_lone_72 rfl rfl (by decide) rfl ?_
    refine q_goto hC 4 dX11_lone_75 rfl ?_
    exact q_sub [2, 1, 0] rfl (kI (t1 ||| t0, b2 + 1) (Option.some.inj hx).symm)
  unfold s_X11_lone_4 at hx
  refine q_iload_n hC 2 dX11_lone_4 rfl rfl ?_
  refine q_aload_n hC 0 dX11_lone_5 rfl rfl ?_
  refine gf_X11_7 hC dX11_lone_6 ?_
  refine q_bipush hC 16 dX11_lone_9 rfl ?_
  refine q_ialdk hC 16 69 (gV_t (by decide) (by decide)) rfl (by decide) rfl dX11_lone_11 ?_
  refine q_ic_ge hC 78 dX11_lone_12 rfl (fun h1 => ?_) (fun h1 => ?_)
  · have hx := gi_p h1 hx
    exact q_sub [1] rfl (kE (b1, b2) (Option.some.inj hx).symm)
  · have hx := gi_n h1 hx
    refine q_iconst hC 0 dX11_lone_15 rfl ?_
    refine q_istore_n hC [(3, .int 0), (0, .ref (gad Y 0 59)), (1, .int b1), (2, .int b2)] dX11_lone_16 rfl (by decide) rfl ?_
    refine q_iconst hC 0 dX11_lone_17 rfl ?_
    refine q_istore hC [(4, .int 0), (3, .int 0), (0, .ref (gad Y 0 59)), (1, .int b1), (2, .int b2)] dX11_lone_18 (by decide) rfl ?_
    obtain ⟨e8, qe8, hx⟩ := gb_e hx
    refine q_sub [2, 3, 4, 1, 0] rfl (w_X11_lone_20 hC hF (e := e8) (fun s q => ?_) _ _ qe8)
    · subst q
      refine q_iload_n hC 1 dX11_lone_58 rfl rfl ?_
      refine q_iload_n hC 3 dX11_lone_59 rfl rfl ?_
      refine q_if_eq hC 67 dX11_lone_60 rfl (fun h9 => ?_) (fun h9 => ?_)
      · have hx := gi_p h9 hx
        refine q_iconst hC 1 dX11_lone_67 rfl ?_
        refine q_iload_n hC 2 dX11_lone_68 rfl rfl ?_
        refine q_ishl hC dX11_lone_69 ?_
        exact q_sub [0, 2] rfl (J70 b2 (1 <<< (b2 &&& 31)) b1 hx)
      · have hx := gi_n h9 hx
        refine q_iconst hC 0 dX11_lone_63 rfl ?_
        refine q_goto hC 70 dX11_lone_64 rfl ?_
        exact q_sub [0, 2] rfl (J70 b2 0 b1 hx)
set_option maxRecDepth 100000 in
set_option maxHeartbeats 4000000 in
theorem c_X11_lone {l : Launch} {Y : gY} {M : gMem} {r : Int32} (hx : x_X11_lone M = some r) : Met l yX11_lone (gws yX11_lone cX11_lone 5 (some .int)) { frames := 2, cells := 0, slots := 0, locals := 43 } (va_Pc [.ref (gad Y 0 59)] (gS0 Y M)) (gQi Y (r, M)) 0 0 (gA Y) := by
  refine gmet (lv := [(0, .ref (gad Y 0 59))]) "GuestStaffModel" (by decide) rfl (Nat.le_of_ble_eq_true rfl) rfl (fun X hC hF => ?_)
  unfold x_X11_lone at hx
  refine q_iconst hC 0 dX11_lone_0 rfl ?_
  refine q_istore_n hC [(1, .int 0), (0, .ref (gad Y 0 59))] dX11_lone_1 rfl (by decide) rfl ?_
  refine q_iconst hC 0 dX11_lone_2 rfl ?_
  refine q_istore_n hC [(2, .int 0), (1, .int 0), (0, .ref (gad Y 0 59))] dX11_lone_3 rfl (by decide) rfl ?_
  obtain ⟨e10, qe10, hx⟩ := gb_e hx
  refine q_sub [2, 1, 0] rfl (w_X11_lone_4 hC hF (e := e10) (fun s q => ?_) _ _ qe10)
  · subst q
    refine q_iload_n hC 0 dX11_lone_78 rfl rfl ?_
    exact q_iret hC hF dX11_lone_79 (congrArg (fun z => (z, M)) (Option.some.inj hx))

theorem dX11_ringOf_0 : decode cX11_ringOf 0 = .ok (.iload_n 1, 1) := by decide +kernel
theorem dX11_ringOf_1 : decode cX11_ringOf 1 = .ok (.istore_n 2, 1) := by decide +kernel
theorem dX11_ringOf_2 : decode cX11_ringOf 2 = .ok (.iconst 1, 1) := by decide +kernel
theorem dX11_ringOf_3 : decode cX11_ringOf 3 = .ok (.istore_n 3, 1) := by decide +kernel
theorem dX11_ringOf_4 : decode cX11_ringOf 4 = .ok (.iload_n 3, 1) := by decide +kernel
theorem dX11_ringOf_5 : decode cX11_ringOf 5 = .ok (.bipush 7, 2) := by decide +kernel
theorem dX11_ringOf_7 : decode cX11_ringOf 7 = .ok (.if_icmp .gt 33, 3) := by decide +kernel
theorem dX11_ringOf_10 : decode cX11_ringOf 10 = .ok (.iload_n 2, 1) := by decide +kernel
theorem dX11_ringOf_11 : decode cX11_ringOf 11 = .ok (.ifCond .ge 7, 3) := by decide +kernel
theorem dX11_ringOf_14 : decode cX11_ringOf 14 = .ok (.iconst (-1), 1) := by decide +kernel
theorem dX11_ringOf_15 : decode cX11_ringOf 15 = .ok (.goto 11, 3) := by decide +kernel
theorem dX11_ringOf_18 : decode cX11_ringOf 18 = .ok (.aload_n 0, 1) := by decide +kernel
theorem dX11_ringOf_19 : decode cX11_ringOf 19 = .ok (.getfield 7, 3) := by decide +kernel
theorem dX11_ringOf_22 : decode cX11_ringOf 22 = .ok (.iconst 2, 1) := by decide +kernel
theorem dX11_ringOf_23 : decode cX11_ringOf 23 = .ok (.iload_n 2, 1) := by decide +kernel
theorem dX11_ringOf_24 : decode cX11_ringOf 24 = .ok (.iadd, 1) := by decide +kernel
theorem dX11_ringOf_25 : decode cX11_ringOf 25 = .ok (.iaload, 1) := by decide +kernel
theorem dX11_ringOf_26 : decode cX11_ringOf 26 = .ok (.istore_n 2, 1) := by decide +kernel
theorem dX11_ringOf_27 : decode cX11_ringOf 27 = .ok (.iload_n 2, 1) := by decide +kernel
theorem dX11_ringOf_28 : decode cX11_ringOf 28 = .ok (.iload_n 1, 1) := by decide +kernel
theorem dX11_ringOf_29 : decode cX11_ringOf 29 = .ok (.if_icmp .ne 5, 3) := by decide +kernel
theorem dX11_ringOf_32 : decode cX11_ringOf 32 = .ok (.iload_n 3, 1) := by decide +kernel
theorem dX11_ringOf_33 : decode cX11_ringOf 33 = .ok (.ireturn, 1) := by decide +kernel
theorem dX11_ringOf_34 : decode cX11_ringOf 34 = .ok (.iinc 3 1, 3) := by decide +kernel
theorem dX11_ringOf_37 : decode cX11_ringOf 37 = .ok (.goto (-33), 3) := by decide +kernel
theorem dX11_ringOf_40 : decode cX11_ringOf 40 = .ok (.iconst 0, 1) := by decide +kernel
theorem dX11_ringOf_41 : decode cX11_ringOf 41 = .ok (.ireturn, 1) := by decide +kernel
def j_X11_ringOf_4_26 (M : gMem) (a1 : Int32) (b3 : Int32) (t0 : Int32) : Option ((Int32 × Int32) ⊕ ((Int32 × Int32) ⊕ Int32)) := (if t0 = a1 then some (.inr (.inr b3)) else some (.inl (t0, b3 + 1)))
def s_X11_ringOf_4 (M : gMem) (a1 : Int32) (b2 : Int32) (b3 : Int32) : Option ((Int32 × Int32) ⊕ ((Int32 × Int32) ⊕ Int32)) := (if 7 < b3 then some (.inr (.inl (b2, b3))) else (if 0 ≤ b2 then gd (gin (2 + b2) 70) (j_X11_ringOf_4_26 M a1 b3 (M.1 0 60 (2 + b2).toNatClampNeg)) else j_X11_ringOf_4_26 M a1 b3 (-1)))
def x_X11_ringOf (M : gMem) (p1 : Int32) : Option Int32 := Option.bind (itr FU (fun s => s_X11_ringOf_4 M p1 s.1 s.2) (p1, 1)) (fun e5 => Sum.elim (fun s6 => some 0) (fun z7 => some z7) e5)
set_option maxRecDepth 100000 in
set_option maxHeartbeats 4000000 in
theorem w_X11_ringOf_4 {X : gX} {Y : gY} {M : gMem} {a1 : Int32} {r : Int32} (hC : gC X Y cX11_ringOf "GuestStaffModel" 4 0 0) (hF : gF X Y (some .int) (gQi Y (r, M))) {e : ((Int32 × Int32) ⊕ Int32)} (kE : ∀ s : (Int32 × Int32), e = .inl s → gWW X Y 4 40 [] [] M) (kR : ∀ z : Int32, e = .inr z → z = r) : ∀ (F : Nat) (s : (Int32 × Int32)), itr F (fun s => s_X11_ringOf_4 M a1 s.1 s.2) s = some e → gWW X Y 4 4 [(0, .ref (gad Y 0 59)), (1, .int a1), (2, .int s.1), (3, .int s.2)] [] M := by
  intro F s
  refine itr_w (P := fun s => gWW X Y 4 4 [(0, .ref (gad Y 0 59)), (1, .int a1), (2, .int s.1), (3, .int s.2)] [] M) (fun s o hx kI kx => ?_) F s
  obtain ⟨b2, b3⟩ := s
  have hx : s_X11_ringOf_4 M a1 b2 b3 = some o := hx
  have kE : ∀ s : (Int32 × Int32), o = .inr (.inl s) → gWW X Y 4 40 [] [] M := fun s q => kE s (kx _ q).symm
  have kR : ∀ z : Int32, o = .inr (.inr z) → z = r := fun z q => kR z (kx _ q).symm
  have J26 : ∀ (b3 : Int32) (t0 : Int32) , j_X11_ringOf_4_26 M a1 b3 t0 = some o → gWW X Y 4 26 [(0, .ref (gad Y 0 59)), (1, .int a1), (3, .int b3)] [.int t0] M := by
    intro b3 t0 hx
    unfold j_X11_ringOf_4_26 at hx
    refine q_istore_n hC [(2, .int t0), (0, .ref (gad Y 0 59)), (1, .int a1), (3, .int b3)] dX11_ringOf_26 rfl (by decide) rfl ?_
    refine q_iload_n hC 0 dX11_ringOf_27 rfl rfl ?_
    refine q_iload_n hC 2 dX11_ringOf_28 rfl rfl ?_
    refine q_ic_ne hC 34 dX11_ringOf_29 rfl (fun h4 => ?_) (fun h4 => ?_)
    · have hx := gi_n h4 hx
      refine q_iinc hC 3 1 [(3, .int (b3 + 1)), (2, .int t0), (0, .ref (gad Y 0 59)), (1, .int a1)] dX11_ringOf_34 rfl rfl (by decide) rfl ?_
      refine q_goto hC 4 dX11_ringOf_37 rfl ?_
      exact q_sub [2, 3, 1, 0] rfl (kI (t0, b3 + 1) (Option.some.inj hx).symm)
    · have hx := gi_p h4 hx
      refine q_iload_n hC 3 dX11_ringOf_32 rfl rfl ?_
      exact q_iret hC hF dX11_ringOf_33 (congrArg (fun z => (z, M)) (kR _ (Option.some.inj hx).symm))
  unfold s_X11_ringOf_4 at hx
  refine q_iload_n hC 3 dX11_ringOf_4 rfl rfl ?_
  refine q_bipush hC 7 dX11_ringOf_5 rfl ?_
  refine q_ic_gt hC 40 dX11_ringOf_7 rfl (fun h1 => ?_) (fun h1 => ?_)
  · have hx := gi_p h1 hx
    exact q_sub [] rfl (kE (b2, b3) (Option.some.inj hx).symm)
  · have hx := gi_n h1 hx
    refine q_iload_n hC 2 dX11_ringOf_10 rfl rfl ?_
    refine q_if_ge hC 18 dX11_ringOf_11 rfl (fun h2 => ?_) (fun h2 => ?_)
    · have hx := gi_p h2 hx
      refine q_aload_n hC 0 dX11_ringOf_18 rfl rfl ?_
      refine gf_X11_7 hC dX11_ringOf_19 ?_
      refine q_iconst hC 2 dX11_ringOf_22 rfl ?_
      refine q_iload_n hC 2 dX11_ringOf_23 rfl rfl ?_
      refine q_iadd hC dX11_ringOf_24 ?_
      have g3 := (gd_e hx).1
      have hx := (gd_e hx).2
      refine q_iald hC 69 (gV_t (by decide) (by decide)) rfl g3 dX11_ringOf_25 ?_
      exact q_sub [0, 1, 3] rfl (J26 b3 (M.1 0 60 (2 + b2).toNatClampNeg) hx)
    · have hx := gi_n h2 hx
      refine q_iconst hC (-1) dX11_ringOf_14 rfl ?_
      refine q_goto hC 26 dX11_ringOf_15 rfl ?_
      exact q_sub [0, 1, 3] rfl (J26 b3 (-1) hx)
set_option maxRecDepth 100000 in
set_option maxHeartbeats 4000000 in
theorem c_X11_ringOf {l : Launch} {Y : gY} {M : gMem} {p1 : Int32} {r : Int32} (hx : x_X11_ringOf M p1 = some r) : Met l yX11_ringOf (gws yX11_ringOf cX11_ringOf 4 (some .int)) { frames := 0, cells := 0, slots := 0, locals := 0 } (va_Pc [.ref (gad Y 0 59), .int p1] (gS0 Y M)) (gQi Y (r, M)) 0 0 (gA Y) := by
  refine gmet (lv := [(0, .ref (gad Y 0 59)), (1, .int p1)]) "GuestStaffModel" (by decide) rfl (Nat.le_of_ble_eq_true rfl) rfl (fun X hC hF => ?_)
  unfold x_X11_ringOf at hx
  refine q_iload_n hC 1 dX11_ringOf_0 rfl rfl ?_
  refine q_istore_n hC [(2, .int p1), (0, .ref (gad Y 0 59)), (1, .int p1)] dX11_ringOf_1 rfl (by decide) rfl ?_
  refine q_iconst hC 1 dX11_ringOf_2 rfl ?_
  refine q_istore_n hC [(3, .int 1), (2, .int p1), (0, .ref (gad Y 0 59)), (1, .int p1)] dX11_ringOf_3 rfl (by decide) rfl ?_
  obtain ⟨e5, qe5, hx⟩ := gb_e hx
  refine q_sub [2, 3, 1, 0] rfl (w_X11_ringOf_4 hC hF (e := e5) (fun s6 qs6 => ?_) (fun z7 qz7 => ?_) _ _ qe5)
  · subst qs6
    refine q_iconst hC 0 dX11_ringOf_40 rfl ?_
    exact q_iret hC hF dX11_ringOf_41 (congrArg (fun z => (z, M)) (Option.some.inj hx))
  · subst qz7
    exact Option.some.inj hx

theorem dX11_rings_0 : decode cX11_rings 0 = .ok (.aload_n 0, 1) := by decide +kernel
theorem dX11_rings_1 : decode cX11_rings 1 = .ok (.iload_n 1, 1) := by decide +kernel
theorem dX11_rings_2 : decode cX11_rings 2 = .ok (.invokevirtual 214, 3) := by decide +kernel
theorem dX11_rings_5 : decode cX11_rings 5 = .ok (.ifCond .ne 8, 3) := by decide +kernel
theorem dX11_rings_8 : decode cX11_rings 8 = .ok (.aload_n 0, 1) := by decide +kernel
theorem dX11_rings_9 : decode cX11_rings 9 = .ok (.invokevirtual 89, 3) := by decide +kernel
theorem dX11_rings_12 : decode cX11_rings 12 = .ok (.ireturn, 1) := by decide +kernel
theorem dX11_rings_13 : decode cX11_rings 13 = .ok (.iconst 0, 1) := by decide +kernel
theorem dX11_rings_14 : decode cX11_rings 14 = .ok (.istore_n 2, 1) := by decide +kernel
theorem dX11_rings_15 : decode cX11_rings 15 = .ok (.iconst 0, 1) := by decide +kernel
theorem dX11_rings_16 : decode cX11_rings 16 = .ok (.istore_n 3, 1) := by decide +kernel
theorem dX11_rings_17 : decode cX11_rings 17 = .ok (.iload_n 3, 1) := by decide +kernel
theorem dX11_rings_18 : decode cX11_rings 18 = .ok (.aload_n 0, 1) := by decide +kernel
theorem dX11_rings_19 : decode cX11_rings 19 = .ok (.getfield 7, 3) := by decide +kernel
theorem dX11_rings_22 : decode cX11_rings 22 = .ok (.bipush 16, 2) := by decide +kernel
theorem dX11_rings_24 : decode cX11_rings 24 = .ok (.iaload, 1) := by decide +kernel
theorem dX11_rings_25 : decode cX11_rings 25 = .ok (.if_icmp .ge 25, 3) := by decide +kernel
theorem dX11_rings_28 : decode cX11_rings 28 = .ok (.iload_n 2, 1) := by decide +kernel
theorem dX11_rings_29 : decode cX11_rings 29 = .ok (.aload_n 0, 1) := by decide +kernel
theorem dX11_rings_30 : decode cX11_rings 30 = .ok (.iload_n 3, 1) := by decide +kernel
theorem dX11_rings_31 : decode cX11_rings 31 = .ok (.invokevirtual 220, 3) := by decide +kernel
theorem dX11_rings_34 : decode cX11_rings 34 = .ok (.ifCond .le 7, 3) := by decide +kernel
theorem dX11_rings_37 : decode cX11_rings 37 = .ok (.iconst 1, 1) := by decide +kernel
theorem dX11_rings_38 : decode cX11_rings 38 = .ok (.goto 4, 3) := by decide +kernel
theorem dX11_rings_41 : decode cX11_rings 41 = .ok (.iconst 0, 1) := by decide +kernel
theorem dX11_rings_42 : decode cX11_rings 42 = .ok (.iadd, 1) := by decide +kernel
theorem dX11_rings_43 : decode cX11_rings 43 = .ok (.istore_n 2, 1) := by decide +kernel
theorem dX11_rings_44 : decode cX11_rings 44 = .ok (.iinc 3 1, 3) := by decide +kernel
theorem dX11_rings_47 : decode cX11_rings 47 = .ok (.goto (-30), 3) := by decide +kernel
theorem dX11_rings_50 : decode cX11_rings 50 = .ok (.iload_n 1, 1) := by decide +kernel
theorem dX11_rings_51 : decode cX11_rings 51 = .ok (.ifCond .ge 7, 3) := by decide +kernel
theorem dX11_rings_54 : decode cX11_rings 54 = .ok (.iload_n 2, 1) := by decide +kernel
theorem dX11_rings_55 : decode cX11_rings 55 = .ok (.goto 8, 3) := by decide +kernel
theorem dX11_rings_58 : decode cX11_rings 58 = .ok (.aload_n 0, 1) := by decide +kernel
theorem dX11_rings_59 : decode cX11_rings 59 = .ok (.iload_n 1, 1) := by decide +kernel
theorem dX11_rings_60 : decode cX11_rings 60 = .ok (.invokevirtual 220, 3) := by decide +kernel
theorem dX11_rings_63 : decode cX11_rings 63 = .ok (.ireturn, 1) := by decide +kernel
def j_X11_rings_17_42 (M : gMem) (a1 : Int32) (b3 : Int32) (t0 : Int32) (t1 : Int32) : Option ((Int32 × Int32) ⊕ (Int32 × Int32)) := some (.inl (t1 + t0, b3 + 1))
def s_X11_rings_17 (M : gMem) (a1 : Int32) (b2 : Int32) (b3 : Int32) : Option ((Int32 × Int32) ⊕ (Int32 × Int32)) := (if (M.1 0 60 16) ≤ b3 then some (.inr (b2, b3)) else Option.bind (x_X11_ringOf M b3) (fun v6 => (if v6 ≤ 0 then j_X11_rings_17_42 M a1 b3 0 b2 else j_X11_rings_17_42 M a1 b3 1 b2)))
def x_X11_rings (M : gMem) (p1 : Int32) : Option (Int32 × gMem) := Option.bind (x_X11_isOne M p1) (fun v1 => (if v1 = 0 then Option.bind (x_X11_badFar M) (fun v13 => some (v13.1, v13.2)) else Option.bind (itr FU (fun s => s_X11_rings_17 M p1 s.1 s.2) (0, 0)) (fun e9 => (if 0 ≤ p1 then Option.bind (x_X11_ringOf M p1) (fun v11 => some (v11, M)) else some (e9.1, M)))))
set_option maxRecDepth 100000 in
set_option maxHeartbeats 4000000 in
theorem w_X11_rings_17 {X : gX} {Y : gY} {M : gMem} {a1 : Int32} {r : (Int32 × gMem)} (hC : gC X Y cX11_rings "GuestStaffModel" 4 3 67) (hF : gF X Y (some .int) (gQi Y r)) {e : (Int32 × Int32)} (kE : ∀ s : (Int32 × Int32), e = s → gWW X Y 4 50 [(0, .ref (gad Y 0 59)), (1, .int a1), (2, .int s.1)] [] M) : ∀ (F : Nat) (s : (Int32 × Int32)), itr F (fun s => s_X11_rings_17 M a1 s.1 s.2) s = some e → gWW X Y 4 17 [(0, .ref (gad Y 0 59)), (1, .int a1), (2, .int s.1), (3, .int s.2)] [] M := by
  intro F s
  refine itr_w (P := fun s => gWW X Y 4 17 [(0, .ref (gad Y 0 59)), (1, .int a1), (2, .int s.1), (3, .int s.2)] [] M) (fun s o hx kI kx => ?_) F s
  obtain ⟨b2, b3⟩ := s
  have hx : s_X11_rings_17 M a1 b2 b3 = some o := hx
  have kE : ∀ s : (Int32 × Int32), o = .inr s → gWW X Y 4 50 [(0, .ref (gad Y 0 59)), (1, .int a1), (2, .int s.1)] [] M := fun s q => kE s (kx _ q).symm
  have J42 : ∀ (b3 : Int32) (t0 : Int32) (t1 : Int32) , j_X11_rings_17_42 M a1 b3 t0 t1 = some o → gWW X Y 4 42 [(0, .ref (gad Y 0 59)), (1, .int a1), (3, .int b3)] [.int t0, .int t1] M := by
    intro b3 t0 t1 hx
    unfold j_X11_rings_17_42 at hx
    refine q_iadd hC dX11_rings_42 ?_
    refine q_istore_n hC [(2, .int (t1 + t0)), (0, .ref (gad Y 0 59)), (1, .int a1), (3, .int b3)] dX11_rings_43 rfl (by decide) rfl ?_
    refine q_iinc hC 3 1 [(3, .int (b3 + 1)), (2, .int (t1 + t0)), (0, .ref (gad Y 0 59)), (1, .int a1)] dX11_rings_44 rfl rfl (by decide) rfl ?_
    refine q_goto hC 17 dX11_rings_47 rfl ?_
    exact q_sub [2, 3, 1, 0] rfl (kI (t1 + t0, b3 + 1) (Option.some.inj hx).symm)
  unfold s_X11_rings_17 at hx
  refine q_iload_n hC 3 dX11_rings_17 rfl rfl ?_
  refine q_aload_n hC 0 dX11_rings_18 rfl rfl ?_
  refine gf_X11_7 hC dX11_rings_19 ?_
  refine q_bipush hC 16 dX11_rings_22 rfl ?_
  refine q_ialdk hC 16 69 (gV_t (by decide) (by decide)) rfl (by decide) rfl dX11_rings_24 ?_
  refine q_ic_ge hC 50 dX11_rings_25 rfl (fun h5 => ?_) (fun h5 => ?_)
  · have hx := gi_p h5 hx
    exact q_sub [0, 1, 2] rfl (kE (b2, b3) (Option.some.inj hx).symm)
  · have hx := gi_n h5 hx
    refine q_iload_n hC 2 dX11_rings_28 rfl rfl ?_
    refine q_aload_n hC 0 dX11_rings_29 rfl rfl ?_
    refine q_iload_n hC 3 dX11_rings_30 rfl rfl ?_
    obtain ⟨v6, q7, hx⟩ := gb_e hx
    refine q_kip (q_rV (As := [.int b3]) (rest := [.int b2]) hC mm_X11_ringOf wM_X11_220 (c_X11_ringOf q7) ⟨rfl, rfl, Nat.le_of_ble_eq_true rfl, Nat.le_of_ble_eq_true rfl⟩ (gV_t (by decide) (by decide)) rfl rfl rfl rfl (Nat.le_of_ble_eq_true rfl) dX11_rings_31) ?_
    refine q_if_le hC 41 dX11_rings_34 rfl (fun h8 => ?_) (fun h8 => ?_)
    · have hx := gi_p h8 hx
      refine q_iconst hC 0 dX11_rings_41 rfl ?_
      exact q_sub [0, 1, 3] rfl (J42 b3 0 b2 hx)
    · have hx := gi_n h8 hx
      refine q_iconst hC 1 dX11_rings_37 rfl ?_
      refine q_goto hC 42 dX11_rings_38 rfl ?_
      exact q_sub [0, 1, 3] rfl (J42 b3 1 b2 hx)
set_option maxRecDepth 100000 in
set_option maxHeartbeats 4000000 in
theorem c_X11_rings {l : Launch} {Y : gY} {M : gMem} {p1 : Int32} {r : (Int32 × gMem)} (hx : x_X11_rings M p1 = some r) : Met l yX11_rings (gws yX11_rings cX11_rings 4 (some .int)) { frames := 3, cells := 0, slots := 0, locals := 67 } (va_Pc [.ref (gad Y 0 59), .int p1] (gS0 Y M)) (gQi Y r) 0 0 (gA Y) := by
  refine gmet (lv := [(0, .ref (gad Y 0 59)), (1, .int p1)]) "GuestStaffModel" (by decide) rfl (Nat.le_of_ble_eq_true rfl) rfl (fun X hC hF => ?_)
  unfold x_X11_rings at hx
  refine q_aload_n hC 0 dX11_rings_0 rfl rfl ?_
  refine q_iload_n hC 1 dX11_rings_1 rfl rfl ?_
  obtain ⟨v1, q2, hx⟩ := gb_e hx
  refine q_kzp (q_rV (As := [.int p1]) (rest := []) hC mm_X11_isOne wM_X11_214 (c_X11_isOne q2) ⟨rfl, rfl, Nat.le_of_ble_eq_true rfl, Nat.le_of_ble_eq_true rfl⟩ (gV_t (by decide) (by decide)) rfl rfl rfl rfl (Nat.le_of_ble_eq_true rfl) dX11_rings_2) (fun z3 => ?_)
  refine q_if_ne hC 13 dX11_rings_5 rfl (fun h4 => ?_) (fun h4 => ?_)
  · have hx := gi_n h4 hx
    refine q_iconst hC 0 dX11_rings_13 rfl ?_
    refine q_istore_n hC [(2, .int 0), (0, .ref (gad Y 0 59)), (1, .int p1)] dX11_rings_14 rfl (by decide) rfl ?_
    refine q_iconst hC 0 dX11_rings_15 rfl ?_
    refine q_istore_n hC [(3, .int 0), (2, .int 0), (0, .ref (gad Y 0 59)), (1, .int p1)] dX11_rings_16 rfl (by decide) rfl ?_
    obtain ⟨e9, qe9, hx⟩ := gb_e hx
    refine q_sub [2, 3, 1, 0] rfl (w_X11_rings_17 hC hF (e := e9) (fun s q => ?_) _ _ qe9)
    · subst q
      refine q_iload_n hC 1 dX11_rings_50 rfl rfl ?_
      refine q_if_ge hC 58 dX11_rings_51 rfl (fun h10 => ?_) (fun h10 => ?_)
      · have hx := gi_p h10 hx
        refine q_aload_n hC 0 dX11_rings_58 rfl rfl ?_
        refine q_iload_n hC 1 dX11_rings_59 rfl rfl ?_
        obtain ⟨v11, q12, hx⟩ := gb_e hx
        refine q_kip (q_rV (As := [.int p1]) (rest := []) hC mm_X11_ringOf wM_X11_220 (c_X11_ringOf q12) ⟨rfl, rfl, Nat.le_of_ble_eq_true rfl, Nat.le_of_ble_eq_true rfl⟩ (gV_t (by decide) (by decide)) rfl rfl rfl rfl (Nat.le_of_ble_eq_true rfl) dX11_rings_60) ?_
        exact q_iret hC hF dX11_rings_63 (Option.some.inj hx)
      · have hx := gi_n h10 hx
        refine q_iload_n hC 2 dX11_rings_54 rfl rfl ?_
        refine q_goto hC 63 dX11_rings_55 rfl ?_
        exact q_iret hC hF dX11_rings_63 (Option.some.inj hx)
  · have hx := gi_p h4 hx
    refine q_aload_n hC 0 dX11_rings_8 rfl rfl ?_
    obtain ⟨v13, q14, hx⟩ := gb_e hx
    refine q_ki (q_rV (As := []) (rest := []) hC mm_X11_badFar wM_X11_89 (c_X11_badFar q14) ⟨rfl, rfl, Nat.le_of_ble_eq_true rfl, Nat.le_of_ble_eq_true rfl⟩ (gV_t (by decide) (by decide)) rfl rfl rfl rfl (Nat.le_of_ble_eq_true rfl) dX11_rings_9) ?_
    exact q_iret hC hF dX11_rings_12 (Option.some.inj hx)

theorem dX11_closes_0 : decode cX11_closes 0 = .ok (.aload_n 0, 1) := by decide +kernel
theorem dX11_closes_1 : decode cX11_closes 1 = .ok (.iload_n 1, 1) := by decide +kernel
theorem dX11_closes_2 : decode cX11_closes 2 = .ok (.invokevirtual 192, 3) := by decide +kernel
theorem dX11_closes_5 : decode cX11_closes 5 = .ok (.aload_n 0, 1) := by decide +kernel
theorem dX11_closes_6 : decode cX11_closes 6 = .ok (.getfield 183, 3) := by decide +kernel
theorem dX11_closes_9 : decode cX11_closes 9 = .ok (.invokestatic 186, 3) := by decide +kernel
theorem dX11_closes_12 : decode cX11_closes 12 = .ok (.istore_n 2, 1) := by decide +kernel
theorem dX11_closes_13 : decode cX11_closes 13 = .ok (.iconst 0, 1) := by decide +kernel
theorem dX11_closes_14 : decode cX11_closes 14 = .ok (.istore_n 3, 1) := by decide +kernel
theorem dX11_closes_15 : decode cX11_closes 15 = .ok (.iload_n 3, 1) := by decide +kernel
theorem dX11_closes_16 : decode cX11_closes 16 = .ok (.iload_n 2, 1) := by decide +kernel
theorem dX11_closes_17 : decode cX11_closes 17 = .ok (.if_icmp .ge 19, 3) := by decide +kernel
theorem dX11_closes_20 : decode cX11_closes 20 = .ok (.aload_n 0, 1) := by decide +kernel
theorem dX11_closes_21 : decode cX11_closes 21 = .ok (.iload_n 3, 1) := by decide +kernel
theorem dX11_closes_22 : decode cX11_closes 22 = .ok (.invokevirtual 205, 3) := by decide +kernel
theorem dX11_closes_25 : decode cX11_closes 25 = .ok (.ifCond .eq 5, 3) := by decide +kernel
theorem dX11_closes_28 : decode cX11_closes 28 = .ok (.iconst 1, 1) := by decide +kernel
theorem dX11_closes_29 : decode cX11_closes 29 = .ok (.ireturn, 1) := by decide +kernel
theorem dX11_closes_30 : decode cX11_closes 30 = .ok (.iinc 3 1, 3) := by decide +kernel
theorem dX11_closes_33 : decode cX11_closes 33 = .ok (.goto (-18), 3) := by decide +kernel
theorem dX11_closes_36 : decode cX11_closes 36 = .ok (.iconst 0, 1) := by decide +kernel
theorem dX11_closes_37 : decode cX11_closes 37 = .ok (.ireturn, 1) := by decide +kernel
def s_X11_closes_15 (a2 : Int32) (b3 : Int32) (N : gMem) : Option ((Int32 × gMem) ⊕ ((Int32 × gMem) ⊕ (Int32 × gMem))) := (if a2 ≤ b3 then some (.inr (.inl (b3, N))) else Option.bind (x_X11_isRow N b3) (fun v6 => (if v6.1 = 0 then some (.inl (b3 + 1, v6.2)) else some (.inr (.inr (1, v6.2))))))
def x_X11_closes (M : gMem) (p1 : Int32) : Option (Int32 × gMem) := Option.bind (x_X11_takeSet M p1) (fun v1 => Option.bind (x_X11_factorial (v1.1 0 59 16)) (fun v3 => Option.bind (itr FU (fun s => s_X11_closes_15 v3 s.1 s.2) (0, v1)) (fun e10 => Sum.elim (fun s11 => some (0, s11.2)) (fun z12 => some z12) e10)))
set_option maxRecDepth 100000 in
set_option maxHeartbeats 4000000 in
theorem w_X11_closes_15 {X : gX} {Y : gY} {a2 : Int32} {r : (Int32 × gMem)} (hC : gC X Y cX11_closes "GuestStaffModel" 4 3 72) (hF : gF X Y (some .boolean) (gQz Y r)) {e : ((Int32 × gMem) ⊕ (Int32 × gMem))} (kE : ∀ s : (Int32 × gMem), e = .inl s → gWW X Y 4 36 [] [] s.2) (kR : ∀ z : (Int32 × gMem), e = .inr z → z = r) : ∀ (F : Nat) (s : (Int32 × gMem)), itr F (fun s => s_X11_closes_15 a2 s.1 s.2) s = some e → gWW X Y 4 15 [(0, .ref (gad Y 0 59)), (2, .int a2), (3, .int s.1)] [] s.2 := by
  intro F s
  refine itr_w (P := fun s => gWW X Y 4 15 [(0, .ref (gad Y 0 59)), (2, .int a2), (3, .int s.1)] [] s.2) (fun s o hx kI kx => ?_) F s
  obtain ⟨b3, N⟩ := s
  have hx : s_X11_closes_15 a2 b3 N = some o := hx
  have kE : ∀ s : (Int32 × gMem), o = .inr (.inl s) → gWW X Y 4 36 [] [] s.2 := fun s q => kE s (kx _ q).symm
  have kR : ∀ z : (Int32 × gMem), o = .inr (.inr z) → z = r := fun z q => kR z (kx _ q).symm
  unfold s_X11_closes_15 at hx
  refine q_iload_n hC 2 dX11_closes_15 rfl rfl ?_
  refine q_iload_n hC 1 dX11_closes_16 rfl rfl ?_
  refine q_ic_ge hC 36 dX11_closes_17 rfl (fun h5 => ?_) (fun h5 => ?_)
  · have hx := gi_p h5 hx
    exact q_sub [] rfl (kE (b3, N) (Option.some.inj hx).symm)
  · have hx := gi_n h5 hx
    refine q_aload_n hC 0 dX11_closes_20 rfl rfl ?_
    refine q_iload_n hC 2 dX11_closes_21 rfl rfl ?_
    obtain ⟨v6, q7, hx⟩ := gb_e hx
    refine q_kz (q_rV (As := [.int b3]) (rest := []) hC mm_X11_isRow wM_X11_205 (c_X11_isRow q7) ⟨rfl, rfl, Nat.le_of_ble_eq_true rfl, Nat.le_of_ble_eq_true rfl⟩ (gV_t (by decide) (by decide)) rfl rfl rfl rfl (Nat.le_of_ble_eq_true rfl) dX11_closes_22) (fun z8 => ?_)
    refine q_if_eq hC 30 dX11_closes_25 rfl (fun h9 => ?_) (fun h9 => ?_)
    · have hx := gi_p h9 hx
      refine q_iinc hC 2 1 [(3, .int (b3 + 1)), (0, .ref (gad Y 0 59)), (2, .int a2)] dX11_closes_30 rfl rfl (by decide) rfl ?_
      refine q_goto hC 15 dX11_closes_33 rfl ?_
      exact q_sub [1, 2, 0] rfl (kI (b3 + 1, v6.2) (Option.some.inj hx).symm)
    · have hx := gi_n h9 hx
      refine q_iconst hC 1 dX11_closes_28 rfl ?_
      exact q_zret hC hF dX11_closes_29 (Or.inr rfl) (kR _ (Option.some.inj hx).symm)
set_option maxRecDepth 100000 in
set_option maxHeartbeats 4000000 in
theorem c_X11_closes {l : Launch} {Y : gY} {M : gMem} {p1 : Int32} {r : (Int32 × gMem)} (hx : x_X11_closes M p1 = some r) : Met l yX11_closes (gws yX11_closes cX11_closes 4 (some .boolean)) { frames := 3, cells := 0, slots := 0, locals := 72 } (va_Pc [.ref (gad Y 0 59), .int p1] (gS0 Y M)) (gQz Y r) 0 0 (gA Y) := by
  refine gmet (lv := [(0, .ref (gad Y 0 59)), (1, .int p1)]) "GuestStaffModel" (by decide) rfl (Nat.le_of_ble_eq_true rfl) rfl (fun X hC hF => ?_)
  unfold x_X11_closes at hx
  refine q_aload_n hC 0 dX11_closes_0 rfl rfl ?_
  refine q_iload_n hC 1 dX11_closes_1 rfl rfl ?_
  obtain ⟨v1, q2, hx⟩ := gb_e hx
  refine q_kv (q_rV (As := [.int p1]) (rest := []) hC mm_X11_takeSet wM_X11_192 (c_X11_takeSet q2) ⟨rfl, rfl, Nat.le_of_ble_eq_true rfl, Nat.le_of_ble_eq_true rfl⟩ (gV_t (by decide) (by decide)) rfl rfl rfl rfl (Nat.le_of_ble_eq_true rfl) dX11_closes_2) ?_
  refine q_aload_n hC 0 dX11_closes_5 rfl rfl ?_
  refine gf_X11_183 hC dX11_closes_6 ?_
  obtain ⟨v3, q4, hx⟩ := gb_e hx
  refine q_kip (q_rS (As := [.int (v1.1 0 59 16)]) (rest := []) hC mm_X11_factorial wM_X11_186 (c_X11_factorial q4) ⟨rfl, rfl, Nat.le_of_ble_eq_true rfl, Nat.le_of_ble_eq_true rfl⟩ rfl rfl (Nat.le_of_ble_eq_true rfl) dX11_closes_9) ?_
  refine q_istore_n hC [(2, .int v3), (0, .ref (gad Y 0 59)), (1, .int p1)] dX11_closes_12 rfl (by decide) rfl ?_
  refine q_iconst hC 0 dX11_closes_13 rfl ?_
  refine q_istore_n hC [(3, .int 0), (2, .int v3), (0, .ref (gad Y 0 59)), (1, .int p1)] dX11_closes_14 rfl (by decide) rfl ?_
  obtain ⟨e10, qe10, hx⟩ := gb_e hx
  refine q_sub [2, 1, 0] rfl (w_X11_closes_15 hC hF (e := e10) (fun s11 qs11 => ?_) (fun z12 qz12 => ?_) _ _ qe10)
  · subst qs11
    refine q_iconst hC 0 dX11_closes_36 rfl ?_
    exact q_zret hC hF dX11_closes_37 (Or.inl rfl) (Option.some.inj hx)
  · subst qz12
    exact Option.some.inj hx

theorem dX11_smallest_0 : decode cX11_smallest 0 = .ok (.iconst (-1), 1) := by decide +kernel
theorem dX11_smallest_1 : decode cX11_smallest 1 = .ok (.istore_n 1, 1) := by decide +kernel
theorem dX11_smallest_2 : decode cX11_smallest 2 = .ok (.iconst 0, 1) := by decide +kernel
theorem dX11_smallest_3 : decode cX11_smallest 3 = .ok (.istore_n 2, 1) := by decide +kernel
theorem dX11_smallest_4 : decode cX11_smallest 4 = .ok (.iload_n 2, 1) := by decide +kernel
theorem dX11_smallest_5 : decode cX11_smallest 5 = .ok (.aload_n 0, 1) := by decide +kernel
theorem dX11_smallest_6 : decode cX11_smallest 6 = .ok (.invokevirtual 189, 3) := by decide +kernel
theorem dX11_smallest_9 : decode cX11_smallest 9 = .ok (.if_icmp .gt 56, 3) := by decide +kernel
theorem dX11_smallest_12 : decode cX11_smallest 12 = .ok (.iload_n 1, 1) := by decide +kernel
theorem dX11_smallest_13 : decode cX11_smallest 13 = .ok (.ifCond .lt 14, 3) := by decide +kernel
theorem dX11_smallest_16 : decode cX11_smallest 16 = .ok (.iload_n 2, 1) := by decide +kernel
theorem dX11_smallest_17 : decode cX11_smallest 17 = .ok (.invokestatic 223, 3) := by decide +kernel
theorem dX11_smallest_20 : decode cX11_smallest 20 = .ok (.iload_n 1, 1) := by decide +kernel
theorem dX11_smallest_21 : decode cX11_smallest 21 = .ok (.invokestatic 223, 3) := by decide +kernel
theorem dX11_smallest_24 : decode cX11_smallest 24 = .ok (.if_icmp .ge 7, 3) := by decide +kernel
theorem dX11_smallest_27 : decode cX11_smallest 27 = .ok (.iconst 1, 1) := by decide +kernel
theorem dX11_smallest_28 : decode cX11_smallest 28 = .ok (.goto 4, 3) := by decide +kernel
theorem dX11_smallest_31 : decode cX11_smallest 31 = .ok (.iconst 0, 1) := by decide +kernel
theorem dX11_smallest_32 : decode cX11_smallest 32 = .ok (.istore_n 3, 1) := by decide +kernel
theorem dX11_smallest_33 : decode cX11_smallest 33 = .ok (.iload_n 2, 1) := by decide +kernel
theorem dX11_smallest_34 : decode cX11_smallest 34 = .ok (.invokestatic 223, 3) := by decide +kernel
theorem dX11_smallest_37 : decode cX11_smallest 37 = .ok (.iconst 1, 1) := by decide +kernel
theorem dX11_smallest_38 : decode cX11_smallest 38 = .ok (.if_icmp .le 19, 3) := by decide +kernel
theorem dX11_smallest_41 : decode cX11_smallest 41 = .ok (.iload_n 3, 1) := by decide +kernel
theorem dX11_smallest_42 : decode cX11_smallest 42 = .ok (.ifCond .eq 15, 3) := by decide +kernel
theorem dX11_smallest_45 : decode cX11_smallest 45 = .ok (.aload_n 0, 1) := by decide +kernel
theorem dX11_smallest_46 : decode cX11_smallest 46 = .ok (.iload_n 2, 1) := by decide +kernel
theorem dX11_smallest_47 : decode cX11_smallest 47 = .ok (.invokevirtual 226, 3) := by decide +kernel
theorem dX11_smallest_50 : decode cX11_smallest 50 = .ok (.ifCond .eq 7, 3) := by decide +kernel
theorem dX11_smallest_53 : decode cX11_smallest 53 = .ok (.iload_n 2, 1) := by decide +kernel
theorem dX11_smallest_54 : decode cX11_smallest 54 = .ok (.goto 4, 3) := by decide +kernel
theorem dX11_smallest_57 : decode cX11_smallest 57 = .ok (.iload_n 1, 1) := by decide +kernel
theorem dX11_smallest_58 : decode cX11_smallest 58 = .ok (.istore_n 1, 1) := by decide +kernel
theorem dX11_smallest_59 : decode cX11_smallest 59 = .ok (.iinc 2 1, 3) := by decide +kernel
theorem dX11_smallest_62 : decode cX11_smallest 62 = .ok (.goto (-58), 3) := by decide +kernel
theorem dX11_smallest_65 : decode cX11_smallest 65 = .ok (.iload_n 1, 1) := by decide +kernel
theorem dX11_smallest_66 : decode cX11_smallest 66 = .ok (.ireturn, 1) := by decide +kernel
def j_X11_smallest_4_58 (N : gMem) (b2 : Int32) (t0 : Int32) : Option ((Int32 × Int32 × gMem) ⊕ (Int32 × Int32 × gMem)) := some (.inl (t0, b2 + 1, N))
def j_X11_smallest_4_57 (N : gMem) (b1 : Int32) (b2 : Int32) : Option ((Int32 × Int32 × gMem) ⊕ (Int32 × Int32 × gMem)) := j_X11_smallest_4_58 N b2 b1
def j_X11_smallest_4_32 (N : gMem) (b1 : Int32) (b2 : Int32) (t0 : Int32) : Option ((Int32 × Int32 × gMem) ⊕ (Int32 × Int32 × gMem)) := Option.bind (x_X11_ones b2) (fun v5 => (if v5 ≤ 1 then j_X11_smallest_4_57 N b1 b2 else (if t0 = 0 then j_X11_smallest_4_57 N b1 b2 else Option.bind (x_X11_closes N b2) (fun v9 => (if v9.1 = 0 then j_X11_smallest_4_57 v9.2 b1 b2 else j_X11_smallest_4_58 v9.2 b2 b2)))))
def j_X11_smallest_4_27 (N : gMem) (b1 : Int32) (b2 : Int32) : Option ((Int32 × Int32 × gMem) ⊕ (Int32 × Int32 × gMem)) := j_X11_smallest_4_32 N b1 b2 1
def s_X11_smallest_4 (b1 : Int32) (b2 : Int32) (N : gMem) : Option ((Int32 × Int32 × gMem) ⊕ (Int32 × Int32 × gMem)) := Option.bind (x_X11_everybody N) (fun v1 => (if v1 < b2 then some (.inr (b1, b2, N)) else (if b1 < 0 then j_X11_smallest_4_27 N b1 b2 else Option.bind (x_X11_ones b2) (fun v13 => Option.bind (x_X11_ones b1) (fun v15 => (if v15 ≤ v13 then j_X11_smallest_4_32 N b1 b2 0 else j_X11_smallest_4_27 N b1 b2))))))
def x_X11_smallest (M : gMem) : Option (Int32 × gMem) := Option.bind (itr FU (fun s => s_X11_smallest_4 s.1 s.2.1 s.2.2) ((-1), 0, M)) (fun e18 => some (e18.1, e18.2.2))
set_option maxRecDepth 100000 in
set_option maxHeartbeats 4000000 in
theorem w_X11_smallest_4 {X : gX} {Y : gY} {r : (Int32 × gMem)} (hC : gC X Y cX11_smallest "GuestStaffModel" 4 4 95) (hF : gF X Y (some .int) (gQi Y r)) {e : (Int32 × Int32 × gMem)} (kE : ∀ s : (Int32 × Int32 × gMem), e = s → gWW X Y 4 65 [(1, .int s.1)] [] s.2.2) : ∀ (F : Nat) (s : (Int32 × Int32 × gMem)), itr F (fun s => s_X11_smallest_4 s.1 s.2.1 s.2.2) s = some e → gWW X Y 4 4 [(0, .ref (gad Y 0 59)), (1, .int s.1), (2, .int s.2.1)] [] s.2.2 := by
  intro F s
  refine itr_w (P := fun s => gWW X Y 4 4 [(0, .ref (gad Y 0 59)), (1, .int s.1), (2, .int s.2.1)] [] s.2.2) (fun s o hx kI kx => ?_) F s
  obtain ⟨b1, b2, N⟩ := s
  have hx : s_X11_smallest_4 b1 b2 N = some o := hx
  have kE : ∀ s : (Int32 × Int32 × gMem), o = .inr s → gWW X Y 4 65 [(1, .int s.1)] [] s.2.2 := fun s q => kE s (kx _ q).symm
  have J58 : ∀ (N : gMem) (b2 : Int32) (t0 : Int32) , j_X11_smallest_4_58 N b2 t0 = some o → gWW X Y 4 58 [(0, .ref (gad Y 0 59)), (2, .int b2)] [.int t0] N := by
    intro N b2 t0 hx
    unfold j_X11_smallest_4_58 at hx
    refine q_istore_n hC [(1, .int t0), (0, .ref (gad Y 0 59)), (2, .int b2)] dX11_smallest_58 rfl (by decide) rfl ?_
    refine q_iinc hC 2 1 [(2, .int (b2 + 1)), (1, .int t0), (0, .ref (gad Y 0 59))] dX11_smallest_59 rfl rfl (by decide) rfl ?_
    refine q_goto hC 4 dX11_smallest_62 rfl ?_
    exact q_sub [2, 1, 0] rfl (kI (t0, b2 + 1, N) (Option.some.inj hx).symm)
  have J57 : ∀ (N : gMem) (b1 : Int32) (b2 : Int32) , j_X11_smallest_4_57 N b1 b2 = some o → gWW X Y 4 57 [(0, .ref (gad Y 0 59)), (1, .int b1), (2, .int b2)] [] N := by
    intro N b1 b2 hx
    unfold j_X11_smallest_4_57 at hx
    refine q_iload_n hC 1 dX11_smallest_57 rfl rfl ?_
    exact q_sub [0, 2] rfl (J58 N b2 b1 hx)
  have J32 : ∀ (N : gMem) (b1 : Int32) (b2 : Int32) (t0 : Int32) , j_X11_smallest_4_32 N b1 b2 t0 = some o → gWW X Y 4 32 [(0, .ref (gad Y 0 59)), (1, .int b1), (2, .int b2)] [.int t0] N := by
    intro N b1 b2 t0 hx
    unfold j_X11_smallest_4_32 at hx
    refine q_istore_n hC [(3, .int t0), (0, .ref (gad Y 0 59)), (1, .int b1), (2, .int b2)] dX11_smallest_32 rfl (by decide) rfl ?_
    refine q_iload_n hC 3 dX11_smallest_33 rfl rfl ?_
    obtain ⟨v5, q6, hx⟩ := gb_e hx
    refine q_kip (q_rS (As := [.int b2]) (rest := []) hC mm_X11_ones wM_X11_223 (c_X11_ones q6) ⟨rfl, rfl, Nat.le_of_ble_eq_true rfl, Nat.le_of_ble_eq_true rfl⟩ rfl rfl (Nat.le_of_ble_eq_true rfl) dX11_smallest_34) ?_
    refine q_iconst hC 1 dX11_smallest_37 rfl ?_
    refine q_ic_le hC 57 dX11_smallest_38 rfl (fun h7 => ?_) (fun h7 => ?_)
    · have hx := gi_p h7 hx
      exact q_sub [1, 2, 3] rfl (J57 N b1 b2 hx)
    · have hx := gi_n h7 hx
      refine q_iload_n hC 0 dX11_smallest_41 rfl rfl ?_
      refine q_if_eq hC 57 dX11_smallest_42 rfl (fun h8 => ?_) (fun h8 => ?_)
      · have hx := gi_p h8 hx
        exact q_sub [1, 2, 3] rfl (J57 N b1 b2 hx)
      · have hx := gi_n h8 hx
        refine q_aload_n hC 1 dX11_smallest_45 rfl rfl ?_
        refine q_iload_n hC 3 dX11_smallest_46 rfl rfl ?_
        obtain ⟨v9, q10, hx⟩ := gb_e hx
        refine q_kz (q_rV (As := [.int b2]) (rest := []) hC mm_X11_closes wM_X11_226 (c_X11_closes q10) ⟨rfl, rfl, Nat.le_of_ble_eq_true rfl, Nat.le_of_ble_eq_true rfl⟩ (gV_t (by decide) (by decide)) rfl rfl rfl rfl (Nat.le_of_ble_eq_true rfl) dX11_smallest_47) (fun z11 => ?_)
        refine q_if_eq hC 57 dX11_smallest_50 rfl (fun h12 => ?_) (fun h12 => ?_)
        · have hx := gi_p h12 hx
          exact q_sub [1, 2, 3] rfl (J57 v9.2 b1 b2 hx)
        · have hx := gi_n h12 hx
          refine q_iload_n hC 3 dX11_smallest_53 rfl rfl ?_
          refine q_goto hC 58 dX11_smallest_54 rfl ?_
          exact q_sub [1, 3] rfl (J58 v9.2 b2 b2 hx)
  have J27 : ∀ (N : gMem) (b1 : Int32) (b2 : Int32) , j_X11_smallest_4_27 N b1 b2 = some o → gWW X Y 4 27 [(0, .ref (gad Y 0 59)), (1, .int b1), (2, .int b2)] [] N := by
    intro N b1 b2 hx
    unfold j_X11_smallest_4_27 at hx
    refine q_iconst hC 1 dX11_smallest_27 rfl ?_
    refine q_goto hC 32 dX11_smallest_28 rfl ?_
    exact q_sub [0, 1, 2] rfl (J32 N b1 b2 1 hx)
  unfold s_X11_smallest_4 at hx
  refine q_iload_n hC 2 dX11_smallest_4 rfl rfl ?_
  refine q_aload_n hC 0 dX11_smallest_5 rfl rfl ?_
  obtain ⟨v1, q2, hx⟩ := gb_e hx
  refine q_kip (q_rV (As := []) (rest := [.int b2]) hC mm_X11_everybody wM_X11_189 (c_X11_everybody q2) ⟨rfl, rfl, Nat.le_of_ble_eq_true rfl, Nat.le_of_ble_eq_true rfl⟩ (gV_t (by decide) (by decide)) rfl rfl rfl rfl (Nat.le_of_ble_eq_true rfl) dX11_smallest_6) ?_
  refine q_ic_gt hC 65 dX11_smallest_9 rfl (fun h3 => ?_) (fun h3 => ?_)
  · have hx := gi_p h3 hx
    exact q_sub [1] rfl (kE (b1, b2, N) (Option.some.inj hx).symm)
  · have hx := gi_n h3 hx
    refine q_iload_n hC 1 dX11_smallest_12 rfl rfl ?_
    refine q_if_lt hC 27 dX11_smallest_13 rfl (fun h4 => ?_) (fun h4 => ?_)
    · have hx := gi_p h4 hx
      exact q_sub [0, 1, 2] rfl (J27 N b1 b2 hx)
    · have hx := gi_n h4 hx
      refine q_iload_n hC 2 dX11_smallest_16 rfl rfl ?_
      obtain ⟨v13, q14, hx⟩ := gb_e hx
      refine q_kip (q_rS (As := [.int b2]) (rest := []) hC mm_X11_ones wM_X11_223 (c_X11_ones q14) ⟨rfl, rfl, Nat.le_of_ble_eq_true rfl, Nat.le_of_ble_eq_true rfl⟩ rfl rfl (Nat.le_of_ble_eq_true rfl) dX11_smallest_17) ?_
      refine q_iload_n hC 1 dX11_smallest_20 rfl rfl ?_
      obtain ⟨v15, q16, hx⟩ := gb_e hx
      refine q_kip (q_rS (As := [.int b1]) (rest := [.int v13]) hC mm_X11_ones wM_X11_223 (c_X11_ones q16) ⟨rfl, rfl, Nat.le_of_ble_eq_true rfl, Nat.le_of_ble_eq_true rfl⟩ rfl rfl (Nat.le_of_ble_eq_true rfl) dX11_smallest_21) ?_
      refine q_ic_ge hC 31 dX11_smallest_24 rfl (fun h17 => ?_) (fun h17 => ?_)
      · have hx := gi_p h17 hx
        refine q_iconst hC 0 dX11_smallest_31 rfl ?_
        exact q_sub [0, 1, 2] rfl (J32 N b1 b2 0 hx)
      · have hx := gi_n h17 hx
        exact q_sub [0, 1, 2] rfl (J27 N b1 b2 hx)
set_option maxRecDepth 100000 in
set_option maxHeartbeats 4000000 in
theorem c_X11_smallest {l : Launch} {Y : gY} {M : gMem} {r : (Int32 × gMem)} (hx : x_X11_smallest M = some r) : Met l yX11_smallest (gws yX11_smallest cX11_smallest 4 (some .int)) { frames := 4, cells := 0, slots := 0, locals := 95 } (va_Pc [.ref (gad Y 0 59)] (gS0 Y M)) (gQi Y r) 0 0 (gA Y) := by
  refine gmet (lv := [(0, .ref (gad Y 0 59))]) "GuestStaffModel" (by decide) rfl (Nat.le_of_ble_eq_true rfl) rfl (fun X hC hF => ?_)
  unfold x_X11_smallest at hx
  refine q_iconst hC (-1) dX11_smallest_0 rfl ?_
  refine q_istore_n hC [(1, .int (-1)), (0, .ref (gad Y 0 59))] dX11_smallest_1 rfl (by decide) rfl ?_
  refine q_iconst hC 0 dX11_smallest_2 rfl ?_
  refine q_istore_n hC [(2, .int 0), (1, .int (-1)), (0, .ref (gad Y 0 59))] dX11_smallest_3 rfl (by decide) rfl ?_
  obtain ⟨e18, qe18, hx⟩ := gb_e hx
  refine q_sub [2, 1, 0] rfl (w_X11_smallest_4 hC hF (e := e18) (fun s q => ?_) _ _ qe18)
  · subst q
    refine q_iload_n hC 0 dX11_smallest_65 rfl rfl ?_
    exact q_iret hC hF dX11_smallest_66 (Option.some.inj hx)

theorem dX11_gains_0 : decode cX11_gains 0 = .ok (.aload_n 0, 1) := by decide +kernel
theorem dX11_gains_1 : decode cX11_gains 1 = .ok (.iload_n 2, 1) := by decide +kernel
theorem dX11_gains_2 : decode cX11_gains 2 = .ok (.iload_n 1, 1) := by decide +kernel
theorem dX11_gains_3 : decode cX11_gains 3 = .ok (.invokevirtual 156, 3) := by decide +kernel
theorem dX11_gains_6 : decode cX11_gains 6 = .ok (.ifCond .eq 26, 3) := by decide +kernel
theorem dX11_gains_9 : decode cX11_gains 9 = .ok (.aload_n 0, 1) := by decide +kernel
theorem dX11_gains_10 : decode cX11_gains 10 = .ok (.iload_n 1, 1) := by decide +kernel
theorem dX11_gains_11 : decode cX11_gains 11 = .ok (.iload_n 2, 1) := by decide +kernel
theorem dX11_gains_12 : decode cX11_gains 12 = .ok (.invokevirtual 166, 3) := by decide +kernel
theorem dX11_gains_15 : decode cX11_gains 15 = .ok (.aload_n 0, 1) := by decide +kernel
theorem dX11_gains_16 : decode cX11_gains 16 = .ok (.iload_n 1, 1) := by decide +kernel
theorem dX11_gains_17 : decode cX11_gains 17 = .ok (.aload_n 0, 1) := by decide +kernel
theorem dX11_gains_18 : decode cX11_gains 18 = .ok (.iload_n 1, 1) := by decide +kernel
theorem dX11_gains_19 : decode cX11_gains 19 = .ok (.invokevirtual 163, 3) := by decide +kernel
theorem dX11_gains_22 : decode cX11_gains 22 = .ok (.invokevirtual 166, 3) := by decide +kernel
theorem dX11_gains_25 : decode cX11_gains 25 = .ok (.if_icmp .le 7, 3) := by decide +kernel
theorem dX11_gains_28 : decode cX11_gains 28 = .ok (.iconst 1, 1) := by decide +kernel
theorem dX11_gains_29 : decode cX11_gains 29 = .ok (.goto 4, 3) := by decide +kernel
theorem dX11_gains_32 : decode cX11_gains 32 = .ok (.iconst 0, 1) := by decide +kernel
theorem dX11_gains_33 : decode cX11_gains 33 = .ok (.ireturn, 1) := by decide +kernel
def x_X11_gains (M : gMem) (p1 : Int32) (p2 : Int32) : Option Int32 := Option.bind (x_X11_canServe M p2 p1) (fun v1 => (if v1 = 0 then some 0 else Option.bind (x_X11_contentOf M p1 p2) (fun v5 => Option.bind (x_X11_serverOf M p1) (fun v7 => Option.bind (x_X11_contentOf M p1 v7) (fun v9 => (if v5 ≤ v9 then some 0 else some 1))))))
set_option maxRecDepth 100000 in
set_option maxHeartbeats 4000000 in
theorem c_X11_gains {l : Launch} {Y : gY} {M : gMem} {p1 : Int32} {p2 : Int32} {r : Int32} (hx : x_X11_gains M p1 p2 = some r) : Met l yX11_gains (gws yX11_gains cX11_gains 3 (some .boolean)) { frames := 3, cells := 0, slots := 0, locals := 65 } (va_Pc [.ref (gad Y 0 59), .int p1, .int p2] (gS0 Y M)) (gQz Y (r, M)) 0 0 (gA Y) := by
  refine gmet (lv := [(0, .ref (gad Y 0 59)), (1, .int p1), (2, .int p2)]) "GuestStaffModel" (by decide) rfl (Nat.le_of_ble_eq_true rfl) rfl (fun X hC hF => ?_)
  unfold x_X11_gains at hx
  refine q_aload_n hC 0 dX11_gains_0 rfl rfl ?_
  refine q_iload_n hC 2 dX11_gains_1 rfl rfl ?_
  refine q_iload_n hC 1 dX11_gains_2 rfl rfl ?_
  obtain ⟨v1, q2, hx⟩ := gb_e hx
  refine q_kzp (q_rV (As := [.int p2, .int p1]) (rest := []) hC mm_X11_canServe wM_X11_156 (c_X11_canServe q2) ⟨rfl, rfl, Nat.le_of_ble_eq_true rfl, Nat.le_of_ble_eq_true rfl⟩ (gV_t (by decide) (by decide)) rfl rfl rfl rfl (Nat.le_of_ble_eq_true rfl) dX11_gains_3) (fun z3 => ?_)
  refine q_if_eq hC 32 dX11_gains_6 rfl (fun h4 => ?_) (fun h4 => ?_)
  · have hx := gi_p h4 hx
    refine q_iconst hC 0 dX11_gains_32 rfl ?_
    exact q_zret hC hF dX11_gains_33 (Or.inl rfl) (congrArg (fun z => (z, M)) (Option.some.inj hx))
  · have hx := gi_n h4 hx
    refine q_aload_n hC 0 dX11_gains_9 rfl rfl ?_
    refine q_iload_n hC 1 dX11_gains_10 rfl rfl ?_
    refine q_iload_n hC 2 dX11_gains_11 rfl rfl ?_
    obtain ⟨v5, q6, hx⟩ := gb_e hx
    refine q_kip (q_rV (As := [.int p1, .int p2]) (rest := []) hC mm_X11_contentOf wM_X11_166 (c_X11_contentOf q6) ⟨rfl, rfl, Nat.le_of_ble_eq_true rfl, Nat.le_of_ble_eq_true rfl⟩ (gV_t (by decide) (by decide)) rfl rfl rfl rfl (Nat.le_of_ble_eq_true rfl) dX11_gains_12) ?_
    refine q_aload_n hC 0 dX11_gains_15 rfl rfl ?_
    refine q_iload_n hC 1 dX11_gains_16 rfl rfl ?_
    refine q_aload_n hC 0 dX11_gains_17 rfl rfl ?_
    refine q_iload_n hC 1 dX11_gains_18 rfl rfl ?_
    obtain ⟨v7, q8, hx⟩ := gb_e hx
    refine q_kip (q_rV (As := [.int p1]) (rest := [.int p1, .ref (gad Y 0 59), .int v5]) hC mm_X11_serverOf wM_X11_163 (c_X11_serverOf q8) ⟨rfl, rfl, Nat.le_of_ble_eq_true rfl, Nat.le_of_ble_eq_true rfl⟩ (gV_t (by decide) (by decide)) rfl rfl rfl rfl (Nat.le_of_ble_eq_true rfl) dX11_gains_19) ?_
    obtain ⟨v9, q10, hx⟩ := gb_e hx
    refine q_kip (q_rV (As := [.int p1, .int v7]) (rest := [.int v5]) hC mm_X11_contentOf wM_X11_166 (c_X11_contentOf q10) ⟨rfl, rfl, Nat.le_of_ble_eq_true rfl, Nat.le_of_ble_eq_true rfl⟩ (gV_t (by decide) (by decide)) rfl rfl rfl rfl (Nat.le_of_ble_eq_true rfl) dX11_gains_22) ?_
    refine q_ic_le hC 32 dX11_gains_25 rfl (fun h11 => ?_) (fun h11 => ?_)
    · have hx := gi_p h11 hx
      refine q_iconst hC 0 dX11_gains_32 rfl ?_
      exact q_zret hC hF dX11_gains_33 (Or.inl rfl) (congrArg (fun z => (z, M)) (Option.some.inj hx))
    · have hx := gi_n h11 hx
      refine q_iconst hC 1 dX11_gains_28 rfl ?_
      refine q_goto hC 33 dX11_gains_29 rfl ?_
      exact q_zret hC hF dX11_gains_33 (Or.inr rfl) (congrArg (fun z => (z, M)) (Option.some.inj hx))

theorem dX11_swap_0 : decode cX11_swap 0 = .ok (.iload_n 1, 1) := by decide +kernel
theorem dX11_swap_1 : decode cX11_swap 1 = .ok (.iconst (-1), 1) := by decide +kernel
theorem dX11_swap_2 : decode cX11_swap 2 = .ok (.if_icmp .ge 8, 3) := by decide +kernel
theorem dX11_swap_5 : decode cX11_swap 5 = .ok (.aload_n 0, 1) := by decide +kernel
theorem dX11_swap_6 : decode cX11_swap 6 = .ok (.invokevirtual 89, 3) := by decide +kernel
theorem dX11_swap_9 : decode cX11_swap 9 = .ok (.ireturn, 1) := by decide +kernel
theorem dX11_swap_10 : decode cX11_swap 10 = .ok (.iconst 0, 1) := by decide +kernel
theorem dX11_swap_11 : decode cX11_swap 11 = .ok (.istore_n 2, 1) := by decide +kernel
theorem dX11_swap_12 : decode cX11_swap 12 = .ok (.iconst 0, 1) := by decide +kernel
theorem dX11_swap_13 : decode cX11_swap 13 = .ok (.istore_n 3, 1) := by decide +kernel
theorem dX11_swap_14 : decode cX11_swap 14 = .ok (.iload_n 3, 1) := by decide +kernel
theorem dX11_swap_15 : decode cX11_swap 15 = .ok (.aload_n 0, 1) := by decide +kernel
theorem dX11_swap_16 : decode cX11_swap 16 = .ok (.getfield 7, 3) := by decide +kernel
theorem dX11_swap_19 : decode cX11_swap 19 = .ok (.bipush 16, 2) := by decide +kernel
theorem dX11_swap_21 : decode cX11_swap 21 = .ok (.iaload, 1) := by decide +kernel
theorem dX11_swap_22 : decode cX11_swap 22 = .ok (.if_icmp .ge 94, 3) := by decide +kernel
theorem dX11_swap_25 : decode cX11_swap 25 = .ok (.iload_n 3, 1) := by decide +kernel
theorem dX11_swap_26 : decode cX11_swap 26 = .ok (.iconst 1, 1) := by decide +kernel
theorem dX11_swap_27 : decode cX11_swap 27 = .ok (.iadd, 1) := by decide +kernel
theorem dX11_swap_28 : decode cX11_swap 28 = .ok (.istore 4, 2) := by decide +kernel
theorem dX11_swap_30 : decode cX11_swap 30 = .ok (.iload 4, 2) := by decide +kernel
theorem dX11_swap_32 : decode cX11_swap 32 = .ok (.aload_n 0, 1) := by decide +kernel
theorem dX11_swap_33 : decode cX11_swap 33 = .ok (.getfield 7, 3) := by decide +kernel
theorem dX11_swap_36 : decode cX11_swap 36 = .ok (.bipush 16, 2) := by decide +kernel
theorem dX11_swap_38 : decode cX11_swap 38 = .ok (.iaload, 1) := by decide +kernel
theorem dX11_swap_39 : decode cX11_swap 39 = .ok (.if_icmp .ge 71, 3) := by decide +kernel
theorem dX11_swap_42 : decode cX11_swap 42 = .ok (.aload_n 0, 1) := by decide +kernel
theorem dX11_swap_43 : decode cX11_swap 43 = .ok (.iload_n 3, 1) := by decide +kernel
theorem dX11_swap_44 : decode cX11_swap 44 = .ok (.invokevirtual 163, 3) := by decide +kernel
theorem dX11_swap_47 : decode cX11_swap 47 = .ok (.istore 5, 2) := by decide +kernel
theorem dX11_swap_49 : decode cX11_swap 49 = .ok (.aload_n 0, 1) := by decide +kernel
theorem dX11_swap_50 : decode cX11_swap 50 = .ok (.iload 4, 2) := by decide +kernel
theorem dX11_swap_52 : decode cX11_swap 52 = .ok (.invokevirtual 163, 3) := by decide +kernel
theorem dX11_swap_55 : decode cX11_swap 55 = .ok (.istore 6, 2) := by decide +kernel
theorem dX11_swap_57 : decode cX11_swap 57 = .ok (.iload 5, 2) := by decide +kernel
theorem dX11_swap_59 : decode cX11_swap 59 = .ok (.ifCond .lt 45, 3) := by decide +kernel
theorem dX11_swap_62 : decode cX11_swap 62 = .ok (.iload 6, 2) := by decide +kernel
theorem dX11_swap_64 : decode cX11_swap 64 = .ok (.ifCond .lt 40, 3) := by decide +kernel
theorem dX11_swap_67 : decode cX11_swap 67 = .ok (.aload_n 0, 1) := by decide +kernel
theorem dX11_swap_68 : decode cX11_swap 68 = .ok (.iload_n 3, 1) := by decide +kernel
theorem dX11_swap_69 : decode cX11_swap 69 = .ok (.iload 6, 2) := by decide +kernel
theorem dX11_swap_71 : decode cX11_swap 71 = .ok (.invokevirtual 229, 3) := by decide +kernel
theorem dX11_swap_74 : decode cX11_swap 74 = .ok (.ifCond .eq 30, 3) := by decide +kernel
theorem dX11_swap_77 : decode cX11_swap 77 = .ok (.aload_n 0, 1) := by decide +kernel
theorem dX11_swap_78 : decode cX11_swap 78 = .ok (.iload 4, 2) := by decide +kernel
theorem dX11_swap_80 : decode cX11_swap 80 = .ok (.iload 5, 2) := by decide +kernel
theorem dX11_swap_82 : decode cX11_swap 82 = .ok (.invokevirtual 229, 3) := by decide +kernel
theorem dX11_swap_85 : decode cX11_swap 85 = .ok (.ifCond .eq 19, 3) := by decide +kernel
theorem dX11_swap_88 : decode cX11_swap 88 = .ok (.iload_n 2, 1) := by decide +kernel
theorem dX11_swap_89 : decode cX11_swap 89 = .ok (.iload_n 1, 1) := by decide +kernel
theorem dX11_swap_90 : decode cX11_swap 90 = .ok (.if_icmp .ne 11, 3) := by decide +kernel
theorem dX11_swap_93 : decode cX11_swap 93 = .ok (.bipush 10, 2) := by decide +kernel
theorem dX11_swap_95 : decode cX11_swap 95 = .ok (.iload_n 3, 1) := by decide +kernel
theorem dX11_swap_96 : decode cX11_swap 96 = .ok (.imul, 1) := by decide +kernel
theorem dX11_swap_97 : decode cX11_swap 97 = .ok (.iload 4, 2) := by decide +kernel
theorem dX11_swap_99 : decode cX11_swap 99 = .ok (.iadd, 1) := by decide +kernel
theorem dX11_swap_100 : decode cX11_swap 100 = .ok (.ireturn, 1) := by decide +kernel
theorem dX11_swap_101 : decode cX11_swap 101 = .ok (.iinc 2 1, 3) := by decide +kernel
theorem dX11_swap_104 : decode cX11_swap 104 = .ok (.iinc 4 1, 3) := by decide +kernel
theorem dX11_swap_107 : decode cX11_swap 107 = .ok (.goto (-77), 3) := by decide +kernel
theorem dX11_swap_110 : decode cX11_swap 110 = .ok (.iinc 3 1, 3) := by decide +kernel
theorem dX11_swap_113 : decode cX11_swap 113 = .ok (.goto (-99), 3) := by decide +kernel
theorem dX11_swap_116 : decode cX11_swap 116 = .ok (.iload_n 1, 1) := by decide +kernel
theorem dX11_swap_117 : decode cX11_swap 117 = .ok (.ifCond .ge 7, 3) := by decide +kernel
theorem dX11_swap_120 : decode cX11_swap 120 = .ok (.iload_n 2, 1) := by decide +kernel
theorem dX11_swap_121 : decode cX11_swap 121 = .ok (.goto 5, 3) := by decide +kernel
theorem dX11_swap_124 : decode cX11_swap 124 = .ok (.bipush (-5), 2) := by decide +kernel
theorem dX11_swap_126 : decode cX11_swap 126 = .ok (.ireturn, 1) := by decide +kernel
def j_X11_swap_30_104 (M : gMem) (a1 : Int32) (a3 : Int32) (b2 : Int32) (b4 : Int32) : Option ((Int32 × Int32) ⊕ ((Int32 × Int32) ⊕ (Int32 × gMem))) := some (.inl (b2, b4 + 1))
def s_X11_swap_30 (M : gMem) (a1 : Int32) (a3 : Int32) (b2 : Int32) (b4 : Int32) : Option ((Int32 × Int32) ⊕ ((Int32 × Int32) ⊕ (Int32 × gMem))) := (if (M.1 0 60 16) ≤ b4 then some (.inr (.inl (b2, b4))) else Option.bind (x_X11_serverOf M a3) (fun v4 => Option.bind (x_X11_serverOf M b4) (fun v6 => (if v4 < 0 then j_X11_swap_30_104 M a1 a3 b2 b4 else (if v6 < 0 then j_X11_swap_30_104 M a1 a3 b2 b4 else Option.bind (x_X11_gains M a3 v6) (fun v10 => (if v10 = 0 then j_X11_swap_30_104 M a1 a3 b2 b4 else Option.bind (x_X11_gains M b4 v4) (fun v14 => (if v14 = 0 then j_X11_swap_30_104 M a1 a3 b2 b4 else (if b2 = a1 then some (.inr (.inr ((10 * a3) + b4, M))) else j_X11_swap_30_104 M a1 a3 (b2 + 1) b4))))))))))
def s_X11_swap_14 (M : gMem) (a1 : Int32) (b2 : Int32) (b3 : Int32) : Option ((Int32 × Int32) ⊕ ((Int32 × Int32) ⊕ (Int32 × gMem))) := (if (M.1 0 60 16) ≤ b3 then some (.inr (.inl (b2, b3))) else Option.bind (itr FU (fun s => s_X11_swap_30 M a1 b3 s.1 s.2) (b2, b3 + 1)) (fun e19 => Sum.elim (fun s20 => some (.inl (s20.1, b3 + 1))) (fun z21 => some (.inr (.inr z21))) e19))
def x_X11_swap (M : gMem) (p1 : Int32) : Option (Int32 × gMem) := (if (-1) ≤ p1 then Option.bind (itr FU (fun s => s_X11_swap_14 M p1 s.1 s.2) (0, 0)) (fun e22 => Sum.elim (fun s23 => (if 0 ≤ p1 then some ((-5), M) else some (s23.1, M))) (fun z25 => some z25) e22) else Option.bind (x_X11_badFar M) (fun v26 => some (v26.1, v26.2)))
set_option maxRecDepth 100000 in
set_option maxHeartbeats 4000000 in
theorem w_X11_swap_30 {X : gX} {Y : gY} {M : gMem} {a1 : Int32} {a3 : Int32} {r : (Int32 × gMem)} (hC : gC X Y cX11_swap "GuestStaffModel" 7 4 87) (hF : gF X Y (some .int) (gQi Y r)) {e : ((Int32 × Int32) ⊕ (Int32 × gMem))} (kE : ∀ s : (Int32 × Int32), e = .inl s → gWW X Y 7 110 [(0, .ref (gad Y 0 59)), (1, .int a1), (2, .int s.1), (3, .int a3)] [] M) (kR : ∀ z : (Int32 × gMem), e = .inr z → z = r) : ∀ (F : Nat) (s : (Int32 × Int32)), itr F (fun s => s_X11_swap_30 M a1 a3 s.1 s.2) s = some e → gWW X Y 7 30 [(0, .ref (gad Y 0 59)), (1, .int a1), (2, .int s.1), (3, .int a3), (4, .int s.2)] [] M := by
  intro F s
  refine itr_w (P := fun s => gWW X Y 7 30 [(0, .ref (gad Y 0 59)), (1, .int a1), (2, .int s.1), (3, .int a3), (4, .int s.2)] [] M) (fun s o hx kI kx => ?_) F s
  obtain ⟨b2, b4⟩ := s
  have hx : s_X11_swap_30 M a1 a3 b2 b4 = some o := hx
  have kE : ∀ s : (Int32 × Int32), o = .inr (.inl s) → gWW X Y 7 110 [(0, .ref (gad Y 0 59)), (1, .int a1), (2, .int s.1), (3, .int a3)] [] M := fun s q => kE s (kx _ q).symm
  have kR : ∀ z : (Int32 × gMem), o = .inr (.inr z) → z = r := fun z q => kR z (kx _ q).symm
  have J104 : ∀ (b2 : Int32) (b4 : Int32) , j_X11_swap_30_104 M a1 a3 b2 b4 = some o → gWW X Y 7 104 [(0, .ref (gad Y 0 59)), (1, .int a1), (2, .int b2), (3, .int a3), (4, .int b4)] [] M := by
    intro b2 b4 hx
    unfold j_X11_swap_30_104 at hx
    refine q_iinc hC 4 1 [(4, .int (b4 + 1)), (0, .ref (gad Y 0 59)), (1, .int a1), (2, .int b2), (3, .int a3)] dX11_swap_104 rfl rfl (by decide) rfl ?_
    refine q_goto hC 30 dX11_swap_107 rfl ?_
    exact q_sub [1, 2, 3, 4, 0] rfl (kI (b2, b4 + 1) (Option.some.inj hx).symm)
  unfold s_X11_swap_30 at hx
  refine q_iload hC 4 dX11_swap_30 rfl ?_
  refine q_aload_n hC 0 dX11_swap_32 rfl rfl ?_
  refine gf_X11_7 hC dX11_swap_33 ?_
  refine q_bipush hC 16 dX11_swap_36 rfl ?_
  refine q_ialdk hC 16 69 (gV_t (by decide) (by decide)) rfl (by decide) rfl dX11_swap_38 ?_
  refine q_ic_ge hC 110 dX11_swap_39 rfl (fun h3 => ?_) (fun h3 => ?_)
  · have hx := gi_p h3 hx
    exact q_sub [0, 1, 2, 3] rfl (kE (b2, b4) (Option.some.inj hx).symm)
  · have hx := gi_n h3 hx
    refine q_aload_n hC 0 dX11_swap_42 rfl rfl ?_
    refine q_iload_n hC 3 dX11_swap_43 rfl rfl ?_
    obtain ⟨v4, q5, hx⟩ := gb_e hx
    refine q_kip (q_rV (As := [.int a3]) (rest := []) hC mm_X11_serverOf wM_X11_163 (c_X11_serverOf q5) ⟨rfl, rfl, Nat.le_of_ble_eq_true rfl, Nat.le_of_ble_eq_true rfl⟩ (gV_t (by decide) (by decide)) rfl rfl rfl rfl (Nat.le_of_ble_eq_true rfl) dX11_swap_44) ?_
    refine q_istore hC [(5, .int v4), (0, .ref (gad Y 0 59)), (1, .int a1), (2, .int b2), (3, .int a3), (4, .int b4)] dX11_swap_47 (by decide) rfl ?_
    refine q_aload_n hC 1 dX11_swap_49 rfl rfl ?_
    refine q_iload hC 5 dX11_swap_50 rfl ?_
    obtain ⟨v6, q7, hx⟩ := gb_e hx
    refine q_kip (q_rV (As := [.int b4]) (rest := []) hC mm_X11_serverOf wM_X11_163 (c_X11_serverOf q7) ⟨rfl, rfl, Nat.le_of_ble_eq_true rfl, Nat.le_of_ble_eq_true rfl⟩ (gV_t (by decide) (by decide)) rfl rfl rfl rfl (Nat.le_of_ble_eq_true rfl) dX11_swap_52) ?_
    refine q_istore hC [(6, .int v6), (5, .int v4), (0, .ref (gad Y 0 59)), (1, .int a1), (2, .int b2), (3, .int a3), (4, .int b4)] dX11_swap_55 (by decide) rfl ?_
    refine q_iload hC 1 dX11_swap_57 rfl ?_
    refine q_if_lt hC 104 dX11_swap_59 rfl (fun h8 => ?_) (fun h8 => ?_)
    · have hx := gi_p h8 hx
      exact q_sub [2, 3, 4, 5, 6] rfl (J104 b2 b4 hx)
    · have hx := gi_n h8 hx
      refine q_iload hC 0 dX11_swap_62 rfl ?_
      refine q_if_lt hC 104 dX11_swap_64 rfl (fun h9 => ?_) (fun h9 => ?_)
      · have hx := gi_p h9 hx
        exact q_sub [2, 3, 4, 5, 6] rfl (J104 b2 b4 hx)
      · have hx := gi_n h9 hx
        refine q_aload_n hC 2 dX11_swap_67 rfl rfl ?_
        refine q_iload_n hC 5 dX11_swap_68 rfl rfl ?_
        refine q_iload hC 0 dX11_swap_69 rfl ?_
        obtain ⟨v10, q11, hx⟩ := gb_e hx
        refine q_kzp (q_rV (As := [.int a3, .int v6]) (rest := []) hC mm_X11_gains wM_X11_229 (c_X11_gains q11) ⟨rfl, rfl, Nat.le_of_ble_eq_true rfl, Nat.le_of_ble_eq_true rfl⟩ (gV_t (by decide) (by decide)) rfl rfl rfl rfl (Nat.le_of_ble_eq_true rfl) dX11_swap_71) (fun z12 => ?_)
        refine q_if_eq hC 104 dX11_swap_74 rfl (fun h13 => ?_) (fun h13 => ?_)
        · have hx := gi_p h13 hx
          exact q_sub [2, 3, 4, 5, 6] rfl (J104 b2 b4 hx)
        · have hx := gi_n h13 hx
          refine q_aload_n hC 2 dX11_swap_77 rfl rfl ?_
          refine q_iload hC 6 dX11_swap_78 rfl ?_
          refine q_iload hC 1 dX11_swap_80 rfl ?_
          obtain ⟨v14, q15, hx⟩ := gb_e hx
          refine q_kzp (q_rV (As := [.int b4, .int v4]) (rest := []) hC mm_X11_gains wM_X11_229 (c_X11_gains q15) ⟨rfl, rfl, Nat.le_of_ble_eq_true rfl, Nat.le_of_ble_eq_true rfl⟩ (gV_t (by decide) (by decide)) rfl rfl rfl rfl (Nat.le_of_ble_eq_true rfl) dX11_swap_82) (fun z16 => ?_)
          refine q_if_eq hC 104 dX11_swap_85 rfl (fun h17 => ?_) (fun h17 => ?_)
          · have hx := gi_p h17 hx
            exact q_sub [2, 3, 4, 5, 6] rfl (J104 b2 b4 hx)
          · have hx := gi_n h17 hx
            refine q_iload_n hC 4 dX11_swap_88 rfl rfl ?_
            refine q_iload_n hC 3 dX11_swap_89 rfl rfl ?_
            refine q_ic_ne hC 101 dX11_swap_90 rfl (fun h18 => ?_) (fun h18 => ?_)
            · have hx := gi_n h18 hx
              refine q_iinc hC 4 1 [(2, .int (b2 + 1)), (6, .int v6), (5, .int v4), (0, .ref (gad Y 0 59)), (1, .int a1), (3, .int a3), (4, .int b4)] dX11_swap_101 rfl rfl (by decide) rfl ?_
              exact q_sub [3, 4, 0, 5, 6] rfl (J104 (b2 + 1) b4 hx)
            · have hx := gi_p h18 hx
              refine q_bipush hC 10 dX11_swap_93 rfl ?_
              refine q_iload_n hC 5 dX11_swap_95 rfl rfl ?_
              refine q_imul hC dX11_swap_96 ?_
              refine q_iload hC 6 dX11_swap_97 rfl ?_
              refine q_iadd hC dX11_swap_99 ?_
              exact q_iret hC hF dX11_swap_100 (kR _ (Option.some.inj hx).symm)
set_option maxRecDepth 100000 in
set_option maxHeartbeats 4000000 in
theorem w_X11_swap_14 {X : gX} {Y : gY} {M : gMem} {a1 : Int32} {r : (Int32 × gMem)} (hC : gC X Y cX11_swap "GuestStaffModel" 7 4 87) (hF : gF X Y (some .int) (gQi Y r)) {e : ((Int32 × Int32) ⊕ (Int32 × gMem))} (kE : ∀ s : (Int32 × Int32), e = .inl s → gWW X Y 7 116 [(1, .int a1), (2, .int s.1)] [] M) (kR : ∀ z : (Int32 × gMem), e = .inr z → z = r) : ∀ (F : Nat) (s : (Int32 × Int32)), itr F (fun s => s_X11_swap_14 M a1 s.1 s.2) s = some e → gWW X Y 7 14 [(0, .ref (gad Y 0 59)), (1, .int a1), (2, .int s.1), (3, .int s.2)] [] M := by
  intro F s
  refine itr_w (P := fun s => gWW X Y 7 14 [(0, .ref (gad Y 0 59)), (1, .int a1), (2, .int s.1), (3, .int s.2)] [] M) (fun s o hx kI kx => ?_) F s
  obtain ⟨b2, b3⟩ := s
  have hx : s_X11_swap_14 M a1 b2 b3 = some o := hx
  have kE : ∀ s : (Int32 × Int32), o = .inr (.inl s) → gWW X Y 7 116 [(1, .int a1), (2, .int s.1)] [] M := fun s q => kE s (kx _ q).symm
  have kR : ∀ z : (Int32 × gMem), o = .inr (.inr z) → z = r := fun z q => kR z (kx _ q).symm
  unfold s_X11_swap_14 at hx
  refine q_iload_n hC 3 dX11_swap_14 rfl rfl ?_
  refine q_aload_n hC 0 dX11_swap_15 rfl rfl ?_
  refine gf_X11_7 hC dX11_swap_16 ?_
  refine q_bipush hC 16 dX11_swap_19 rfl ?_
  refine q_ialdk hC 16 69 (gV_t (by decide) (by decide)) rfl (by decide) rfl dX11_swap_21 ?_
  refine q_ic_ge hC 116 dX11_swap_22 rfl (fun h2 => ?_) (fun h2 => ?_)
  · have hx := gi_p h2 hx
    exact q_sub [1, 2] rfl (kE (b2, b3) (Option.some.inj hx).symm)
  · have hx := gi_n h2 hx
    refine q_iload_n hC 3 dX11_swap_25 rfl rfl ?_
    refine q_iconst hC 1 dX11_swap_26 rfl ?_
    refine q_iadd hC dX11_swap_27 ?_
    refine q_istore hC [(4, .int (b3 + 1)), (0, .ref (gad Y 0 59)), (1, .int a1), (2, .int b2), (3, .int b3)] dX11_swap_28 (by decide) rfl ?_
    obtain ⟨e19, qe19, hx⟩ := gb_e hx
    refine q_sub [1, 2, 3, 4, 0] rfl (w_X11_swap_30 hC hF (e := e19) (fun s20 qs20 => ?_) (fun z21 qz21 => ?_) _ _ qe19)
    · subst qs20
      refine q_iinc hC 3 1 [(3, .int (b3 + 1)), (0, .ref (gad Y 0 59)), (1, .int a1), (2, .int s20.1)] dX11_swap_110 rfl rfl (by decide) rfl ?_
      refine q_goto hC 14 dX11_swap_113 rfl ?_
      exact q_sub [1, 2, 3, 0] rfl (kI (s20.1, b3 + 1) (Option.some.inj hx).symm)
    · subst qz21
      exact kR _ (Option.some.inj hx).symm
set_option maxRecDepth 100000 in
set_option maxHeartbeats 4000000 in
theorem c_X11_swap {l : Launch} {Y : gY} {M : gMem} {p1 : Int32} {r : (Int32 × gMem)} (hx : x_X11_swap M p1 = some r) : Met l yX11_swap (gws yX11_swap cX11_swap 7 (some .int)) { frames := 4, cells := 0, slots := 0, locals := 87 } (va_Pc [.ref (gad Y 0 59), .int p1] (gS0 Y M)) (gQi Y r) 0 0 (gA Y) := by
  refine gmet (lv := [(0, .ref (gad Y 0 59)), (1, .int p1)]) "GuestStaffModel" (by decide) rfl (Nat.le_of_ble_eq_true rfl) rfl (fun X hC hF => ?_)
  unfold x_X11_swap at hx
  refine q_iload_n hC 1 dX11_swap_0 rfl rfl ?_
  refine q_iconst hC (-1) dX11_swap_1 rfl ?_
  refine q_ic_ge hC 10 dX11_swap_2 rfl (fun h1 => ?_) (fun h1 => ?_)
  · have hx := gi_p h1 hx
    refine q_iconst hC 0 dX11_swap_10 rfl ?_
    refine q_istore_n hC [(2, .int 0), (0, .ref (gad Y 0 59)), (1, .int p1)] dX11_swap_11 rfl (by decide) rfl ?_
    refine q_iconst hC 0 dX11_swap_12 rfl ?_
    refine q_istore_n hC [(3, .int 0), (2, .int 0), (0, .ref (gad Y 0 59)), (1, .int p1)] dX11_swap_13 rfl (by decide) rfl ?_
    obtain ⟨e22, qe22, hx⟩ := gb_e hx
    refine q_sub [2, 3, 1, 0] rfl (w_X11_swap_14 hC hF (e := e22) (fun s23 qs23 => ?_) (fun z25 qz25 => ?_) _ _ qe22)
    · subst qs23
      refine q_iload_n hC 0 dX11_swap_116 rfl rfl ?_
      refine q_if_ge hC 124 dX11_swap_117 rfl (fun h24 => ?_) (fun h24 => ?_)
      · have hx := gi_p h24 hx
        refine q_bipush hC (-5) dX11_swap_124 rfl ?_
        exact q_iret hC hF dX11_swap_126 (Option.some.inj hx)
      · have hx := gi_n h24 hx
        refine q_iload_n hC 1 dX11_swap_120 rfl rfl ?_
        refine q_goto hC 126 dX11_swap_121 rfl ?_
        exact q_iret hC hF dX11_swap_126 (Option.some.inj hx)
    · subst qz25
      exact Option.some.inj hx
  · have hx := gi_n h1 hx
    refine q_aload_n hC 0 dX11_swap_5 rfl rfl ?_
    obtain ⟨v26, q27, hx⟩ := gb_e hx
    refine q_ki (q_rV (As := []) (rest := []) hC mm_X11_badFar wM_X11_89 (c_X11_badFar q27) ⟨rfl, rfl, Nat.le_of_ble_eq_true rfl, Nat.le_of_ble_eq_true rfl⟩ (gV_t (by decide) (by decide)) rfl rfl rfl rfl (Nat.le_of_ble_eq_true rfl) dX11_swap_6) ?_
    exact q_iret hC hF dX11_swap_9 (Option.some.inj hx)

theorem dX11_takeIn_0 : decode cX11_takeIn 0 = .ok (.iload_n 1, 1) := by decide +kernel
theorem dX11_takeIn_1 : decode cX11_takeIn 1 = .ok (.i2l, 1) := by decide +kernel
theorem dX11_takeIn_2 : decode cX11_takeIn 2 = .ok (.lconst 0, 1) := by decide +kernel
theorem dX11_takeIn_3 : decode cX11_takeIn 3 = .ok (.ldc2_w 72, 3) := by decide +kernel
theorem dX11_takeIn_6 : decode cX11_takeIn 6 = .ok (.invokestatic 57, 3) := by decide +kernel
theorem dX11_takeIn_9 : decode cX11_takeIn 9 = .ok (.ifCond .ne 8, 3) := by decide +kernel
theorem dX11_takeIn_12 : decode cX11_takeIn 12 = .ok (.aload_n 0, 1) := by decide +kernel
theorem dX11_takeIn_13 : decode cX11_takeIn 13 = .ok (.invokevirtual 74, 3) := by decide +kernel
theorem dX11_takeIn_16 : decode cX11_takeIn 16 = .ok (.ireturn, 1) := by decide +kernel
theorem dX11_takeIn_17 : decode cX11_takeIn 17 = .ok (.aload_n 0, 1) := by decide +kernel
theorem dX11_takeIn_18 : decode cX11_takeIn 18 = .ok (.getfield 7, 3) := by decide +kernel
theorem dX11_takeIn_21 : decode cX11_takeIn 21 = .ok (.bipush 16, 2) := by decide +kernel
theorem dX11_takeIn_23 : decode cX11_takeIn 23 = .ok (.iaload, 1) := by decide +kernel
theorem dX11_takeIn_24 : decode cX11_takeIn 24 = .ok (.bipush 7, 2) := by decide +kernel
theorem dX11_takeIn_26 : decode cX11_takeIn 26 = .ok (.if_icmp .ne 8, 3) := by decide +kernel
theorem dX11_takeIn_29 : decode cX11_takeIn 29 = .ok (.aload_n 0, 1) := by decide +kernel
theorem dX11_takeIn_30 : decode cX11_takeIn 30 = .ok (.invokevirtual 175, 3) := by decide +kernel
theorem dX11_takeIn_33 : decode cX11_takeIn 33 = .ok (.ireturn, 1) := by decide +kernel
theorem dX11_takeIn_34 : decode cX11_takeIn 34 = .ok (.aload_n 0, 1) := by decide +kernel
theorem dX11_takeIn_35 : decode cX11_takeIn 35 = .ok (.getfield 7, 3) := by decide +kernel
theorem dX11_takeIn_38 : decode cX11_takeIn 38 = .ok (.bipush 16, 2) := by decide +kernel
theorem dX11_takeIn_40 : decode cX11_takeIn 40 = .ok (.iaload, 1) := by decide +kernel
theorem dX11_takeIn_41 : decode cX11_takeIn 41 = .ok (.istore_n 2, 1) := by decide +kernel
theorem dX11_takeIn_42 : decode cX11_takeIn 42 = .ok (.iconst 0, 1) := by decide +kernel
theorem dX11_takeIn_43 : decode cX11_takeIn 43 = .ok (.istore_n 3, 1) := by decide +kernel
theorem dX11_takeIn_44 : decode cX11_takeIn 44 = .ok (.aload_n 0, 1) := by decide +kernel
theorem dX11_takeIn_45 : decode cX11_takeIn 45 = .ok (.getfield 7, 3) := by decide +kernel
theorem dX11_takeIn_48 : decode cX11_takeIn 48 = .ok (.bipush 31, 2) := by decide +kernel
theorem dX11_takeIn_50 : decode cX11_takeIn 50 = .ok (.iload_n 2, 1) := by decide +kernel
theorem dX11_takeIn_51 : decode cX11_takeIn 51 = .ok (.iadd, 1) := by decide +kernel
theorem dX11_takeIn_52 : decode cX11_takeIn 52 = .ok (.iload_n 1, 1) := by decide +kernel
theorem dX11_takeIn_53 : decode cX11_takeIn 53 = .ok (.iastore, 1) := by decide +kernel
theorem dX11_takeIn_54 : decode cX11_takeIn 54 = .ok (.aload_n 0, 1) := by decide +kernel
theorem dX11_takeIn_55 : decode cX11_takeIn 55 = .ok (.getfield 7, 3) := by decide +kernel
theorem dX11_takeIn_58 : decode cX11_takeIn 58 = .ok (.bipush 16, 2) := by decide +kernel
theorem dX11_takeIn_60 : decode cX11_takeIn 60 = .ok (.dup2, 1) := by decide +kernel
theorem dX11_takeIn_61 : decode cX11_takeIn 61 = .ok (.iaload, 1) := by decide +kernel
theorem dX11_takeIn_62 : decode cX11_takeIn 62 = .ok (.iconst 1, 1) := by decide +kernel
theorem dX11_takeIn_63 : decode cX11_takeIn 63 = .ok (.iadd, 1) := by decide +kernel
theorem dX11_takeIn_64 : decode cX11_takeIn 64 = .ok (.iastore, 1) := by decide +kernel
theorem dX11_takeIn_65 : decode cX11_takeIn 65 = .ok (.iconst 0, 1) := by decide +kernel
theorem dX11_takeIn_66 : decode cX11_takeIn 66 = .ok (.istore 4, 2) := by decide +kernel
theorem dX11_takeIn_68 : decode cX11_takeIn 68 = .ok (.iload 4, 2) := by decide +kernel
theorem dX11_takeIn_70 : decode cX11_takeIn 70 = .ok (.bipush 8, 2) := by decide +kernel
theorem dX11_takeIn_72 : decode cX11_takeIn 72 = .ok (.if_icmp .ge 42, 3) := by decide +kernel
theorem dX11_takeIn_75 : decode cX11_takeIn 75 = .ok (.aload_n 0, 1) := by decide +kernel
theorem dX11_takeIn_76 : decode cX11_takeIn 76 = .ok (.getfield 7, 3) := by decide +kernel
theorem dX11_takeIn_79 : decode cX11_takeIn 79 = .ok (.bipush 24, 2) := by decide +kernel
theorem dX11_takeIn_81 : decode cX11_takeIn 81 = .ok (.iload_n 2, 1) := by decide +kernel
theorem dX11_takeIn_82 : decode cX11_takeIn 82 = .ok (.iadd, 1) := by decide +kernel
theorem dX11_takeIn_83 : decode cX11_takeIn 83 = .ok (.iload 4, 2) := by decide +kernel
theorem dX11_takeIn_85 : decode cX11_takeIn 85 = .ok (.iastore, 1) := by decide +kernel
theorem dX11_takeIn_86 : decode cX11_takeIn 86 = .ok (.iload_n 3, 1) := by decide +kernel
theorem dX11_takeIn_87 : decode cX11_takeIn 87 = .ok (.aload_n 0, 1) := by decide +kernel
theorem dX11_takeIn_88 : decode cX11_takeIn 88 = .ok (.aload_n 0, 1) := by decide +kernel
theorem dX11_takeIn_89 : decode cX11_takeIn 89 = .ok (.invokevirtual 189, 3) := by decide +kernel
theorem dX11_takeIn_92 : decode cX11_takeIn 92 = .ok (.invokevirtual 226, 3) := by decide +kernel
theorem dX11_takeIn_95 : decode cX11_takeIn 95 = .ok (.ifCond .eq 10, 3) := by decide +kernel
theorem dX11_takeIn_98 : decode cX11_takeIn 98 = .ok (.iconst 1, 1) := by decide +kernel
theorem dX11_takeIn_99 : decode cX11_takeIn 99 = .ok (.iload 4, 2) := by decide +kernel
theorem dX11_takeIn_101 : decode cX11_takeIn 101 = .ok (.ishl, 1) := by decide +kernel
theorem dX11_takeIn_102 : decode cX11_takeIn 102 = .ok (.goto 4, 3) := by decide +kernel
theorem dX11_takeIn_105 : decode cX11_takeIn 105 = .ok (.iconst 0, 1) := by decide +kernel
theorem dX11_takeIn_106 : decode cX11_takeIn 106 = .ok (.ior, 1) := by decide +kernel
theorem dX11_takeIn_107 : decode cX11_takeIn 107 = .ok (.istore_n 3, 1) := by decide +kernel
theorem dX11_takeIn_108 : decode cX11_takeIn 108 = .ok (.iinc 4 1, 3) := by decide +kernel
theorem dX11_takeIn_111 : decode cX11_takeIn 111 = .ok (.goto (-43), 3) := by decide +kernel
theorem dX11_takeIn_114 : decode cX11_takeIn 114 = .ok (.aload_n 0, 1) := by decide +kernel
theorem dX11_takeIn_115 : decode cX11_takeIn 115 = .ok (.getfield 7, 3) := by decide +kernel
theorem dX11_takeIn_118 : decode cX11_takeIn 118 = .ok (.bipush 31, 2) := by decide +kernel
theorem dX11_takeIn_120 : decode cX11_takeIn 120 = .ok (.iload_n 2, 1) := by decide +kernel
theorem dX11_takeIn_121 : decode cX11_takeIn 121 = .ok (.iadd, 1) := by decide +kernel
theorem dX11_takeIn_122 : decode cX11_takeIn 122 = .ok (.iconst 0, 1) := by decide +kernel
theorem dX11_takeIn_123 : decode cX11_takeIn 123 = .ok (.iastore, 1) := by decide +kernel
theorem dX11_takeIn_124 : decode cX11_takeIn 124 = .ok (.aload_n 0, 1) := by decide +kernel
theorem dX11_takeIn_125 : decode cX11_takeIn 125 = .ok (.getfield 7, 3) := by decide +kernel
theorem dX11_takeIn_128 : decode cX11_takeIn 128 = .ok (.bipush 24, 2) := by decide +kernel
theorem dX11_takeIn_130 : decode cX11_takeIn 130 = .ok (.iload_n 2, 1) := by decide +kernel
theorem dX11_takeIn_131 : decode cX11_takeIn 131 = .ok (.iadd, 1) := by decide +kernel
theorem dX11_takeIn_132 : decode cX11_takeIn 132 = .ok (.iconst 0, 1) := by decide +kernel
theorem dX11_takeIn_133 : decode cX11_takeIn 133 = .ok (.iastore, 1) := by decide +kernel
theorem dX11_takeIn_134 : decode cX11_takeIn 134 = .ok (.aload_n 0, 1) := by decide +kernel
theorem dX11_takeIn_135 : decode cX11_takeIn 135 = .ok (.getfield 7, 3) := by decide +kernel
theorem dX11_takeIn_138 : decode cX11_takeIn 138 = .ok (.bipush 16, 2) := by decide +kernel
theorem dX11_takeIn_140 : decode cX11_takeIn 140 = .ok (.iload_n 2, 1) := by decide +kernel
theorem dX11_takeIn_141 : decode cX11_takeIn 141 = .ok (.iastore, 1) := by decide +kernel
theorem dX11_takeIn_142 : decode cX11_takeIn 142 = .ok (.iload_n 3, 1) := by decide +kernel
theorem dX11_takeIn_143 : decode cX11_takeIn 143 = .ok (.ireturn, 1) := by decide +kernel
def j_X11_takeIn_68_106 (a2 : Int32) (N : gMem) (b4 : Int32) (t0 : Int32) (t1 : Int32) : Option ((Int32 × Int32 × gMem) ⊕ (Int32 × Int32 × gMem)) := some (.inl (t1 ||| t0, b4 + 1, N))
def s_X11_takeIn_68 (a2 : Int32) (b3 : Int32) (b4 : Int32) (N : gMem) : Option ((Int32 × Int32 × gMem) ⊕ (Int32 × Int32 × gMem)) := (if 8 ≤ b4 then some (.inr (b3, b4, N)) else gd (gin (24 + a2) 70) (Option.bind (x_X11_everybody (gwr N 0 60 (24 + a2).toNatClampNeg b4)) (fun v9 => Option.bind (x_X11_closes (gwr N 0 60 (24 + a2).toNatClampNeg b4) v9) (fun v11 => (if v11.1 = 0 then j_X11_takeIn_68_106 a2 v11.2 b4 0 b3 else j_X11_takeIn_68_106 a2 v11.2 b4 (1 <<< (b4 &&& 31)) b3)))))
def x_X11_takeIn (M : gMem) (p1 : Int32) : Option (Int32 × gMem) := Option.bind (x_X11_in (Int32.toInt64 p1) 0 255) (fun v1 => (if v1 = 0 then Option.bind (x_X11_bad M) (fun v20 => some (v20.1, v20.2)) else (if (M.1 0 60 16) = 7 then Option.bind (x_X11_no M) (fun v18 => some (v18.1, v18.2)) else gd (gin (31 + (M.1 0 60 16)) 70) (Option.bind (itr FU (fun s => s_X11_takeIn_68 (M.1 0 60 16) s.1 s.2.1 s.2.2) (0, 0, gwr (gwr M 0 60 (31 + (M.1 0 60 16)).toNatClampNeg p1) 0 60 16 (((gwr M 0 60 (31 + (M.1 0 60 16)).toNatClampNeg p1).1 0 60 16) + 1))) (fun e15 => gd (gin (31 + (M.1 0 60 16)) 70) (gd (gin (24 + (M.1 0 60 16)) 70) (some (e15.1, gwr (gwr (gwr e15.2.2 0 60 (31 + (M.1 0 60 16)).toNatClampNeg 0) 0 60 (24 + (M.1 0 60 16)).toNatClampNeg 0) 0 60 16 (M.1 0 60 16)))))))))
set_option maxRecDepth 100000 in
set_option maxHeartbeats 4000000 in
theorem w_X11_takeIn_68 {X : gX} {Y : gY} {a2 : Int32} {r : (Int32 × gMem)} (hC : gC X Y cX11_takeIn "GuestStaffModel" 5 4 95) (hF : gF X Y (some .int) (gQi Y r)) {e : (Int32 × Int32 × gMem)} (kE : ∀ s : (Int32 × Int32 × gMem), e = s → gWW X Y 5 114 [(0, .ref (gad Y 0 59)), (2, .int a2), (3, .int s.1)] [] s.2.2) : ∀ (F : Nat) (s : (Int32 × Int32 × gMem)), itr F (fun s => s_X11_takeIn_68 a2 s.1 s.2.1 s.2.2) s = some e → gWW X Y 5 68 [(0, .ref (gad Y 0 59)), (2, .int a2), (3, .int s.1), (4, .int s.2.1)] [] s.2.2 := by
  intro F s
  refine itr_w (P := fun s => gWW X Y 5 68 [(0, .ref (gad Y 0 59)), (2, .int a2), (3, .int s.1), (4, .int s.2.1)] [] s.2.2) (fun s o hx kI kx => ?_) F s
  obtain ⟨b3, b4, N⟩ := s
  have hx : s_X11_takeIn_68 a2 b3 b4 N = some o := hx
  have kE : ∀ s : (Int32 × Int32 × gMem), o = .inr s → gWW X Y 5 114 [(0, .ref (gad Y 0 59)), (2, .int a2), (3, .int s.1)] [] s.2.2 := fun s q => kE s (kx _ q).symm
  have J106 : ∀ (N : gMem) (b4 : Int32) (t0 : Int32) (t1 : Int32) , j_X11_takeIn_68_106 a2 N b4 t0 t1 = some o → gWW X Y 5 106 [(0, .ref (gad Y 0 59)), (2, .int a2), (4, .int b4)] [.int t0, .int t1] N := by
    intro N b4 t0 t1 hx
    unfold j_X11_takeIn_68_106 at hx
    refine q_ior hC dX11_takeIn_106 ?_
    refine q_istore_n hC [(3, .int (t1 ||| t0)), (0, .ref (gad Y 0 59)), (2, .int a2), (4, .int b4)] dX11_takeIn_107 rfl (by decide) rfl ?_
    refine q_iinc hC 3 1 [(4, .int (b4 + 1)), (3, .int (t1 ||| t0)), (0, .ref (gad Y 0 59)), (2, .int a2)] dX11_takeIn_108 rfl rfl (by decide) rfl ?_
    refine q_goto hC 68 dX11_takeIn_111 rfl ?_
    exact q_sub [2, 3, 1, 0] rfl (kI (t1 ||| t0, b4 + 1, N) (Option.some.inj hx).symm)
  unfold s_X11_takeIn_68 at hx
  refine q_iload hC 3 dX11_takeIn_68 rfl ?_
  refine q_bipush hC 8 dX11_takeIn_70 rfl ?_
  refine q_ic_ge hC 114 dX11_takeIn_72 rfl (fun h7 => ?_) (fun h7 => ?_)
  · have hx := gi_p h7 hx
    exact q_sub [0, 1, 2] rfl (kE (b3, b4, N) (Option.some.inj hx).symm)
  · have hx := gi_n h7 hx
    refine q_aload_n hC 0 dX11_takeIn_75 rfl rfl ?_
    refine gf_X11_7 hC dX11_takeIn_76 ?_
    refine q_bipush hC 24 dX11_takeIn_79 rfl ?_
    refine q_iload_n hC 1 dX11_takeIn_81 rfl rfl ?_
    refine q_iadd hC dX11_takeIn_82 ?_
    refine q_iload hC 3 dX11_takeIn_83 rfl ?_
    have g8 := (gd_e hx).1
    have hx := (gd_e hx).2
    refine q_iast hC 69 (gV_t (by decide) (by decide)) rfl g8 dX11_takeIn_85 ?_
    refine q_iload_n hC 2 dX11_takeIn_86 rfl rfl ?_
    refine q_aload_n hC 0 dX11_takeIn_87 rfl rfl ?_
    refine q_aload_n hC 0 dX11_takeIn_88 rfl rfl ?_
    obtain ⟨v9, q10, hx⟩ := gb_e hx
    refine q_kip (q_rV (As := []) (rest := [.ref (gad Y 0 59), .int b3]) hC mm_X11_everybody wM_X11_189 (c_X11_everybody q10) ⟨rfl, rfl, Nat.le_of_ble_eq_true rfl, Nat.le_of_ble_eq_true rfl⟩ (gV_t (by decide) (by decide)) rfl rfl rfl rfl (Nat.le_of_ble_eq_true rfl) dX11_takeIn_89) ?_
    obtain ⟨v11, q12, hx⟩ := gb_e hx
    refine q_kz (q_rV (As := [.int v9]) (rest := [.int b3]) hC mm_X11_closes wM_X11_226 (c_X11_closes q12) ⟨rfl, rfl, Nat.le_of_ble_eq_true rfl, Nat.le_of_ble_eq_true rfl⟩ (gV_t (by decide) (by decide)) rfl rfl rfl rfl (Nat.le_of_ble_eq_true rfl) dX11_takeIn_92) (fun z13 => ?_)
    refine q_if_eq hC 105 dX11_takeIn_95 rfl (fun h14 => ?_) (fun h14 => ?_)
    · have hx := gi_p h14 hx
      refine q_iconst hC 0 dX11_takeIn_105 rfl ?_
      exact q_sub [0, 1, 3] rfl (J106 v11.2 b4 0 b3 hx)
    · have hx := gi_n h14 hx
      refine q_iconst hC 1 dX11_takeIn_98 rfl ?_
      refine q_iload hC 3 dX11_takeIn_99 rfl ?_
      refine q_ishl hC dX11_takeIn_101 ?_
      refine q_goto hC 106 dX11_takeIn_102 rfl ?_
      exact q_sub [0, 1, 3] rfl (J106 v11.2 b4 (1 <<< (b4 &&& 31)) b3 hx)
set_option maxRecDepth 100000 in
set_option maxHeartbeats 4000000 in
theorem c_X11_takeIn {l : Launch} {Y : gY} {M : gMem} {p1 : Int32} {r : (Int32 × gMem)} (hx : x_X11_takeIn M p1 = some r) : Met l yX11_takeIn (gws yX11_takeIn cX11_takeIn 5 (some .int)) { frames := 4, cells := 0, slots := 0, locals := 95 } (va_Pc [.ref (gad Y 0 59), .int p1] (gS0 Y M)) (gQi Y r) 0 0 (gA Y) := by
  refine gmet (lv := [(0, .ref (gad Y 0 59)), (1, .int p1)]) "GuestStaffModel" (by decide) rfl (Nat.le_of_ble_eq_true rfl) rfl (fun X hC hF => ?_)
  unfold x_X11_takeIn at hx
  refine q_iload_n hC 1 dX11_takeIn_0 rfl rfl ?_
  refine q_i2l hC dX11_takeIn_1 ?_
  refine q_lconst hC 0 dX11_takeIn_2 rfl ?_
  refine q_ldc2 hC 255 dX11_takeIn_3 wC_X11_72 ?_
  obtain ⟨v1, q2, hx⟩ := gb_e hx
  refine q_kzp (q_rS (As := [.long (Int32.toInt64 p1), .long 0, .long 255]) (rest := []) hC mm_X11_in wM_X11_57 (c_X11_in q2) ⟨rfl, rfl, Nat.le_of_ble_eq_true rfl, Nat.le_of_ble_eq_true rfl⟩ rfl rfl (Nat.le_of_ble_eq_true rfl) dX11_takeIn_6) (fun z3 => ?_)
  refine q_if_ne hC 17 dX11_takeIn_9 rfl (fun h4 => ?_) (fun h4 => ?_)
  · have hx := gi_n h4 hx
    refine q_aload_n hC 0 dX11_takeIn_17 rfl rfl ?_
    refine gf_X11_7 hC dX11_takeIn_18 ?_
    refine q_bipush hC 16 dX11_takeIn_21 rfl ?_
    refine q_ialdk hC 16 69 (gV_t (by decide) (by decide)) rfl (by decide) rfl dX11_takeIn_23 ?_
    refine q_bipush hC 7 dX11_takeIn_24 rfl ?_
    refine q_ic_ne hC 34 dX11_takeIn_26 rfl (fun h5 => ?_) (fun h5 => ?_)
    · have hx := gi_n h5 hx
      refine q_aload_n hC 0 dX11_takeIn_34 rfl rfl ?_
      refine gf_X11_7 hC dX11_takeIn_35 ?_
      refine q_bipush hC 16 dX11_takeIn_38 rfl ?_
      refine q_ialdk hC 16 69 (gV_t (by decide) (by decide)) rfl (by decide) rfl dX11_takeIn_40 ?_
      refine q_istore_n hC [(2, .int (M.1 0 60 16)), (0, .ref (gad Y 0 59)), (1, .int p1)] dX11_takeIn_41 rfl (by decide) rfl ?_
      refine q_iconst hC 0 dX11_takeIn_42 rfl ?_
      refine q_istore_n hC [(3, .int 0), (2, .int (M.1 0 60 16)), (0, .ref (gad Y 0 59)), (1, .int p1)] dX11_takeIn_43 rfl (by decide) rfl ?_
      refine q_aload_n hC 2 dX11_takeIn_44 rfl rfl ?_
      refine gf_X11_7 hC dX11_takeIn_45 ?_
      refine q_bipush hC 31 dX11_takeIn_48 rfl ?_
      refine q_iload_n hC 1 dX11_takeIn_50 rfl rfl ?_
      refine q_iadd hC dX11_takeIn_51 ?_
      refine q_iload_n hC 3 dX11_takeIn_52 rfl rfl ?_
      have g6 := (gd_e hx).1
      have hx := (gd_e hx).2
      refine q_iast hC 69 (gV_t (by decide) (by decide)) rfl g6 dX11_takeIn_53 ?_
      refine q_aload_n hC 2 dX11_takeIn_54 rfl rfl ?_
      refine gf_X11_7 hC dX11_takeIn_55 ?_
      refine q_bipush hC 16 dX11_takeIn_58 rfl ?_
      refine q_dup2 hC dX11_takeIn_60 rfl rfl ?_
      refine q_ialdk hC 16 69 (gV_t (by decide) (by decide)) rfl (by decide) rfl dX11_takeIn_61 ?_
      refine q_iconst hC 1 dX11_takeIn_62 rfl ?_
      refine q_iadd hC dX11_takeIn_63 ?_
      refine q_iastk hC 16 69 (gV_t (by decide) (by decide)) rfl (by decide) rfl dX11_takeIn_64 ?_
      refine q_iconst hC 0 dX11_takeIn_65 rfl ?_
      refine q_istore hC [(4, .int 0), (3, .int 0), (2, .int (M.1 0 60 16)), (0, .ref (gad Y 0 59)), (1, .int p1)] dX11_takeIn_66 (by decide) rfl ?_
      obtain ⟨e15, qe15, hx⟩ := gb_e hx
      refine q_sub [3, 2, 1, 0] rfl (w_X11_takeIn_68 hC hF (e := e15) (fun s q => ?_) _ _ qe15)
      · subst q
        refine q_aload_n hC 0 dX11_takeIn_114 rfl rfl ?_
        refine gf_X11_7 hC dX11_takeIn_115 ?_
        refine q_bipush hC 31 dX11_takeIn_118 rfl ?_
        refine q_iload_n hC 1 dX11_takeIn_120 rfl rfl ?_
        refine q_iadd hC dX11_takeIn_121 ?_
        refine q_iconst hC 0 dX11_takeIn_122 rfl ?_
        have g16 := (gd_e hx).1
        have hx := (gd_e hx).2
        refine q_iast hC 69 (gV_t (by decide) (by decide)) rfl g16 dX11_takeIn_123 ?_
        refine q_aload_n hC 0 dX11_takeIn_124 rfl rfl ?_
        refine gf_X11_7 hC dX11_takeIn_125 ?_
        refine q_bipush hC 24 dX11_takeIn_128 rfl ?_
        refine q_iload_n hC 1 dX11_takeIn_130 rfl rfl ?_
        refine q_iadd hC dX11_takeIn_131 ?_
        refine q_iconst hC 0 dX11_takeIn_132 rfl ?_
        have g17 := (gd_e hx).1
        have hx := (gd_e hx).2
        refine q_iast hC 69 (gV_t (by decide) (by decide)) rfl g17 dX11_takeIn_133 ?_
        refine q_aload_n hC 0 dX11_takeIn_134 rfl rfl ?_
        refine gf_X11_7 hC dX11_takeIn_135 ?_
        refine q_bipush hC 16 dX11_takeIn_138 rfl ?_
        refine q_iload_n hC 1 dX11_takeIn_140 rfl rfl ?_
        refine q_iastk hC 16 69 (gV_t (by decide) (by decide)) rfl (by decide) rfl dX11_takeIn_141 ?_
        refine q_iload_n hC 2 dX11_takeIn_142 rfl rfl ?_
        exact q_iret hC hF dX11_takeIn_143 (Option.some.inj hx)
    · have hx := gi_p h5 hx
      refine q_aload_n hC 0 dX11_takeIn_29 rfl rfl ?_
      obtain ⟨v18, q19, hx⟩ := gb_e hx
      refine q_ki (q_rV (As := []) (rest := []) hC mm_X11_no wM_X11_175 (c_X11_no q19) ⟨rfl, rfl, Nat.le_of_ble_eq_true rfl, Nat.le_of_ble_eq_true rfl⟩ (gV_t (by decide) (by decide)) rfl rfl rfl rfl (Nat.le_of_ble_eq_true rfl) dX11_takeIn_30) ?_
      exact q_iret hC hF dX11_takeIn_33 (Option.some.inj hx)
  · have hx := gi_p h4 hx
    refine q_aload_n hC 0 dX11_takeIn_12 rfl rfl ?_
    obtain ⟨v20, q21, hx⟩ := gb_e hx
    refine q_ki (q_rV (As := []) (rest := []) hC mm_X11_bad wM_X11_74 (c_X11_bad q21) ⟨rfl, rfl, Nat.le_of_ble_eq_true rfl, Nat.le_of_ble_eq_true rfl⟩ (gV_t (by decide) (by decide)) rfl rfl rfl rfl (Nat.le_of_ble_eq_true rfl) dX11_takeIn_13) ?_
    exact q_iret hC hF dX11_takeIn_16 (Option.some.inj hx)

theorem dX11_note_0 : decode cX11_note 0 = .ok (.aload_n 0, 1) := by decide +kernel
theorem dX11_note_1 : decode cX11_note 1 = .ok (.iload_n 1, 1) := by decide +kernel
theorem dX11_note_2 : decode cX11_note 2 = .ok (.invokevirtual 85, 3) := by decide +kernel
theorem dX11_note_5 : decode cX11_note 5 = .ok (.ifCond .eq 53, 3) := by decide +kernel
theorem dX11_note_8 : decode cX11_note 8 = .ok (.iload_n 2, 1) := by decide +kernel
theorem dX11_note_9 : decode cX11_note 9 = .ok (.i2l, 1) := by decide +kernel
theorem dX11_note_10 : decode cX11_note 10 = .ok (.lconst 0, 1) := by decide +kernel
theorem dX11_note_11 : decode cX11_note 11 = .ok (.ldc2_w 68, 3) := by decide +kernel
theorem dX11_note_14 : decode cX11_note 14 = .ok (.invokestatic 57, 3) := by decide +kernel
theorem dX11_note_17 : decode cX11_note 17 = .ok (.ifCond .eq 41, 3) := by decide +kernel
theorem dX11_note_20 : decode cX11_note 20 = .ok (.iload_n 3, 1) := by decide +kernel
theorem dX11_note_21 : decode cX11_note 21 = .ok (.i2l, 1) := by decide +kernel
theorem dX11_note_22 : decode cX11_note 22 = .ok (.lconst 0, 1) := by decide +kernel
theorem dX11_note_23 : decode cX11_note 23 = .ok (.ldc2_w 70, 3) := by decide +kernel
theorem dX11_note_26 : decode cX11_note 26 = .ok (.invokestatic 57, 3) := by decide +kernel
theorem dX11_note_29 : decode cX11_note 29 = .ok (.ifCond .eq 29, 3) := by decide +kernel
theorem dX11_note_32 : decode cX11_note 32 = .ok (.iload 4, 2) := by decide +kernel
theorem dX11_note_34 : decode cX11_note 34 = .ok (.i2l, 1) := by decide +kernel
theorem dX11_note_35 : decode cX11_note 35 = .ok (.lconst 0, 1) := by decide +kernel
theorem dX11_note_36 : decode cX11_note 36 = .ok (.ldc2_w 232, 3) := by decide +kernel
theorem dX11_note_39 : decode cX11_note 39 = .ok (.invokestatic 57, 3) := by decide +kernel
theorem dX11_note_42 : decode cX11_note 42 = .ok (.ifCond .eq 16, 3) := by decide +kernel
theorem dX11_note_45 : decode cX11_note 45 = .ok (.iload 5, 2) := by decide +kernel
theorem dX11_note_47 : decode cX11_note 47 = .ok (.i2l, 1) := by decide +kernel
theorem dX11_note_48 : decode cX11_note 48 = .ok (.lconst 0, 1) := by decide +kernel
theorem dX11_note_49 : decode cX11_note 49 = .ok (.ldc2_w 234, 3) := by decide +kernel
theorem dX11_note_52 : decode cX11_note 52 = .ok (.invokestatic 57, 3) := by decide +kernel
theorem dX11_note_55 : decode cX11_note 55 = .ok (.ifCond .ne 8, 3) := by decide +kernel
theorem dX11_note_58 : decode cX11_note 58 = .ok (.aload_n 0, 1) := by decide +kernel
theorem dX11_note_59 : decode cX11_note 59 = .ok (.invokevirtual 74, 3) := by decide +kernel
theorem dX11_note_62 : decode cX11_note 62 = .ok (.ireturn, 1) := by decide +kernel
theorem dX11_note_63 : decode cX11_note 63 = .ok (.aload_n 0, 1) := by decide +kernel
theorem dX11_note_64 : decode cX11_note 64 = .ok (.getfield 7, 3) := by decide +kernel
theorem dX11_note_67 : decode cX11_note 67 = .ok (.bipush 38, 2) := by decide +kernel
theorem dX11_note_69 : decode cX11_note 69 = .ok (.iaload, 1) := by decide +kernel
theorem dX11_note_70 : decode cX11_note 70 = .ok (.bipush 6, 2) := by decide +kernel
theorem dX11_note_72 : decode cX11_note 72 = .ok (.if_icmp .ne 8, 3) := by decide +kernel
theorem dX11_note_75 : decode cX11_note 75 = .ok (.aload_n 0, 1) := by decide +kernel
theorem dX11_note_76 : decode cX11_note 76 = .ok (.invokevirtual 78, 3) := by decide +kernel
theorem dX11_note_79 : decode cX11_note 79 = .ok (.ireturn, 1) := by decide +kernel
theorem dX11_note_80 : decode cX11_note 80 = .ok (.bipush 39, 2) := by decide +kernel
theorem dX11_note_82 : decode cX11_note 82 = .ok (.iconst 5, 1) := by decide +kernel
theorem dX11_note_83 : decode cX11_note 83 = .ok (.aload_n 0, 1) := by decide +kernel
theorem dX11_note_84 : decode cX11_note 84 = .ok (.getfield 7, 3) := by decide +kernel
theorem dX11_note_87 : decode cX11_note 87 = .ok (.bipush 38, 2) := by decide +kernel
theorem dX11_note_89 : decode cX11_note 89 = .ok (.iaload, 1) := by decide +kernel
theorem dX11_note_90 : decode cX11_note 90 = .ok (.imul, 1) := by decide +kernel
theorem dX11_note_91 : decode cX11_note 91 = .ok (.iadd, 1) := by decide +kernel
theorem dX11_note_92 : decode cX11_note 92 = .ok (.istore 6, 2) := by decide +kernel
theorem dX11_note_94 : decode cX11_note 94 = .ok (.aload_n 0, 1) := by decide +kernel
theorem dX11_note_95 : decode cX11_note 95 = .ok (.getfield 7, 3) := by decide +kernel
theorem dX11_note_98 : decode cX11_note 98 = .ok (.iload 6, 2) := by decide +kernel
theorem dX11_note_100 : decode cX11_note 100 = .ok (.iload_n 1, 1) := by decide +kernel
theorem dX11_note_101 : decode cX11_note 101 = .ok (.iastore, 1) := by decide +kernel
theorem dX11_note_102 : decode cX11_note 102 = .ok (.aload_n 0, 1) := by decide +kernel
theorem dX11_note_103 : decode cX11_note 103 = .ok (.getfield 7, 3) := by decide +kernel
theorem dX11_note_106 : decode cX11_note 106 = .ok (.iload 6, 2) := by decide +kernel
theorem dX11_note_108 : decode cX11_note 108 = .ok (.iconst 1, 1) := by decide +kernel
theorem dX11_note_109 : decode cX11_note 109 = .ok (.iadd, 1) := by decide +kernel
theorem dX11_note_110 : decode cX11_note 110 = .ok (.iload_n 2, 1) := by decide +kernel
theorem dX11_note_111 : decode cX11_note 111 = .ok (.iastore, 1) := by decide +kernel
theorem dX11_note_112 : decode cX11_note 112 = .ok (.aload_n 0, 1) := by decide +kernel
theorem dX11_note_113 : decode cX11_note 113 = .ok (.getfield 7, 3) := by decide +kernel
theorem dX11_note_116 : decode cX11_note 116 = .ok (.iload 6, 2) := by decide +kernel
theorem dX11_note_118 : decode cX11_note 118 = .ok (.iconst 2, 1) := by decide +kernel
theorem dX11_note_119 : decode cX11_note 119 = .ok (.iadd, 1) := by decide +kernel
theorem dX11_note_120 : decode cX11_note 120 = .ok (.iload_n 3, 1) := by decide +kernel
theorem dX11_note_121 : decode cX11_note 121 = .ok (.iastore, 1) := by decide +kernel
theorem dX11_note_122 : decode cX11_note 122 = .ok (.aload_n 0, 1) := by decide +kernel
theorem dX11_note_123 : decode cX11_note 123 = .ok (.getfield 7, 3) := by decide +kernel
theorem dX11_note_126 : decode cX11_note 126 = .ok (.iload 6, 2) := by decide +kernel
theorem dX11_note_128 : decode cX11_note 128 = .ok (.iconst 3, 1) := by decide +kernel
theorem dX11_note_129 : decode cX11_note 129 = .ok (.iadd, 1) := by decide +kernel
theorem dX11_note_130 : decode cX11_note 130 = .ok (.iload 4, 2) := by decide +kernel
theorem dX11_note_132 : decode cX11_note 132 = .ok (.iastore, 1) := by decide +kernel
theorem dX11_note_133 : decode cX11_note 133 = .ok (.aload_n 0, 1) := by decide +kernel
theorem dX11_note_134 : decode cX11_note 134 = .ok (.getfield 7, 3) := by decide +kernel
theorem dX11_note_137 : decode cX11_note 137 = .ok (.iload 6, 2) := by decide +kernel
theorem dX11_note_139 : decode cX11_note 139 = .ok (.iconst 4, 1) := by decide +kernel
theorem dX11_note_140 : decode cX11_note 140 = .ok (.iadd, 1) := by decide +kernel
theorem dX11_note_141 : decode cX11_note 141 = .ok (.iload 5, 2) := by decide +kernel
theorem dX11_note_143 : decode cX11_note 143 = .ok (.iastore, 1) := by decide +kernel
theorem dX11_note_144 : decode cX11_note 144 = .ok (.aload_n 0, 1) := by decide +kernel
theorem dX11_note_145 : decode cX11_note 145 = .ok (.getfield 7, 3) := by decide +kernel
theorem dX11_note_148 : decode cX11_note 148 = .ok (.bipush 38, 2) := by decide +kernel
theorem dX11_note_150 : decode cX11_note 150 = .ok (.dup2, 1) := by decide +kernel
theorem dX11_note_151 : decode cX11_note 151 = .ok (.iaload, 1) := by decide +kernel
theorem dX11_note_152 : decode cX11_note 152 = .ok (.iconst 1, 1) := by decide +kernel
theorem dX11_note_153 : decode cX11_note 153 = .ok (.iadd, 1) := by decide +kernel
theorem dX11_note_154 : decode cX11_note 154 = .ok (.iastore, 1) := by decide +kernel
theorem dX11_note_155 : decode cX11_note 155 = .ok (.aload_n 0, 1) := by decide +kernel
theorem dX11_note_156 : decode cX11_note 156 = .ok (.getfield 7, 3) := by decide +kernel
theorem dX11_note_159 : decode cX11_note 159 = .ok (.bipush 38, 2) := by decide +kernel
theorem dX11_note_161 : decode cX11_note 161 = .ok (.iaload, 1) := by decide +kernel
theorem dX11_note_162 : decode cX11_note 162 = .ok (.ireturn, 1) := by decide +kernel
def j_X11_note_58 (M : gMem) (p1 : Int32) (p2 : Int32) (p3 : Int32) (p4 : Int32) (p5 : Int32) (N : gMem) : Option (Int32 × gMem) := Option.bind (x_X11_bad N) (fun v5 => some (v5.1, v5.2))
def x_X11_note (M : gMem) (p1 : Int32) (p2 : Int32) (p3 : Int32) (p4 : Int32) (p5 : Int32) : Option (Int32 × gMem) := Option.bind (x_X11_isGuest M p1) (fun v1 => (if v1 = 0 then j_X11_note_58 M p1 p2 p3 p4 p5 M else Option.bind (x_X11_in (Int32.toInt64 p2) 0 5) (fun v7 => (if v7 = 0 then j_X11_note_58 M p1 p2 p3 p4 p5 M else Option.bind (x_X11_in (Int32.toInt64 p3) 0 7) (fun v11 => (if v11 = 0 then j_X11_note_58 M p1 p2 p3 p4 p5 M else Option.bind (x_X11_in (Int32.toInt64 p4) 0 99) (fun v15 => (if v15 = 0 then j_X11_note_58 M p1 p2 p3 p4 p5 M else Option.bind (x_X11_in (Int32.toInt64 p5) 0 30) (fun v19 => (if v19 = 0 then j_X11_note_58 M p1 p2 p3 p4 p5 M else (if (M.1 0 60 38) = 6 then Option.bind (x_X11_full M) (fun v29 => some (v29.1, v29.2)) else gd (gin (39 + (5 * (M.1 0 60 38))) 70) (gd (gin ((39 + (5 * (M.1 0 60 38))) + 1) 70) (gd (gin ((39 + (5 * (M.1 0 60 38))) + 2) 70) (gd (gin ((39 + (5 * (M.1 0 60 38))) + 3) 70) (gd (gin ((39 + (5 * (M.1 0 60 38))) + 4) 70) (some ((gwr (gwr (gwr (gwr (gwr (gwr M 0 60 (39 + (5 * (M.1 0 60 38))).toNatClampNeg p1) 0 60 ((39 + (5 * (M.1 0 60 38))) + 1).toNatClampNeg p2) 0 60 ((39 + (5 * (M.1 0 60 38))) + 2).toNatClampNeg p3) 0 60 ((39 + (5 * (M.1 0 60 38))) + 3).toNatClampNeg p4) 0 60 ((39 + (5 * (M.1 0 60 38))) + 4).toNatClampNeg p5) 0 60 38 (((gwr (gwr (gwr (gwr (gwr M 0 60 (39 + (5 * (M.1 0 60 38))).toNatClampNeg p1) 0 60 ((39 + (5 * (M.1 0 60 38))) + 1).toNatClampNeg p2) 0 60 ((39 + (5 * (M.1 0 60 38))) + 2).toNatClampNeg p3) 0 60 ((39 + (5 * (M.1 0 60 38))) + 3).toNatClampNeg p4) 0 60 ((39 + (5 * (M.1 0 60 38))) + 4).toNatClampNeg p5).1 0 60 38) + 1)).1 0 60 38, gwr (gwr (gwr (gwr (gwr (gwr M 0 60 (39 + (5 * (M.1 0 60 38))).toNatClampNeg p1) 0 60 ((39 + (5 * (M.1 0 60 38))) + 1).toNatClampNeg p2) 0 60 ((39 + (5 * (M.1 0 60 38))) + 2).toNatClampNeg p3) 0 60 ((39 + (5 * (M.1 0 60 38))) + 3).toNatClampNeg p4) 0 60 ((39 + (5 * (M.1 0 60 38))) + 4).toNatClampNeg p5) 0 60 38 (((gwr (gwr (gwr (gwr (gwr M 0 60 (39 + (5 * (M.1 0 60 38))).toNatClampNeg p1) 0 60 ((39 + (5 * (M.1 0 60 38))) + 1).toNatClampNeg p2) 0 60 ((39 + (5 * (M.1 0 60 38))) + 2).toNatClampNeg p3) 0 60 ((39 + (5 * (M.1 0 60 38))) + 3).toNatClampNeg p4) 0 60 ((39 + (5 * (M.1 0 60 38))) + 4).toNatClampNeg p5).1 0 60 38) + 1))))))))))))))))))
set_option maxRecDepth 100000 in
set_option maxHeartbeats 4000000 in
theorem c_X11_note {l : Launch} {Y : gY} {M : gMem} {p1 : Int32} {p2 : Int32} {p3 : Int32} {p4 : Int32} {p5 : Int32} {r : (Int32 × gMem)} (hx : x_X11_note M p1 p2 p3 p4 p5 = some r) : Met l yX11_note (gws yX11_note cX11_note 7 (some .int)) { frames := 2, cells := 0, slots := 0, locals := 46 } (va_Pc [.ref (gad Y 0 59), .int p1, .int p2, .int p3, .int p4, .int p5] (gS0 Y M)) (gQi Y r) 0 0 (gA Y) := by
  refine gmet (lv := [(0, .ref (gad Y 0 59)), (1, .int p1), (2, .int p2), (3, .int p3), (4, .int p4), (5, .int p5)]) "GuestStaffModel" (by decide) rfl (Nat.le_of_ble_eq_true rfl) rfl (fun X hC hF => ?_)
  have J58 : ∀ (N : gMem) , j_X11_note_58 M p1 p2 p3 p4 p5 N = some r → gWW X Y 7 58 [(0, .ref (gad Y 0 59))] [] N := by
    intro N hx
    unfold j_X11_note_58 at hx
    refine q_aload_n hC 0 dX11_note_58 rfl rfl ?_
    obtain ⟨v5, q6, hx⟩ := gb_e hx
    refine q_ki (q_rV (As := []) (rest := []) hC mm_X11_bad wM_X11_74 (c_X11_bad q6) ⟨rfl, rfl, Nat.le_of_ble_eq_true rfl, Nat.le_of_ble_eq_true rfl⟩ (gV_t (by decide) (by decide)) rfl rfl rfl rfl (Nat.le_of_ble_eq_true rfl) dX11_note_59) ?_
    exact q_iret hC hF dX11_note_62 (Option.some.inj hx)
  unfold x_X11_note at hx
  refine q_aload_n hC 0 dX11_note_0 rfl rfl ?_
  refine q_iload_n hC 1 dX11_note_1 rfl rfl ?_
  obtain ⟨v1, q2, hx⟩ := gb_e hx
  refine q_kzp (q_rV (As := [.int p1]) (rest := []) hC mm_X11_isGuest wM_X11_85 (c_X11_isGuest q2) ⟨rfl, rfl, Nat.le_of_ble_eq_true rfl, Nat.le_of_ble_eq_true rfl⟩ (gV_t (by decide) (by decide)) rfl rfl rfl rfl (Nat.le_of_ble_eq_true rfl) dX11_note_2) (fun z3 => ?_)
  refine q_if_eq hC 58 dX11_note_5 rfl (fun h4 => ?_) (fun h4 => ?_)
  · have hx := gi_p h4 hx
    exact q_sub [0] rfl (J58 M hx)
  · have hx := gi_n h4 hx
    refine q_iload_n hC 2 dX11_note_8 rfl rfl ?_
    refine q_i2l hC dX11_note_9 ?_
    refine q_lconst hC 0 dX11_note_10 rfl ?_
    refine q_ldc2 hC 5 dX11_note_11 wC_X11_68 ?_
    obtain ⟨v7, q8, hx⟩ := gb_e hx
    refine q_kzp (q_rS (As := [.long (Int32.toInt64 p2), .long 0, .long 5]) (rest := []) hC mm_X11_in wM_X11_57 (c_X11_in q8) ⟨rfl, rfl, Nat.le_of_ble_eq_true rfl, Nat.le_of_ble_eq_true rfl⟩ rfl rfl (Nat.le_of_ble_eq_true rfl) dX11_note_14) (fun z9 => ?_)
    refine q_if_eq hC 58 dX11_note_17 rfl (fun h10 => ?_) (fun h10 => ?_)
    · have hx := gi_p h10 hx
      exact q_sub [0] rfl (J58 M hx)
    · have hx := gi_n h10 hx
      refine q_iload_n hC 3 dX11_note_20 rfl rfl ?_
      refine q_i2l hC dX11_note_21 ?_
      refine q_lconst hC 0 dX11_note_22 rfl ?_
      refine q_ldc2 hC 7 dX11_note_23 wC_X11_70 ?_
      obtain ⟨v11, q12, hx⟩ := gb_e hx
      refine q_kzp (q_rS (As := [.long (Int32.toInt64 p3), .long 0, .long 7]) (rest := []) hC mm_X11_in wM_X11_57 (c_X11_in q12) ⟨rfl, rfl, Nat.le_of_ble_eq_true rfl, Nat.le_of_ble_eq_true rfl⟩ rfl rfl (Nat.le_of_ble_eq_true rfl) dX11_note_26) (fun z13 => ?_)
      refine q_if_eq hC 58 dX11_note_29 rfl (fun h14 => ?_) (fun h14 => ?_)
      · have hx := gi_p h14 hx
        exact q_sub [0] rfl (J58 M hx)
      · have hx := gi_n h14 hx
        refine q_iload hC 4 dX11_note_32 rfl ?_
        refine q_i2l hC dX11_note_34 ?_
        refine q_lconst hC 0 dX11_note_35 rfl ?_
        refine q_ldc2 hC 99 dX11_note_36 wC_X11_232 ?_
        obtain ⟨v15, q16, hx⟩ := gb_e hx
        refine q_kzp (q_rS (As := [.long (Int32.toInt64 p4), .long 0, .long 99]) (rest := []) hC mm_X11_in wM_X11_57 (c_X11_in q16) ⟨rfl, rfl, Nat.le_of_ble_eq_true rfl, Nat.le_of_ble_eq_true rfl⟩ rfl rfl (Nat.le_of_ble_eq_true rfl) dX11_note_39) (fun z17 => ?_)
        refine q_if_eq hC 58 dX11_note_42 rfl (fun h18 => ?_) (fun h18 => ?_)
        · have hx := gi_p h18 hx
          exact q_sub [0] rfl (J58 M hx)
        · have hx := gi_n h18 hx
          refine q_iload hC 5 dX11_note_45 rfl ?_
          refine q_i2l hC dX11_note_47 ?_
          refine q_lconst hC 0 dX11_note_48 rfl ?_
          refine q_ldc2 hC 30 dX11_note_49 wC_X11_234 ?_
          obtain ⟨v19, q20, hx⟩ := gb_e hx
          refine q_kzp (q_rS (As := [.long (Int32.toInt64 p5), .long 0, .long 30]) (rest := []) hC mm_X11_in wM_X11_57 (c_X11_in q20) ⟨rfl, rfl, Nat.le_of_ble_eq_true rfl, Nat.le_of_ble_eq_true rfl⟩ rfl rfl (Nat.le_of_ble_eq_true rfl) dX11_note_52) (fun z21 => ?_)
          refine q_if_ne hC 63 dX11_note_55 rfl (fun h22 => ?_) (fun h22 => ?_)
          · have hx := gi_n h22 hx
            refine q_aload_n hC 0 dX11_note_63 rfl rfl ?_
            refine gf_X11_7 hC dX11_note_64 ?_
            refine q_bipush hC 38 dX11_note_67 rfl ?_
            refine q_ialdk hC 38 69 (gV_t (by decide) (by decide)) rfl (by decide) rfl dX11_note_69 ?_
            refine q_bipush hC 6 dX11_note_70 rfl ?_
            refine q_ic_ne hC 80 dX11_note_72 rfl (fun h23 => ?_) (fun h23 => ?_)
            · have hx := gi_n h23 hx
              refine q_bipush hC 39 dX11_note_80 rfl ?_
              refine q_iconst hC 5 dX11_note_82 rfl ?_
              refine q_aload_n hC 0 dX11_note_83 rfl rfl ?_
              refine gf_X11_7 hC dX11_note_84 ?_
              refine q_bipush hC 38 dX11_note_87 rfl ?_
              refine q_ialdk hC 38 69 (gV_t (by decide) (by decide)) rfl (by decide) rfl dX11_note_89 ?_
              refine q_imul hC dX11_note_90 ?_
              refine q_iadd hC dX11_note_91 ?_
              refine q_istore hC [(6, .int (39 + (5 * (M.1 0 60 38)))), (0, .ref (gad Y 0 59)), (1, .int p1), (2, .int p2), (3, .int p3), (4, .int p4), (5, .int p5)] dX11_note_92 (by decide) rfl ?_
              refine q_aload_n hC 1 dX11_note_94 rfl rfl ?_
              refine gf_X11_7 hC dX11_note_95 ?_
              refine q_iload hC 0 dX11_note_98 rfl ?_
              refine q_iload_n hC 2 dX11_note_100 rfl rfl ?_
              have g24 := (gd_e hx).1
              have hx := (gd_e hx).2
              refine q_iast hC 69 (gV_t (by decide) (by decide)) rfl g24 dX11_note_101 ?_
              refine q_aload_n hC 1 dX11_note_102 rfl rfl ?_
              refine gf_X11_7 hC dX11_note_103 ?_
              refine q_iload hC 0 dX11_note_106 rfl ?_
              refine q_iconst hC 1 dX11_note_108 rfl ?_
              refine q_iadd hC dX11_note_109 ?_
              refine q_iload_n hC 3 dX11_note_110 rfl rfl ?_
              have g25 := (gd_e hx).1
              have hx := (gd_e hx).2
              refine q_iast hC 69 (gV_t (by decide) (by decide)) rfl g25 dX11_note_111 ?_
              refine q_aload_n hC 1 dX11_note_112 rfl rfl ?_
              refine gf_X11_7 hC dX11_note_113 ?_
              refine q_iload hC 0 dX11_note_116 rfl ?_
              refine q_iconst hC 2 dX11_note_118 rfl ?_
              refine q_iadd hC dX11_note_119 ?_
              refine q_iload_n hC 4 dX11_note_120 rfl rfl ?_
              have g26 := (gd_e hx).1
              have hx := (gd_e hx).2
              refine q_iast hC 69 (gV_t (by decide) (by decide)) rfl g26 dX11_note_121 ?_
              refine q_aload_n hC 1 dX11_note_122 rfl rfl ?_
              refine gf_X11_7 hC dX11_note_123 ?_
              refine q_iload hC 0 dX11_note_126 rfl ?_
              refine q_iconst hC 3 dX11_note_128 rfl ?_
              refine q_iadd hC dX11_note_129 ?_
              refine q_iload hC 5 dX11_note_130 rfl ?_
              have g27 := (gd_e hx).1
              have hx := (gd_e hx).2
              refine q_iast hC 69 (gV_t (by decide) (by decide)) rfl g27 dX11_note_132 ?_
              refine q_aload_n hC 1 dX11_note_133 rfl rfl ?_
              refine gf_X11_7 hC dX11_note_134 ?_
              refine q_iload hC 0 dX11_note_137 rfl ?_
              refine q_iconst hC 4 dX11_note_139 rfl ?_
              refine q_iadd hC dX11_note_140 ?_
              refine q_iload hC 6 dX11_note_141 rfl ?_
              have g28 := (gd_e hx).1
              have hx := (gd_e hx).2
              refine q_iast hC 69 (gV_t (by decide) (by decide)) rfl g28 dX11_note_143 ?_
              refine q_aload_n hC 1 dX11_note_144 rfl rfl ?_
              refine gf_X11_7 hC dX11_note_145 ?_
              refine q_bipush hC 38 dX11_note_148 rfl ?_
              refine q_dup2 hC dX11_note_150 rfl rfl ?_
              refine q_ialdk hC 38 69 (gV_t (by decide) (by decide)) rfl (by decide) rfl dX11_note_151 ?_
              refine q_iconst hC 1 dX11_note_152 rfl ?_
              refine q_iadd hC dX11_note_153 ?_
              refine q_iastk hC 38 69 (gV_t (by decide) (by decide)) rfl (by decide) rfl dX11_note_154 ?_
              refine q_aload_n hC 1 dX11_note_155 rfl rfl ?_
              refine gf_X11_7 hC dX11_note_156 ?_
              refine q_bipush hC 38 dX11_note_159 rfl ?_
              refine q_ialdk hC 38 69 (gV_t (by decide) (by decide)) rfl (by decide) rfl dX11_note_161 ?_
              exact q_iret hC hF dX11_note_162 (Option.some.inj hx)
            · have hx := gi_p h23 hx
              refine q_aload_n hC 0 dX11_note_75 rfl rfl ?_
              obtain ⟨v29, q30, hx⟩ := gb_e hx
              refine q_ki (q_rV (As := []) (rest := []) hC mm_X11_full wM_X11_78 (c_X11_full q30) ⟨rfl, rfl, Nat.le_of_ble_eq_true rfl, Nat.le_of_ble_eq_true rfl⟩ (gV_t (by decide) (by decide)) rfl rfl rfl rfl (Nat.le_of_ble_eq_true rfl) dX11_note_76) ?_
              exact q_iret hC hF dX11_note_79 (Option.some.inj hx)
          · have hx := gi_p h22 hx
            exact q_sub [0] rfl (J58 M hx)

theorem dX11_forget_0 : decode cX11_forget 0 = .ok (.aload_n 0, 1) := by decide +kernel
theorem dX11_forget_1 : decode cX11_forget 1 = .ok (.getfield 7, 3) := by decide +kernel
theorem dX11_forget_4 : decode cX11_forget 4 = .ok (.bipush 38, 2) := by decide +kernel
theorem dX11_forget_6 : decode cX11_forget 6 = .ok (.iaload, 1) := by decide +kernel
theorem dX11_forget_7 : decode cX11_forget 7 = .ok (.istore_n 1, 1) := by decide +kernel
theorem dX11_forget_8 : decode cX11_forget 8 = .ok (.aload_n 0, 1) := by decide +kernel
theorem dX11_forget_9 : decode cX11_forget 9 = .ok (.getfield 7, 3) := by decide +kernel
theorem dX11_forget_12 : decode cX11_forget 12 = .ok (.bipush 38, 2) := by decide +kernel
theorem dX11_forget_14 : decode cX11_forget 14 = .ok (.iconst 0, 1) := by decide +kernel
theorem dX11_forget_15 : decode cX11_forget 15 = .ok (.iastore, 1) := by decide +kernel
theorem dX11_forget_16 : decode cX11_forget 16 = .ok (.iload_n 1, 1) := by decide +kernel
theorem dX11_forget_17 : decode cX11_forget 17 = .ok (.ireturn, 1) := by decide +kernel
def x_X11_forget (M : gMem) : Option (Int32 × gMem) := some (M.1 0 60 38, gwr M 0 60 38 0)
set_option maxRecDepth 100000 in
set_option maxHeartbeats 4000000 in
theorem c_X11_forget {l : Launch} {Y : gY} {M : gMem} {r : (Int32 × gMem)} (hx : x_X11_forget M = some r) : Met l yX11_forget (gws yX11_forget cX11_forget 2 (some .int)) { frames := 0, cells := 0, slots := 0, locals := 0 } (va_Pc [.ref (gad Y 0 59)] (gS0 Y M)) (gQi Y r) 0 0 (gA Y) := by
  refine gmet (lv := [(0, .ref (gad Y 0 59))]) "GuestStaffModel" (by decide) rfl (Nat.le_of_ble_eq_true rfl) rfl (fun X hC hF => ?_)
  unfold x_X11_forget at hx
  refine q_aload_n hC 0 dX11_forget_0 rfl rfl ?_
  refine gf_X11_7 hC dX11_forget_1 ?_
  refine q_bipush hC 38 dX11_forget_4 rfl ?_
  refine q_ialdk hC 38 69 (gV_t (by decide) (by decide)) rfl (by decide) rfl dX11_forget_6 ?_
  refine q_istore_n hC [(1, .int (M.1 0 60 38)), (0, .ref (gad Y 0 59))] dX11_forget_7 rfl (by decide) rfl ?_
  refine q_aload_n hC 1 dX11_forget_8 rfl rfl ?_
  refine gf_X11_7 hC dX11_forget_9 ?_
  refine q_bipush hC 38 dX11_forget_12 rfl ?_
  refine q_iconst hC 0 dX11_forget_14 rfl ?_
  refine q_iastk hC 38 69 (gV_t (by decide) (by decide)) rfl (by decide) rfl dX11_forget_15 ?_
  refine q_iload_n hC 0 dX11_forget_16 rfl rfl ?_
  exact q_iret hC hF dX11_forget_17 (Option.some.inj hx)

theorem dX11_wantsBy_0 : decode cX11_wantsBy 0 = .ok (.iconst 0, 1) := by decide +kernel
theorem dX11_wantsBy_1 : decode cX11_wantsBy 1 = .ok (.istore_n 3, 1) := by decide +kernel
theorem dX11_wantsBy_2 : decode cX11_wantsBy 2 = .ok (.iconst 0, 1) := by decide +kernel
theorem dX11_wantsBy_3 : decode cX11_wantsBy 3 = .ok (.istore 4, 2) := by decide +kernel
theorem dX11_wantsBy_5 : decode cX11_wantsBy 5 = .ok (.iload 4, 2) := by decide +kernel
theorem dX11_wantsBy_7 : decode cX11_wantsBy 7 = .ok (.bipush 8, 2) := by decide +kernel
theorem dX11_wantsBy_9 : decode cX11_wantsBy 9 = .ok (.if_icmp .ge 137, 3) := by decide +kernel
theorem dX11_wantsBy_12 : decode cX11_wantsBy 12 = .ok (.iconst 1, 1) := by decide +kernel
theorem dX11_wantsBy_13 : decode cX11_wantsBy 13 = .ok (.istore 5, 2) := by decide +kernel
theorem dX11_wantsBy_15 : decode cX11_wantsBy 15 = .ok (.iconst 0, 1) := by decide +kernel
theorem dX11_wantsBy_16 : decode cX11_wantsBy 16 = .ok (.istore 6, 2) := by decide +kernel
theorem dX11_wantsBy_18 : decode cX11_wantsBy 18 = .ok (.iload 6, 2) := by decide +kernel
theorem dX11_wantsBy_20 : decode cX11_wantsBy 20 = .ok (.aload_n 0, 1) := by decide +kernel
theorem dX11_wantsBy_21 : decode cX11_wantsBy 21 = .ok (.getfield 7, 3) := by decide +kernel
theorem dX11_wantsBy_24 : decode cX11_wantsBy 24 = .ok (.bipush 38, 2) := by decide +kernel
theorem dX11_wantsBy_26 : decode cX11_wantsBy 26 = .ok (.iaload, 1) := by decide +kernel
theorem dX11_wantsBy_27 : decode cX11_wantsBy 27 = .ok (.if_icmp .ge 97, 3) := by decide +kernel
theorem dX11_wantsBy_30 : decode cX11_wantsBy 30 = .ok (.bipush 39, 2) := by decide +kernel
theorem dX11_wantsBy_32 : decode cX11_wantsBy 32 = .ok (.iconst 5, 1) := by decide +kernel
theorem dX11_wantsBy_33 : decode cX11_wantsBy 33 = .ok (.iload 6, 2) := by decide +kernel
theorem dX11_wantsBy_35 : decode cX11_wantsBy 35 = .ok (.imul, 1) := by decide +kernel
theorem dX11_wantsBy_36 : decode cX11_wantsBy 36 = .ok (.iadd, 1) := by decide +kernel
theorem dX11_wantsBy_37 : decode cX11_wantsBy 37 = .ok (.istore 7, 2) := by decide +kernel
theorem dX11_wantsBy_39 : decode cX11_wantsBy 39 = .ok (.aload_n 0, 1) := by decide +kernel
theorem dX11_wantsBy_40 : decode cX11_wantsBy 40 = .ok (.getfield 7, 3) := by decide +kernel
theorem dX11_wantsBy_43 : decode cX11_wantsBy 43 = .ok (.iload 7, 2) := by decide +kernel
theorem dX11_wantsBy_45 : decode cX11_wantsBy 45 = .ok (.iconst 2, 1) := by decide +kernel
theorem dX11_wantsBy_46 : decode cX11_wantsBy 46 = .ok (.iadd, 1) := by decide +kernel
theorem dX11_wantsBy_47 : decode cX11_wantsBy 47 = .ok (.iaload, 1) := by decide +kernel
theorem dX11_wantsBy_48 : decode cX11_wantsBy 48 = .ok (.iload 4, 2) := by decide +kernel
theorem dX11_wantsBy_50 : decode cX11_wantsBy 50 = .ok (.if_icmp .ne 28, 3) := by decide +kernel
theorem dX11_wantsBy_53 : decode cX11_wantsBy 53 = .ok (.iload_n 2, 1) := by decide +kernel
theorem dX11_wantsBy_54 : decode cX11_wantsBy 54 = .ok (.aload_n 0, 1) := by decide +kernel
theorem dX11_wantsBy_55 : decode cX11_wantsBy 55 = .ok (.getfield 7, 3) := by decide +kernel
theorem dX11_wantsBy_58 : decode cX11_wantsBy 58 = .ok (.iload 7, 2) := by decide +kernel
theorem dX11_wantsBy_60 : decode cX11_wantsBy 60 = .ok (.iconst 1, 1) := by decide +kernel
theorem dX11_wantsBy_61 : decode cX11_wantsBy 61 = .ok (.iadd, 1) := by decide +kernel
theorem dX11_wantsBy_62 : decode cX11_wantsBy 62 = .ok (.iaload, 1) := by decide +kernel
theorem dX11_wantsBy_63 : decode cX11_wantsBy 63 = .ok (.aload_n 0, 1) := by decide +kernel
theorem dX11_wantsBy_64 : decode cX11_wantsBy 64 = .ok (.getfield 7, 3) := by decide +kernel
theorem dX11_wantsBy_67 : decode cX11_wantsBy 67 = .ok (.iload 7, 2) := by decide +kernel
theorem dX11_wantsBy_69 : decode cX11_wantsBy 69 = .ok (.iconst 3, 1) := by decide +kernel
theorem dX11_wantsBy_70 : decode cX11_wantsBy 70 = .ok (.iadd, 1) := by decide +kernel
theorem dX11_wantsBy_71 : decode cX11_wantsBy 71 = .ok (.iaload, 1) := by decide +kernel
theorem dX11_wantsBy_72 : decode cX11_wantsBy 72 = .ok (.invokestatic 159, 3) := by decide +kernel
theorem dX11_wantsBy_75 : decode cX11_wantsBy 75 = .ok (.goto 4, 3) := by decide +kernel
theorem dX11_wantsBy_78 : decode cX11_wantsBy 78 = .ok (.iconst 0, 1) := by decide +kernel
theorem dX11_wantsBy_79 : decode cX11_wantsBy 79 = .ok (.istore 8, 2) := by decide +kernel
theorem dX11_wantsBy_81 : decode cX11_wantsBy 81 = .ok (.iload 5, 2) := by decide +kernel
theorem dX11_wantsBy_83 : decode cX11_wantsBy 83 = .ok (.ifCond .eq 32, 3) := by decide +kernel
theorem dX11_wantsBy_86 : decode cX11_wantsBy 86 = .ok (.aload_n 0, 1) := by decide +kernel
theorem dX11_wantsBy_87 : decode cX11_wantsBy 87 = .ok (.getfield 7, 3) := by decide +kernel
theorem dX11_wantsBy_90 : decode cX11_wantsBy 90 = .ok (.iload 7, 2) := by decide +kernel
theorem dX11_wantsBy_92 : decode cX11_wantsBy 92 = .ok (.iaload, 1) := by decide +kernel
theorem dX11_wantsBy_93 : decode cX11_wantsBy 93 = .ok (.iload_n 1, 1) := by decide +kernel
theorem dX11_wantsBy_94 : decode cX11_wantsBy 94 = .ok (.if_icmp .ne 17, 3) := by decide +kernel
theorem dX11_wantsBy_97 : decode cX11_wantsBy 97 = .ok (.iload 8, 2) := by decide +kernel
theorem dX11_wantsBy_99 : decode cX11_wantsBy 99 = .ok (.aload_n 0, 1) := by decide +kernel
theorem dX11_wantsBy_100 : decode cX11_wantsBy 100 = .ok (.getfield 7, 3) := by decide +kernel
theorem dX11_wantsBy_103 : decode cX11_wantsBy 103 = .ok (.iload 7, 2) := by decide +kernel
theorem dX11_wantsBy_105 : decode cX11_wantsBy 105 = .ok (.iconst 4, 1) := by decide +kernel
theorem dX11_wantsBy_106 : decode cX11_wantsBy 106 = .ok (.iadd, 1) := by decide +kernel
theorem dX11_wantsBy_107 : decode cX11_wantsBy 107 = .ok (.iaload, 1) := by decide +kernel
theorem dX11_wantsBy_108 : decode cX11_wantsBy 108 = .ok (.if_icmp .ne 7, 3) := by decide +kernel
theorem dX11_wantsBy_111 : decode cX11_wantsBy 111 = .ok (.iconst 1, 1) := by decide +kernel
theorem dX11_wantsBy_112 : decode cX11_wantsBy 112 = .ok (.goto 4, 3) := by decide +kernel
theorem dX11_wantsBy_115 : decode cX11_wantsBy 115 = .ok (.iconst 0, 1) := by decide +kernel
theorem dX11_wantsBy_116 : decode cX11_wantsBy 116 = .ok (.istore 5, 2) := by decide +kernel
theorem dX11_wantsBy_118 : decode cX11_wantsBy 118 = .ok (.iinc 6 1, 3) := by decide +kernel
theorem dX11_wantsBy_121 : decode cX11_wantsBy 121 = .ok (.goto (-103), 3) := by decide +kernel
theorem dX11_wantsBy_124 : decode cX11_wantsBy 124 = .ok (.iload_n 3, 1) := by decide +kernel
theorem dX11_wantsBy_125 : decode cX11_wantsBy 125 = .ok (.iload 5, 2) := by decide +kernel
theorem dX11_wantsBy_127 : decode cX11_wantsBy 127 = .ok (.ifCond .eq 10, 3) := by decide +kernel
theorem dX11_wantsBy_130 : decode cX11_wantsBy 130 = .ok (.iconst 1, 1) := by decide +kernel
theorem dX11_wantsBy_131 : decode cX11_wantsBy 131 = .ok (.iload 4, 2) := by decide +kernel
theorem dX11_wantsBy_133 : decode cX11_wantsBy 133 = .ok (.ishl, 1) := by decide +kernel
theorem dX11_wantsBy_134 : decode cX11_wantsBy 134 = .ok (.goto 4, 3) := by decide +kernel
theorem dX11_wantsBy_137 : decode cX11_wantsBy 137 = .ok (.iconst 0, 1) := by decide +kernel
theorem dX11_wantsBy_138 : decode cX11_wantsBy 138 = .ok (.ior, 1) := by decide +kernel
theorem dX11_wantsBy_139 : decode cX11_wantsBy 139 = .ok (.istore_n 3, 1) := by decide +kernel
theorem dX11_wantsBy_140 : decode cX11_wantsBy 140 = .ok (.iinc 4 1, 3) := by decide +kernel
theorem dX11_wantsBy_143 : decode cX11_wantsBy 143 = .ok (.goto (-138), 3) := by decide +kernel
theorem dX11_wantsBy_146 : decode cX11_wantsBy 146 = .ok (.iload_n 3, 1) := by decide +kernel
theorem dX11_wantsBy_147 : decode cX11_wantsBy 147 = .ok (.ireturn, 1) := by decide +kernel
def j_X11_wantsBy_18_116 (M : gMem) (a1 : Int32) (a2 : Int32) (a3 : Int32) (a4 : Int32) (b6 : Int32) (t0 : Int32) : Option ((Int32 × Int32) ⊕ (Int32 × Int32)) := some (.inl (t0, b6 + 1))
def j_X11_wantsBy_18_115 (M : gMem) (a1 : Int32) (a2 : Int32) (a3 : Int32) (a4 : Int32) (b6 : Int32) : Option ((Int32 × Int32) ⊕ (Int32 × Int32)) := j_X11_wantsBy_18_116 M a1 a2 a3 a4 b6 0
def j_X11_wantsBy_18_111 (M : gMem) (a1 : Int32) (a2 : Int32) (a3 : Int32) (a4 : Int32) (b6 : Int32) : Option ((Int32 × Int32) ⊕ (Int32 × Int32)) := j_X11_wantsBy_18_116 M a1 a2 a3 a4 b6 1
def j_X11_wantsBy_18_79 (M : gMem) (a1 : Int32) (a2 : Int32) (a3 : Int32) (a4 : Int32) (b5 : Int32) (b6 : Int32) (b7 : Int32) (t0 : Int32) : Option ((Int32 × Int32) ⊕ (Int32 × Int32)) := (if b5 = 0 then j_X11_wantsBy_18_115 M a1 a2 a3 a4 b6 else gd (gin b7 70) ((if (M.1 0 60 (b7).toNatClampNeg) = a1 then gd (gin (b7 + 4) 70) ((if t0 = (M.1 0 60 (b7 + 4).toNatClampNeg) then j_X11_wantsBy_18_111 M a1 a2 a3 a4 b6 else j_X11_wantsBy_18_115 M a1 a2 a3 a4 b6)) else j_X11_wantsBy_18_111 M a1 a2 a3 a4 b6)))
def s_X11_wantsBy_18 (M : gMem) (a1 : Int32) (a2 : Int32) (a3 : Int32) (a4 : Int32) (b5 : Int32) (b6 : Int32) : Option ((Int32 × Int32) ⊕ (Int32 × Int32)) := (if (M.1 0 60 38) ≤ b6 then some (.inr (b5, b6)) else gd (gin ((39 + (5 * b6)) + 2) 70) ((if (M.1 0 60 ((39 + (5 * b6)) + 2).toNatClampNeg) = a4 then gd (gin ((39 + (5 * b6)) + 1) 70) (gd (gin ((39 + (5 * b6)) + 3) 70) (Option.bind (x_X11_contentBy a2 (M.1 0 60 ((39 + (5 * b6)) + 1).toNatClampNeg) (M.1 0 60 ((39 + (5 * b6)) + 3).toNatClampNeg)) (fun v12 => j_X11_wantsBy_18_79 M a1 a2 a3 a4 b5 b6 (39 + (5 * b6)) v12))) else j_X11_wantsBy_18_79 M a1 a2 a3 a4 b5 b6 (39 + (5 * b6)) 0)))
def j_X11_wantsBy_5_138 (M : gMem) (a1 : Int32) (a2 : Int32) (b4 : Int32) (t0 : Int32) (t1 : Int32) : Option ((Int32 × Int32) ⊕ (Int32 × Int32)) := some (.inl (t1 ||| t0, b4 + 1))
def s_X11_wantsBy_5 (M : gMem) (a1 : Int32) (a2 : Int32) (b3 : Int32) (b4 : Int32) : Option ((Int32 × Int32) ⊕ (Int32 × Int32)) := (if 8 ≤ b4 then some (.inr (b3, b4)) else Option.bind (itr FU (fun s => s_X11_wantsBy_18 M a1 a2 b3 b4 s.1 s.2) (1, 0)) (fun e14 => (if e14.1 = 0 then j_X11_wantsBy_5_138 M a1 a2 b4 0 b3 else j_X11_wantsBy_5_138 M a1 a2 b4 (1 <<< (b4 &&& 31)) b3)))
def x_X11_wantsBy (M : gMem) (p1 : Int32) (p2 : Int32) : Option Int32 := Option.bind (itr FU (fun s => s_X11_wantsBy_5 M p1 p2 s.1 s.2) (0, 0)) (fun e16 => some e16.1)
set_option maxRecDepth 100000 in
set_option maxHeartbeats 4000000 in
theorem w_X11_wantsBy_18 {X : gX} {Y : gY} {M : gMem} {a1 : Int32} {a2 : Int32} {a3 : Int32} {a4 : Int32} {r : Int32} (hC : gC X Y cX11_wantsBy "GuestStaffModel" 9 1 22) (hF : gF X Y (some .int) (gQi Y (r, M))) {e : (Int32 × Int32)} (kE : ∀ s : (Int32 × Int32), e = s → gWW X Y 9 124 [(0, .ref (gad Y 0 59)), (1, .int a1), (2, .int a2), (3, .int a3), (4, .int a4), (5, .int s.1)] [] M) : ∀ (F : Nat) (s : (Int32 × Int32)), itr F (fun s => s_X11_wantsBy_18 M a1 a2 a3 a4 s.1 s.2) s = some e → gWW X Y 9 18 [(0, .ref (gad Y 0 59)), (1, .int a1), (2, .int a2), (3, .int a3), (4, .int a4), (5, .int s.1), (6, .int s.2)] [] M := by
  intro F s
  refine itr_w (P := fun s => gWW X Y 9 18 [(0, .ref (gad Y 0 59)), (1, .int a1), (2, .int a2), (3, .int a3), (4, .int a4), (5, .int s.1), (6, .int s.2)] [] M) (fun s o hx kI kx => ?_) F s
  obtain ⟨b5, b6⟩ := s
  have hx : s_X11_wantsBy_18 M a1 a2 a3 a4 b5 b6 = some o := hx
  have kE : ∀ s : (Int32 × Int32), o = .inr s → gWW X Y 9 124 [(0, .ref (gad Y 0 59)), (1, .int a1), (2, .int a2), (3, .int a3), (4, .int a4), (5, .int s.1)] [] M := fun s q => kE s (kx _ q).symm
  have J116 : ∀ (b6 : Int32) (t0 : Int32) , j_X11_wantsBy_18_116 M a1 a2 a3 a4 b6 t0 = some o → gWW X Y 9 116 [(0, .ref (gad Y 0 59)), (1, .int a1), (2, .int a2), (3, .int a3), (4, .int a4), (6, .int b6)] [.int t0] M := by
    intro b6 t0 hx
    unfold j_X11_wantsBy_18_116 at hx
    refine q_istore hC [(5, .int t0), (0, .ref (gad Y 0 59)), (1, .int a1), (2, .int a2), (3, .int a3), (4, .int a4), (6, .int b6)] dX11_wantsBy_116 (by decide) rfl ?_
    refine q_iinc hC 6 1 [(6, .int (b6 + 1)), (5, .int t0), (0, .ref (gad Y 0 59)), (1, .int a1), (2, .int a2), (3, .int a3), (4, .int a4)] dX11_wantsBy_118 rfl rfl (by decide) rfl ?_
    refine q_goto hC 18 dX11_wantsBy_121 rfl ?_
    exact q_sub [2, 3, 4, 5, 6, 1, 0] rfl (kI (t0, b6 + 1) (Option.some.inj hx).symm)
  have J115 : ∀ (b6 : Int32) , j_X11_wantsBy_18_115 M a1 a2 a3 a4 b6 = some o → gWW X Y 9 115 [(0, .ref (gad Y 0 59)), (1, .int a1), (2, .int a2), (3, .int a3), (4, .int a4), (6, .int b6)] [] M := by
    intro b6 hx
    unfold j_X11_wantsBy_18_115 at hx
    refine q_iconst hC 0 dX11_wantsBy_115 rfl ?_
    exact q_sub [0, 1, 2, 3, 4, 5] rfl (J116 b6 0 hx)
  have J111 : ∀ (b6 : Int32) , j_X11_wantsBy_18_111 M a1 a2 a3 a4 b6 = some o → gWW X Y 9 111 [(0, .ref (gad Y 0 59)), (1, .int a1), (2, .int a2), (3, .int a3), (4, .int a4), (6, .int b6)] [] M := by
    intro b6 hx
    unfold j_X11_wantsBy_18_111 at hx
    refine q_iconst hC 1 dX11_wantsBy_111 rfl ?_
    refine q_goto hC 116 dX11_wantsBy_112 rfl ?_
    exact q_sub [0, 1, 2, 3, 4, 5] rfl (J116 b6 1 hx)
  have J79 : ∀ (b5 : Int32) (b6 : Int32) (b7 : Int32) (t0 : Int32) , j_X11_wantsBy_18_79 M a1 a2 a3 a4 b5 b6 b7 t0 = some o → gWW X Y 9 79 [(0, .ref (gad Y 0 59)), (1, .int a1), (2, .int a2), (3, .int a3), (4, .int a4), (5, .int b5), (6, .int b6), (7, .int b7)] [.int t0] M := by
    intro b5 b6 b7 t0 hx
    unfold j_X11_wantsBy_18_79 at hx
    refine q_istore hC [(8, .int t0), (0, .ref (gad Y 0 59)), (1, .int a1), (2, .int a2), (3, .int a3), (4, .int a4), (5, .int b5), (6, .int b6), (7, .int b7)] dX11_wantsBy_79 (by decide) rfl ?_
    refine q_iload hC 6 dX11_wantsBy_81 rfl ?_
    refine q_if_eq hC 115 dX11_wantsBy_83 rfl (fun h5 => ?_) (fun h5 => ?_)
    · have hx := gi_p h5 hx
      exact q_sub [1, 2, 3, 4, 5, 7] rfl (J115 b6 hx)
    · have hx := gi_n h5 hx
      refine q_aload_n hC 1 dX11_wantsBy_86 rfl rfl ?_
      refine gf_X11_7 hC dX11_wantsBy_87 ?_
      refine q_iload hC 8 dX11_wantsBy_90 rfl ?_
      have g6 := (gd_e hx).1
      have hx := (gd_e hx).2
      refine q_iald hC 69 (gV_t (by decide) (by decide)) rfl g6 dX11_wantsBy_92 ?_
      refine q_iload_n hC 2 dX11_wantsBy_93 rfl rfl ?_
      refine q_ic_ne hC 111 dX11_wantsBy_94 rfl (fun h7 => ?_) (fun h7 => ?_)
      · have hx := gi_n h7 hx
        exact q_sub [1, 2, 3, 4, 5, 7] rfl (J111 b6 hx)
      · have hx := gi_p h7 hx
        refine q_iload hC 0 dX11_wantsBy_97 rfl ?_
        refine q_aload_n hC 1 dX11_wantsBy_99 rfl rfl ?_
        refine gf_X11_7 hC dX11_wantsBy_100 ?_
        refine q_iload hC 8 dX11_wantsBy_103 rfl ?_
        refine q_iconst hC 4 dX11_wantsBy_105 rfl ?_
        refine q_iadd hC dX11_wantsBy_106 ?_
        have g8 := (gd_e hx).1
        have hx := (gd_e hx).2
        refine q_iald hC 69 (gV_t (by decide) (by decide)) rfl g8 dX11_wantsBy_107 ?_
        refine q_ic_ne hC 115 dX11_wantsBy_108 rfl (fun h9 => ?_) (fun h9 => ?_)
        · have hx := gi_n h9 hx
          exact q_sub [1, 2, 3, 4, 5, 7] rfl (J115 b6 hx)
        · have hx := gi_p h9 hx
          exact q_sub [1, 2, 3, 4, 5, 7] rfl (J111 b6 hx)
  unfold s_X11_wantsBy_18 at hx
  refine q_iload hC 6 dX11_wantsBy_18 rfl ?_
  refine q_aload_n hC 0 dX11_wantsBy_20 rfl rfl ?_
  refine gf_X11_7 hC dX11_wantsBy_21 ?_
  refine q_bipush hC 38 dX11_wantsBy_24 rfl ?_
  refine q_ialdk hC 38 69 (gV_t (by decide) (by decide)) rfl (by decide) rfl dX11_wantsBy_26 ?_
  refine q_ic_ge hC 124 dX11_wantsBy_27 rfl (fun h2 => ?_) (fun h2 => ?_)
  · have hx := gi_p h2 hx
    exact q_sub [0, 1, 2, 3, 4, 5] rfl (kE (b5, b6) (Option.some.inj hx).symm)
  · have hx := gi_n h2 hx
    refine q_bipush hC 39 dX11_wantsBy_30 rfl ?_
    refine q_iconst hC 5 dX11_wantsBy_32 rfl ?_
    refine q_iload hC 6 dX11_wantsBy_33 rfl ?_
    refine q_imul hC dX11_wantsBy_35 ?_
    refine q_iadd hC dX11_wantsBy_36 ?_
    refine q_istore hC [(7, .int (39 + (5 * b6))), (0, .ref (gad Y 0 59)), (1, .int a1), (2, .int a2), (3, .int a3), (4, .int a4), (5, .int b5), (6, .int b6)] dX11_wantsBy_37 (by decide) rfl ?_
    refine q_aload_n hC 1 dX11_wantsBy_39 rfl rfl ?_
    refine gf_X11_7 hC dX11_wantsBy_40 ?_
    refine q_iload hC 0 dX11_wantsBy_43 rfl ?_
    refine q_iconst hC 2 dX11_wantsBy_45 rfl ?_
    refine q_iadd hC dX11_wantsBy_46 ?_
    have g3 := (gd_e hx).1
    have hx := (gd_e hx).2
    refine q_iald hC 69 (gV_t (by decide) (by decide)) rfl g3 dX11_wantsBy_47 ?_
    refine q_iload hC 5 dX11_wantsBy_48 rfl ?_
    refine q_ic_ne hC 78 dX11_wantsBy_50 rfl (fun h4 => ?_) (fun h4 => ?_)
    · have hx := gi_n h4 hx
      refine q_iconst hC 0 dX11_wantsBy_78 rfl ?_
      exact q_sub [1, 2, 3, 4, 5, 6, 7, 0] rfl (J79 b5 b6 (39 + (5 * b6)) 0 hx)
    · have hx := gi_p h4 hx
      refine q_iload_n hC 3 dX11_wantsBy_53 rfl rfl ?_
      refine q_aload_n hC 1 dX11_wantsBy_54 rfl rfl ?_
      refine gf_X11_7 hC dX11_wantsBy_55 ?_
      refine q_iload hC 0 dX11_wantsBy_58 rfl ?_
      refine q_iconst hC 1 dX11_wantsBy_60 rfl ?_
      refine q_iadd hC dX11_wantsBy_61 ?_
      have g10 := (gd_e hx).1
      have hx := (gd_e hx).2
      refine q_iald hC 69 (gV_t (by decide) (by decide)) rfl g10 dX11_wantsBy_62 ?_
      refine q_aload_n hC 1 dX11_wantsBy_63 rfl rfl ?_
      refine gf_X11_7 hC dX11_wantsBy_64 ?_
      refine q_iload hC 0 dX11_wantsBy_67 rfl ?_
      refine q_iconst hC 3 dX11_wantsBy_69 rfl ?_
      refine q_iadd hC dX11_wantsBy_70 ?_
      have g11 := (gd_e hx).1
      have hx := (gd_e hx).2
      refine q_iald hC 69 (gV_t (by decide) (by decide)) rfl g11 dX11_wantsBy_71 ?_
      obtain ⟨v12, q13, hx⟩ := gb_e hx
      refine q_kip (q_rS (As := [.int a2, .int (M.1 0 60 ((39 + (5 * b6)) + 1).toNatClampNeg), .int (M.1 0 60 ((39 + (5 * b6)) + 3).toNatClampNeg)]) (rest := []) hC mm_X11_contentBy wM_X11_159 (c_X11_contentBy q13) ⟨rfl, rfl, Nat.le_of_ble_eq_true rfl, Nat.le_of_ble_eq_true rfl⟩ rfl rfl (Nat.le_of_ble_eq_true rfl) dX11_wantsBy_72) ?_
      refine q_goto hC 79 dX11_wantsBy_75 rfl ?_
      exact q_sub [1, 2, 3, 4, 5, 6, 7, 0] rfl (J79 b5 b6 (39 + (5 * b6)) v12 hx)
set_option maxRecDepth 100000 in
set_option maxHeartbeats 4000000 in
theorem w_X11_wantsBy_5 {X : gX} {Y : gY} {M : gMem} {a1 : Int32} {a2 : Int32} {r : Int32} (hC : gC X Y cX11_wantsBy "GuestStaffModel" 9 1 22) (hF : gF X Y (some .int) (gQi Y (r, M))) {e : (Int32 × Int32)} (kE : ∀ s : (Int32 × Int32), e = s → gWW X Y 9 146 [(3, .int s.1)] [] M) : ∀ (F : Nat) (s : (Int32 × Int32)), itr F (fun s => s_X11_wantsBy_5 M a1 a2 s.1 s.2) s = some e → gWW X Y 9 5 [(0, .ref (gad Y 0 59)), (1, .int a1), (2, .int a2), (3, .int s.1), (4, .int s.2)] [] M := by
  intro F s
  refine itr_w (P := fun s => gWW X Y 9 5 [(0, .ref (gad Y 0 59)), (1, .int a1), (2, .int a2), (3, .int s.1), (4, .int s.2)] [] M) (fun s o hx kI kx => ?_) F s
  obtain ⟨b3, b4⟩ := s
  have hx : s_X11_wantsBy_5 M a1 a2 b3 b4 = some o := hx
  have kE : ∀ s : (Int32 × Int32), o = .inr s → gWW X Y 9 146 [(3, .int s.1)] [] M := fun s q => kE s (kx _ q).symm
  have J138 : ∀ (b4 : Int32) (t0 : Int32) (t1 : Int32) , j_X11_wantsBy_5_138 M a1 a2 b4 t0 t1 = some o → gWW X Y 9 138 [(0, .ref (gad Y 0 59)), (1, .int a1), (2, .int a2), (4, .int b4)] [.int t0, .int t1] M := by
    intro b4 t0 t1 hx
    unfold j_X11_wantsBy_5_138 at hx
    refine q_ior hC dX11_wantsBy_138 ?_
    refine q_istore_n hC [(3, .int (t1 ||| t0)), (0, .ref (gad Y 0 59)), (1, .int a1), (2, .int a2), (4, .int b4)] dX11_wantsBy_139 rfl (by decide) rfl ?_
    refine q_iinc hC 4 1 [(4, .int (b4 + 1)), (3, .int (t1 ||| t0)), (0, .ref (gad Y 0 59)), (1, .int a1), (2, .int a2)] dX11_wantsBy_140 rfl rfl (by decide) rfl ?_
    refine q_goto hC 5 dX11_wantsBy_143 rfl ?_
    exact q_sub [2, 3, 4, 1, 0] rfl (kI (t1 ||| t0, b4 + 1) (Option.some.inj hx).symm)
  unfold s_X11_wantsBy_5 at hx
  refine q_iload hC 4 dX11_wantsBy_5 rfl ?_
  refine q_bipush hC 8 dX11_wantsBy_7 rfl ?_
  refine q_ic_ge hC 146 dX11_wantsBy_9 rfl (fun h1 => ?_) (fun h1 => ?_)
  · have hx := gi_p h1 hx
    exact q_sub [3] rfl (kE (b3, b4) (Option.some.inj hx).symm)
  · have hx := gi_n h1 hx
    refine q_iconst hC 1 dX11_wantsBy_12 rfl ?_
    refine q_istore hC [(5, .int 1), (0, .ref (gad Y 0 59)), (1, .int a1), (2, .int a2), (3, .int b3), (4, .int b4)] dX11_wantsBy_13 (by decide) rfl ?_
    refine q_iconst hC 0 dX11_wantsBy_15 rfl ?_
    refine q_istore hC [(6, .int 0), (5, .int 1), (0, .ref (gad Y 0 59)), (1, .int a1), (2, .int a2), (3, .int b3), (4, .int b4)] dX11_wantsBy_16 (by decide) rfl ?_
    obtain ⟨e14, qe14, hx⟩ := gb_e hx
    refine q_sub [2, 3, 4, 5, 6, 1, 0] rfl (w_X11_wantsBy_18 hC hF (e := e14) (fun s q => ?_) _ _ qe14)
    · subst q
      refine q_iload_n hC 3 dX11_wantsBy_124 rfl rfl ?_
      refine q_iload hC 5 dX11_wantsBy_125 rfl ?_
      refine q_if_eq hC 137 dX11_wantsBy_127 rfl (fun h15 => ?_) (fun h15 => ?_)
      · have hx := gi_p h15 hx
        refine q_iconst hC 0 dX11_wantsBy_137 rfl ?_
        exact q_sub [0, 1, 2, 4] rfl (J138 b4 0 b3 hx)
      · have hx := gi_n h15 hx
        refine q_iconst hC 1 dX11_wantsBy_130 rfl ?_
        refine q_iload hC 4 dX11_wantsBy_131 rfl ?_
        refine q_ishl hC dX11_wantsBy_133 ?_
        refine q_goto hC 138 dX11_wantsBy_134 rfl ?_
        exact q_sub [0, 1, 2, 4] rfl (J138 b4 (1 <<< (b4 &&& 31)) b3 hx)
set_option maxRecDepth 100000 in
set_option maxHeartbeats 4000000 in
theorem c_X11_wantsBy {l : Launch} {Y : gY} {M : gMem} {p1 : Int32} {p2 : Int32} {r : Int32} (hx : x_X11_wantsBy M p1 p2 = some r) : Met l yX11_wantsBy (gws yX11_wantsBy cX11_wantsBy 9 (some .int)) { frames := 1, cells := 0, slots := 0, locals := 22 } (va_Pc [.ref (gad Y 0 59), .int p1, .int p2] (gS0 Y M)) (gQi Y (r, M)) 0 0 (gA Y) := by
  refine gmet (lv := [(0, .ref (gad Y 0 59)), (1, .int p1), (2, .int p2)]) "GuestStaffModel" (by decide) rfl (Nat.le_of_ble_eq_true rfl) rfl (fun X hC hF => ?_)
  unfold x_X11_wantsBy at hx
  refine q_iconst hC 0 dX11_wantsBy_0 rfl ?_
  refine q_istore_n hC [(3, .int 0), (0, .ref (gad Y 0 59)), (1, .int p1), (2, .int p2)] dX11_wantsBy_1 rfl (by decide) rfl ?_
  refine q_iconst hC 0 dX11_wantsBy_2 rfl ?_
  refine q_istore hC [(4, .int 0), (3, .int 0), (0, .ref (gad Y 0 59)), (1, .int p1), (2, .int p2)] dX11_wantsBy_3 (by decide) rfl ?_
  obtain ⟨e16, qe16, hx⟩ := gb_e hx
  refine q_sub [2, 3, 4, 1, 0] rfl (w_X11_wantsBy_5 hC hF (e := e16) (fun s q => ?_) _ _ qe16)
  · subst q
    refine q_iload_n hC 0 dX11_wantsBy_146 rfl rfl ?_
    exact q_iret hC hF dX11_wantsBy_147 (congrArg (fun z => (z, M)) (Option.some.inj hx))

theorem dX11_wants_0 : decode cX11_wants 0 = .ok (.aload_n 0, 1) := by decide +kernel
theorem dX11_wants_1 : decode cX11_wants 1 = .ok (.iload_n 1, 1) := by decide +kernel
theorem dX11_wants_2 : decode cX11_wants 2 = .ok (.invokevirtual 85, 3) := by decide +kernel
theorem dX11_wants_5 : decode cX11_wants 5 = .ok (.ifCond .eq 20, 3) := by decide +kernel
theorem dX11_wants_8 : decode cX11_wants 8 = .ok (.aload_n 0, 1) := by decide +kernel
theorem dX11_wants_9 : decode cX11_wants 9 = .ok (.iload_n 1, 1) := by decide +kernel
theorem dX11_wants_10 : decode cX11_wants 10 = .ok (.aload_n 0, 1) := by decide +kernel
theorem dX11_wants_11 : decode cX11_wants 11 = .ok (.getfield 7, 3) := by decide +kernel
theorem dX11_wants_14 : decode cX11_wants 14 = .ok (.bipush 17, 2) := by decide +kernel
theorem dX11_wants_16 : decode cX11_wants 16 = .ok (.iload_n 1, 1) := by decide +kernel
theorem dX11_wants_17 : decode cX11_wants 17 = .ok (.iadd, 1) := by decide +kernel
theorem dX11_wants_18 : decode cX11_wants 18 = .ok (.iaload, 1) := by decide +kernel
theorem dX11_wants_19 : decode cX11_wants 19 = .ok (.invokevirtual 236, 3) := by decide +kernel
theorem dX11_wants_22 : decode cX11_wants 22 = .ok (.goto 7, 3) := by decide +kernel
theorem dX11_wants_25 : decode cX11_wants 25 = .ok (.aload_n 0, 1) := by decide +kernel
theorem dX11_wants_26 : decode cX11_wants 26 = .ok (.invokevirtual 74, 3) := by decide +kernel
theorem dX11_wants_29 : decode cX11_wants 29 = .ok (.ireturn, 1) := by decide +kernel
def x_X11_wants (M : gMem) (p1 : Int32) : Option (Int32 × gMem) := Option.bind (x_X11_isGuest M p1) (fun v1 => (if v1 = 0 then Option.bind (x_X11_bad M) (fun v5 => some (v5.1, v5.2)) else gd (gin (17 + p1) 70) (Option.bind (x_X11_wantsBy M p1 (M.1 0 60 (17 + p1).toNatClampNeg)) (fun v8 => some (v8, M)))))
set_option maxRecDepth 100000 in
set_option maxHeartbeats 4000000 in
theorem c_X11_wants {l : Launch} {Y : gY} {M : gMem} {p1 : Int32} {r : (Int32 × gMem)} (hx : x_X11_wants M p1 = some r) : Met l yX11_wants (gws yX11_wants cX11_wants 2 (some .int)) { frames := 2, cells := 0, slots := 0, locals := 50 } (va_Pc [.ref (gad Y 0 59), .int p1] (gS0 Y M)) (gQi Y r) 0 0 (gA Y) := by
  refine gmet (lv := [(0, .ref (gad Y 0 59)), (1, .int p1)]) "GuestStaffModel" (by decide) rfl (Nat.le_of_ble_eq_true rfl) rfl (fun X hC hF => ?_)
  unfold x_X11_wants at hx
  refine q_aload_n hC 0 dX11_wants_0 rfl rfl ?_
  refine q_iload_n hC 1 dX11_wants_1 rfl rfl ?_
  obtain ⟨v1, q2, hx⟩ := gb_e hx
  refine q_kzp (q_rV (As := [.int p1]) (rest := []) hC mm_X11_isGuest wM_X11_85 (c_X11_isGuest q2) ⟨rfl, rfl, Nat.le_of_ble_eq_true rfl, Nat.le_of_ble_eq_true rfl⟩ (gV_t (by decide) (by decide)) rfl rfl rfl rfl (Nat.le_of_ble_eq_true rfl) dX11_wants_2) (fun z3 => ?_)
  refine q_if_eq hC 25 dX11_wants_5 rfl (fun h4 => ?_) (fun h4 => ?_)
  · have hx := gi_p h4 hx
    refine q_aload_n hC 0 dX11_wants_25 rfl rfl ?_
    obtain ⟨v5, q6, hx⟩ := gb_e hx
    refine q_ki (q_rV (As := []) (rest := []) hC mm_X11_bad wM_X11_74 (c_X11_bad q6) ⟨rfl, rfl, Nat.le_of_ble_eq_true rfl, Nat.le_of_ble_eq_true rfl⟩ (gV_t (by decide) (by decide)) rfl rfl rfl rfl (Nat.le_of_ble_eq_true rfl) dX11_wants_26) ?_
    exact q_iret hC hF dX11_wants_29 (Option.some.inj hx)
  · have hx := gi_n h4 hx
    refine q_aload_n hC 0 dX11_wants_8 rfl rfl ?_
    refine q_iload_n hC 1 dX11_wants_9 rfl rfl ?_
    refine q_aload_n hC 0 dX11_wants_10 rfl rfl ?_
    refine gf_X11_7 hC dX11_wants_11 ?_
    refine q_bipush hC 17 dX11_wants_14 rfl ?_
    refine q_iload_n hC 1 dX11_wants_16 rfl rfl ?_
    refine q_iadd hC dX11_wants_17 ?_
    have g7 := (gd_e hx).1
    have hx := (gd_e hx).2
    refine q_iald hC 69 (gV_t (by decide) (by decide)) rfl g7 dX11_wants_18 ?_
    obtain ⟨v8, q9, hx⟩ := gb_e hx
    refine q_kip (q_rV (As := [.int p1, .int (M.1 0 60 (17 + p1).toNatClampNeg)]) (rest := []) hC mm_X11_wantsBy wM_X11_236 (c_X11_wantsBy q9) ⟨rfl, rfl, Nat.le_of_ble_eq_true rfl, Nat.le_of_ble_eq_true rfl⟩ (gV_t (by decide) (by decide)) rfl rfl rfl rfl (Nat.le_of_ble_eq_true rfl) dX11_wants_19) ?_
    refine q_goto hC 29 dX11_wants_22 rfl ?_
    exact q_iret hC hF dX11_wants_29 (Option.some.inj hx)

theorem dX11_is_0 : decode cX11_is 0 = .ok (.aload_n 0, 1) := by decide +kernel
theorem dX11_is_1 : decode cX11_is 1 = .ok (.iload_n 1, 1) := by decide +kernel
theorem dX11_is_2 : decode cX11_is 2 = .ok (.invokevirtual 85, 3) := by decide +kernel
theorem dX11_is_5 : decode cX11_is 5 = .ok (.ifCond .ne 8, 3) := by decide +kernel
theorem dX11_is_8 : decode cX11_is 8 = .ok (.aload_n 0, 1) := by decide +kernel
theorem dX11_is_9 : decode cX11_is 9 = .ok (.invokevirtual 74, 3) := by decide +kernel
theorem dX11_is_12 : decode cX11_is 12 = .ok (.ireturn, 1) := by decide +kernel
theorem dX11_is_13 : decode cX11_is 13 = .ok (.iconst 0, 1) := by decide +kernel
theorem dX11_is_14 : decode cX11_is 14 = .ok (.istore_n 2, 1) := by decide +kernel
theorem dX11_is_15 : decode cX11_is 15 = .ok (.iconst 0, 1) := by decide +kernel
theorem dX11_is_16 : decode cX11_is 16 = .ok (.istore_n 3, 1) := by decide +kernel
theorem dX11_is_17 : decode cX11_is 17 = .ok (.iload_n 3, 1) := by decide +kernel
theorem dX11_is_18 : decode cX11_is 18 = .ok (.iconst 5, 1) := by decide +kernel
theorem dX11_is_19 : decode cX11_is 19 = .ok (.if_icmp .gt 28, 3) := by decide +kernel
theorem dX11_is_22 : decode cX11_is 22 = .ok (.iload_n 2, 1) := by decide +kernel
theorem dX11_is_23 : decode cX11_is 23 = .ok (.aload_n 0, 1) := by decide +kernel
theorem dX11_is_24 : decode cX11_is 24 = .ok (.iload_n 1, 1) := by decide +kernel
theorem dX11_is_25 : decode cX11_is 25 = .ok (.iload_n 3, 1) := by decide +kernel
theorem dX11_is_26 : decode cX11_is 26 = .ok (.invokevirtual 236, 3) := by decide +kernel
theorem dX11_is_29 : decode cX11_is 29 = .ok (.ifCond .eq 9, 3) := by decide +kernel
theorem dX11_is_32 : decode cX11_is 32 = .ok (.iconst 1, 1) := by decide +kernel
theorem dX11_is_33 : decode cX11_is 33 = .ok (.iload_n 3, 1) := by decide +kernel
theorem dX11_is_34 : decode cX11_is 34 = .ok (.ishl, 1) := by decide +kernel
theorem dX11_is_35 : decode cX11_is 35 = .ok (.goto 4, 3) := by decide +kernel
theorem dX11_is_38 : decode cX11_is 38 = .ok (.iconst 0, 1) := by decide +kernel
theorem dX11_is_39 : decode cX11_is 39 = .ok (.ior, 1) := by decide +kernel
theorem dX11_is_40 : decode cX11_is 40 = .ok (.istore_n 2, 1) := by decide +kernel
theorem dX11_is_41 : decode cX11_is 41 = .ok (.iinc 3 1, 3) := by decide +kernel
theorem dX11_is_44 : decode cX11_is 44 = .ok (.goto (-27), 3) := by decide +kernel
theorem dX11_is_47 : decode cX11_is 47 = .ok (.iload_n 2, 1) := by decide +kernel
theorem dX11_is_48 : decode cX11_is 48 = .ok (.ireturn, 1) := by decide +kernel
def j_X11_is_17_39 (M : gMem) (a1 : Int32) (b3 : Int32) (t0 : Int32) (t1 : Int32) : Option ((Int32 × Int32) ⊕ (Int32 × Int32)) := some (.inl (t1 ||| t0, b3 + 1))
def s_X11_is_17 (M : gMem) (a1 : Int32) (b2 : Int32) (b3 : Int32) : Option ((Int32 × Int32) ⊕ (Int32 × Int32)) := (if 5 < b3 then some (.inr (b2, b3)) else Option.bind (x_X11_wantsBy M a1 b3) (fun v6 => (if v6 = 0 then j_X11_is_17_39 M a1 b3 0 b2 else j_X11_is_17_39 M a1 b3 (1 <<< (b3 &&& 31)) b2)))
def x_X11_is (M : gMem) (p1 : Int32) : Option (Int32 × gMem) := Option.bind (x_X11_isGuest M p1) (fun v1 => (if v1 = 0 then Option.bind (x_X11_bad M) (fun v10 => some (v10.1, v10.2)) else Option.bind (itr FU (fun s => s_X11_is_17 M p1 s.1 s.2) (0, 0)) (fun e9 => some (e9.1, M))))
set_option maxRecDepth 100000 in
set_option maxHeartbeats 4000000 in
theorem w_X11_is_17 {X : gX} {Y : gY} {M : gMem} {a1 : Int32} {r : (Int32 × gMem)} (hC : gC X Y cX11_is "GuestStaffModel" 4 2 50) (hF : gF X Y (some .int) (gQi Y r)) {e : (Int32 × Int32)} (kE : ∀ s : (Int32 × Int32), e = s → gWW X Y 4 47 [(2, .int s.1)] [] M) : ∀ (F : Nat) (s : (Int32 × Int32)), itr F (fun s => s_X11_is_17 M a1 s.1 s.2) s = some e → gWW X Y 4 17 [(0, .ref (gad Y 0 59)), (1, .int a1), (2, .int s.1), (3, .int s.2)] [] M := by
  intro F s
  refine itr_w (P := fun s => gWW X Y 4 17 [(0, .ref (gad Y 0 59)), (1, .int a1), (2, .int s.1), (3, .int s.2)] [] M) (fun s o hx kI kx => ?_) F s
  obtain ⟨b2, b3⟩ := s
  have hx : s_X11_is_17 M a1 b2 b3 = some o := hx
  have kE : ∀ s : (Int32 × Int32), o = .inr s → gWW X Y 4 47 [(2, .int s.1)] [] M := fun s q => kE s (kx _ q).symm
  have J39 : ∀ (b3 : Int32) (t0 : Int32) (t1 : Int32) , j_X11_is_17_39 M a1 b3 t0 t1 = some o → gWW X Y 4 39 [(0, .ref (gad Y 0 59)), (1, .int a1), (3, .int b3)] [.int t0, .int t1] M := by
    intro b3 t0 t1 hx
    unfold j_X11_is_17_39 at hx
    refine q_ior hC dX11_is_39 ?_
    refine q_istore_n hC [(2, .int (t1 ||| t0)), (0, .ref (gad Y 0 59)), (1, .int a1), (3, .int b3)] dX11_is_40 rfl (by decide) rfl ?_
    refine q_iinc hC 3 1 [(3, .int (b3 + 1)), (2, .int (t1 ||| t0)), (0, .ref (gad Y 0 59)), (1, .int a1)] dX11_is_41 rfl rfl (by decide) rfl ?_
    refine q_goto hC 17 dX11_is_44 rfl ?_
    exact q_sub [2, 3, 1, 0] rfl (kI (t1 ||| t0, b3 + 1) (Option.some.inj hx).symm)
  unfold s_X11_is_17 at hx
  refine q_iload_n hC 3 dX11_is_17 rfl rfl ?_
  refine q_iconst hC 5 dX11_is_18 rfl ?_
  refine q_ic_gt hC 47 dX11_is_19 rfl (fun h5 => ?_) (fun h5 => ?_)
  · have hx := gi_p h5 hx
    exact q_sub [2] rfl (kE (b2, b3) (Option.some.inj hx).symm)
  · have hx := gi_n h5 hx
    refine q_iload_n hC 2 dX11_is_22 rfl rfl ?_
    refine q_aload_n hC 0 dX11_is_23 rfl rfl ?_
    refine q_iload_n hC 1 dX11_is_24 rfl rfl ?_
    refine q_iload_n hC 3 dX11_is_25 rfl rfl ?_
    obtain ⟨v6, q7, hx⟩ := gb_e hx
    refine q_kip (q_rV (As := [.int a1, .int b3]) (rest := [.int b2]) hC mm_X11_wantsBy wM_X11_236 (c_X11_wantsBy q7) ⟨rfl, rfl, Nat.le_of_ble_eq_true rfl, Nat.le_of_ble_eq_true rfl⟩ (gV_t (by decide) (by decide)) rfl rfl rfl rfl (Nat.le_of_ble_eq_true rfl) dX11_is_26) ?_
    refine q_if_eq hC 38 dX11_is_29 rfl (fun h8 => ?_) (fun h8 => ?_)
    · have hx := gi_p h8 hx
      refine q_iconst hC 0 dX11_is_38 rfl ?_
      exact q_sub [0, 1, 3] rfl (J39 b3 0 b2 hx)
    · have hx := gi_n h8 hx
      refine q_iconst hC 1 dX11_is_32 rfl ?_
      refine q_iload_n hC 3 dX11_is_33 rfl rfl ?_
      refine q_ishl hC dX11_is_34 ?_
      refine q_goto hC 39 dX11_is_35 rfl ?_
      exact q_sub [0, 1, 3] rfl (J39 b3 (1 <<< (b3 &&& 31)) b2 hx)
set_option maxRecDepth 100000 in
set_option maxHeartbeats 4000000 in
theorem c_X11_is {l : Launch} {Y : gY} {M : gMem} {p1 : Int32} {r : (Int32 × gMem)} (hx : x_X11_is M p1 = some r) : Met l yX11_is (gws yX11_is cX11_is 4 (some .int)) { frames := 2, cells := 0, slots := 0, locals := 50 } (va_Pc [.ref (gad Y 0 59), .int p1] (gS0 Y M)) (gQi Y r) 0 0 (gA Y) := by
  refine gmet (lv := [(0, .ref (gad Y 0 59)), (1, .int p1)]) "GuestStaffModel" (by decide) rfl (Nat.le_of_ble_eq_true rfl) rfl (fun X hC hF => ?_)
  unfold x_X11_is at hx
  refine q_aload_n hC 0 dX11_is_0 rfl rfl ?_
  refine q_iload_n hC 1 dX11_is_1 rfl rfl ?_
  obtain ⟨v1, q2, hx⟩ := gb_e hx
  refine q_kzp (q_rV (As := [.int p1]) (rest := []) hC mm_X11_isGuest wM_X11_85 (c_X11_isGuest q2) ⟨rfl, rfl, Nat.le_of_ble_eq_true rfl, Nat.le_of_ble_eq_true rfl⟩ (gV_t (by decide) (by decide)) rfl rfl rfl rfl (Nat.le_of_ble_eq_true rfl) dX11_is_2) (fun z3 => ?_)
  refine q_if_ne hC 13 dX11_is_5 rfl (fun h4 => ?_) (fun h4 => ?_)
  · have hx := gi_n h4 hx
    refine q_iconst hC 0 dX11_is_13 rfl ?_
    refine q_istore_n hC [(2, .int 0), (0, .ref (gad Y 0 59)), (1, .int p1)] dX11_is_14 rfl (by decide) rfl ?_
    refine q_iconst hC 0 dX11_is_15 rfl ?_
    refine q_istore_n hC [(3, .int 0), (2, .int 0), (0, .ref (gad Y 0 59)), (1, .int p1)] dX11_is_16 rfl (by decide) rfl ?_
    obtain ⟨e9, qe9, hx⟩ := gb_e hx
    refine q_sub [2, 3, 1, 0] rfl (w_X11_is_17 hC hF (e := e9) (fun s q => ?_) _ _ qe9)
    · subst q
      refine q_iload_n hC 0 dX11_is_47 rfl rfl ?_
      exact q_iret hC hF dX11_is_48 (Option.some.inj hx)
  · have hx := gi_p h4 hx
    refine q_aload_n hC 0 dX11_is_8 rfl rfl ?_
    obtain ⟨v10, q11, hx⟩ := gb_e hx
    refine q_ki (q_rV (As := []) (rest := []) hC mm_X11_bad wM_X11_74 (c_X11_bad q11) ⟨rfl, rfl, Nat.le_of_ble_eq_true rfl, Nat.le_of_ble_eq_true rfl⟩ (gV_t (by decide) (by decide)) rfl rfl rfl rfl (Nat.le_of_ble_eq_true rfl) dX11_is_9) ?_
    exact q_iret hC hF dX11_is_12 (Option.some.inj hx)

theorem dX11_next_0 : decode cX11_next 0 = .ok (.aload_n 0, 1) := by decide +kernel
theorem dX11_next_1 : decode cX11_next 1 = .ok (.iload_n 1, 1) := by decide +kernel
theorem dX11_next_2 : decode cX11_next 2 = .ok (.invokevirtual 85, 3) := by decide +kernel
theorem dX11_next_5 : decode cX11_next 5 = .ok (.ifCond .ne 8, 3) := by decide +kernel
theorem dX11_next_8 : decode cX11_next 8 = .ok (.aload_n 0, 1) := by decide +kernel
theorem dX11_next_9 : decode cX11_next 9 = .ok (.invokevirtual 74, 3) := by decide +kernel
theorem dX11_next_12 : decode cX11_next 12 = .ok (.ireturn, 1) := by decide +kernel
theorem dX11_next_13 : decode cX11_next 13 = .ok (.aload_n 0, 1) := by decide +kernel
theorem dX11_next_14 : decode cX11_next 14 = .ok (.iload_n 1, 1) := by decide +kernel
theorem dX11_next_15 : decode cX11_next 15 = .ok (.aload_n 0, 1) := by decide +kernel
theorem dX11_next_16 : decode cX11_next 16 = .ok (.getfield 7, 3) := by decide +kernel
theorem dX11_next_19 : decode cX11_next 19 = .ok (.bipush 17, 2) := by decide +kernel
theorem dX11_next_21 : decode cX11_next 21 = .ok (.iload_n 1, 1) := by decide +kernel
theorem dX11_next_22 : decode cX11_next 22 = .ok (.iadd, 1) := by decide +kernel
theorem dX11_next_23 : decode cX11_next 23 = .ok (.iaload, 1) := by decide +kernel
theorem dX11_next_24 : decode cX11_next 24 = .ok (.invokevirtual 236, 3) := by decide +kernel
theorem dX11_next_27 : decode cX11_next 27 = .ok (.istore_n 2, 1) := by decide +kernel
theorem dX11_next_28 : decode cX11_next 28 = .ok (.iload_n 2, 1) := by decide +kernel
theorem dX11_next_29 : decode cX11_next 29 = .ok (.invokestatic 223, 3) := by decide +kernel
theorem dX11_next_32 : decode cX11_next 32 = .ok (.istore_n 3, 1) := by decide +kernel
theorem dX11_next_33 : decode cX11_next 33 = .ok (.iconst (-1), 1) := by decide +kernel
theorem dX11_next_34 : decode cX11_next 34 = .ok (.istore 4, 2) := by decide +kernel
theorem dX11_next_36 : decode cX11_next 36 = .ok (.bipush 9, 2) := by decide +kernel
theorem dX11_next_38 : decode cX11_next 38 = .ok (.istore 5, 2) := by decide +kernel
theorem dX11_next_40 : decode cX11_next 40 = .ok (.iconst 0, 1) := by decide +kernel
theorem dX11_next_41 : decode cX11_next 41 = .ok (.istore 6, 2) := by decide +kernel
theorem dX11_next_43 : decode cX11_next 43 = .ok (.iload 6, 2) := by decide +kernel
theorem dX11_next_45 : decode cX11_next 45 = .ok (.bipush 8, 2) := by decide +kernel
theorem dX11_next_47 : decode cX11_next 47 = .ok (.if_icmp .ge 81, 3) := by decide +kernel
theorem dX11_next_50 : decode cX11_next 50 = .ok (.iload_n 3, 1) := by decide +kernel
theorem dX11_next_51 : decode cX11_next 51 = .ok (.ifCond .le 77, 3) := by decide +kernel
theorem dX11_next_54 : decode cX11_next 54 = .ok (.iload_n 2, 1) := by decide +kernel
theorem dX11_next_55 : decode cX11_next 55 = .ok (.iload 6, 2) := by decide +kernel
theorem dX11_next_57 : decode cX11_next 57 = .ok (.invokestatic 153, 3) := by decide +kernel
theorem dX11_next_60 : decode cX11_next 60 = .ok (.ifCond .eq 7, 3) := by decide +kernel
theorem dX11_next_63 : decode cX11_next 63 = .ok (.iconst 1, 1) := by decide +kernel
theorem dX11_next_64 : decode cX11_next 64 = .ok (.goto 4, 3) := by decide +kernel
theorem dX11_next_67 : decode cX11_next 67 = .ok (.iconst 0, 1) := by decide +kernel
theorem dX11_next_68 : decode cX11_next 68 = .ok (.istore 7, 2) := by decide +kernel
theorem dX11_next_70 : decode cX11_next 70 = .ok (.iload 7, 2) := by decide +kernel
theorem dX11_next_72 : decode cX11_next 72 = .ok (.iload_n 3, 1) := by decide +kernel
theorem dX11_next_73 : decode cX11_next 73 = .ok (.iload 7, 2) := by decide +kernel
theorem dX11_next_75 : decode cX11_next 75 = .ok (.isub, 1) := by decide +kernel
theorem dX11_next_76 : decode cX11_next 76 = .ok (.if_icmp .le 8, 3) := by decide +kernel
theorem dX11_next_79 : decode cX11_next 79 = .ok (.iload 7, 2) := by decide +kernel
theorem dX11_next_81 : decode cX11_next 81 = .ok (.goto 7, 3) := by decide +kernel
theorem dX11_next_84 : decode cX11_next 84 = .ok (.iload_n 3, 1) := by decide +kernel
theorem dX11_next_85 : decode cX11_next 85 = .ok (.iload 7, 2) := by decide +kernel
theorem dX11_next_87 : decode cX11_next 87 = .ok (.isub, 1) := by decide +kernel
theorem dX11_next_88 : decode cX11_next 88 = .ok (.istore 8, 2) := by decide +kernel
theorem dX11_next_90 : decode cX11_next 90 = .ok (.iload 8, 2) := by decide +kernel
theorem dX11_next_92 : decode cX11_next 92 = .ok (.iload 5, 2) := by decide +kernel
theorem dX11_next_94 : decode cX11_next 94 = .ok (.if_icmp .ge 8, 3) := by decide +kernel
theorem dX11_next_97 : decode cX11_next 97 = .ok (.iload 6, 2) := by decide +kernel
theorem dX11_next_99 : decode cX11_next 99 = .ok (.goto 5, 3) := by decide +kernel
theorem dX11_next_102 : decode cX11_next 102 = .ok (.iload 4, 2) := by decide +kernel
theorem dX11_next_104 : decode cX11_next 104 = .ok (.istore 4, 2) := by decide +kernel
theorem dX11_next_106 : decode cX11_next 106 = .ok (.iload 8, 2) := by decide +kernel
theorem dX11_next_108 : decode cX11_next 108 = .ok (.iload 5, 2) := by decide +kernel
theorem dX11_next_110 : decode cX11_next 110 = .ok (.if_icmp .ge 8, 3) := by decide +kernel
theorem dX11_next_113 : decode cX11_next 113 = .ok (.iload 8, 2) := by decide +kernel
theorem dX11_next_115 : decode cX11_next 115 = .ok (.goto 5, 3) := by decide +kernel
theorem dX11_next_118 : decode cX11_next 118 = .ok (.iload 5, 2) := by decide +kernel
theorem dX11_next_120 : decode cX11_next 120 = .ok (.istore 5, 2) := by decide +kernel
theorem dX11_next_122 : decode cX11_next 122 = .ok (.iinc 6 1, 3) := by decide +kernel
theorem dX11_next_125 : decode cX11_next 125 = .ok (.goto (-82), 3) := by decide +kernel
theorem dX11_next_128 : decode cX11_next 128 = .ok (.iload 4, 2) := by decide +kernel
theorem dX11_next_130 : decode cX11_next 130 = .ok (.ireturn, 1) := by decide +kernel
def j_X11_next_43_120 (M : gMem) (a2 : Int32) (a3 : Int32) (b4 : Int32) (b6 : Int32) (t0 : Int32) : Option ((Int32 × Int32 × Int32) ⊕ (Int32 × Int32 × Int32)) := some (.inl (b4, t0, b6 + 1))
def j_X11_next_43_104 (M : gMem) (a2 : Int32) (a3 : Int32) (b5 : Int32) (b6 : Int32) (b8 : Int32) (t0 : Int32) : Option ((Int32 × Int32 × Int32) ⊕ (Int32 × Int32 × Int32)) := (if b5 ≤ b8 then j_X11_next_43_120 M a2 a3 t0 b6 b5 else j_X11_next_43_120 M a2 a3 t0 b6 b8)
def j_X11_next_43_88 (M : gMem) (a2 : Int32) (a3 : Int32) (b4 : Int32) (b5 : Int32) (b6 : Int32) (t0 : Int32) : Option ((Int32 × Int32 × Int32) ⊕ (Int32 × Int32 × Int32)) := (if b5 ≤ t0 then j_X11_next_43_104 M a2 a3 b5 b6 t0 b4 else j_X11_next_43_104 M a2 a3 b5 b6 t0 b6)
def j_X11_next_43_68 (M : gMem) (a2 : Int32) (a3 : Int32) (b4 : Int32) (b5 : Int32) (b6 : Int32) (t0 : Int32) : Option ((Int32 × Int32 × Int32) ⊕ (Int32 × Int32 × Int32)) := (if t0 ≤ (a3 - t0) then j_X11_next_43_88 M a2 a3 b4 b5 b6 (a3 - t0) else j_X11_next_43_88 M a2 a3 b4 b5 b6 t0)
def s_X11_next_43 (M : gMem) (a2 : Int32) (a3 : Int32) (b4 : Int32) (b5 : Int32) (b6 : Int32) : Option ((Int32 × Int32 × Int32) ⊕ (Int32 × Int32 × Int32)) := (if 8 ≤ b6 then some (.inr (b4, b5, b6)) else (if a3 ≤ 0 then some (.inr (b4, b5, b6)) else Option.bind (x_X11_has a2 b6) (fun v12 => (if v12 = 0 then j_X11_next_43_68 M a2 a3 b4 b5 b6 0 else j_X11_next_43_68 M a2 a3 b4 b5 b6 1))))
def x_X11_next (M : gMem) (p1 : Int32) : Option (Int32 × gMem) := Option.bind (x_X11_isGuest M p1) (fun v1 => (if v1 = 0 then Option.bind (x_X11_bad M) (fun v20 => some (v20.1, v20.2)) else gd (gin (17 + p1) 70) (Option.bind (x_X11_wantsBy M p1 (M.1 0 60 (17 + p1).toNatClampNeg)) (fun v6 => Option.bind (x_X11_ones v6) (fun v8 => Option.bind (itr FU (fun s => s_X11_next_43 M v6 v8 s.1 s.2.1 s.2.2) ((-1), 9, 0)) (fun e19 => some (e19.1, M)))))))
set_option maxRecDepth 100000 in
set_option maxHeartbeats 4000000 in
theorem w_X11_next_43 {X : gX} {Y : gY} {M : gMem} {a2 : Int32} {a3 : Int32} {r : (Int32 × gMem)} (hC : gC X Y cX11_next "GuestStaffModel" 9 2 50) (hF : gF X Y (some .int) (gQi Y r)) {e : (Int32 × Int32 × Int32)} (kE : ∀ s : (Int32 × Int32 × Int32), e = s → gWW X Y 9 128 [(4, .int s.1)] [] M) : ∀ (F : Nat) (s : (Int32 × Int32 × Int32)), itr F (fun s => s_X11_next_43 M a2 a3 s.1 s.2.1 s.2.2) s = some e → gWW X Y 9 43 [(2, .int a2), (3, .int a3), (4, .int s.1), (5, .int s.2.1), (6, .int s.2.2)] [] M := by
  intro F s
  refine itr_w (P := fun s => gWW X Y 9 43 [(2, .int a2), (3, .int a3), (4, .int s.1), (5, .int s.2.1), (6, .int s.2.2)] [] M) (fun s o hx kI kx => ?_) F s
  obtain ⟨b4, b5, b6⟩ := s
  have hx : s_X11_next_43 M a2 a3 b4 b5 b6 = some o := hx
  have kE : ∀ s : (Int32 × Int32 × Int32), o = .inr s → gWW X Y 9 128 [(4, .int s.1)] [] M := fun s q => kE s (kx _ q).symm
  have J120 : ∀ (b4 : Int32) (b6 : Int32) (t0 : Int32) , j_X11_next_43_120 M a2 a3 b4 b6 t0 = some o → gWW X Y 9 120 [(2, .int a2), (3, .int a3), (4, .int b4), (6, .int b6)] [.int t0] M := by
    intro b4 b6 t0 hx
    unfold j_X11_next_43_120 at hx
    refine q_istore hC [(5, .int t0), (2, .int a2), (3, .int a3), (4, .int b4), (6, .int b6)] dX11_next_120 (by decide) rfl ?_
    refine q_iinc hC 4 1 [(6, .int (b6 + 1)), (5, .int t0), (2, .int a2), (3, .int a3), (4, .int b4)] dX11_next_122 rfl rfl (by decide) rfl ?_
    refine q_goto hC 43 dX11_next_125 rfl ?_
    exact q_sub [2, 3, 4, 1, 0] rfl (kI (b4, t0, b6 + 1) (Option.some.inj hx).symm)
  have J104 : ∀ (b5 : Int32) (b6 : Int32) (b8 : Int32) (t0 : Int32) , j_X11_next_43_104 M a2 a3 b5 b6 b8 t0 = some o → gWW X Y 9 104 [(2, .int a2), (3, .int a3), (5, .int b5), (6, .int b6), (8, .int b8)] [.int t0] M := by
    intro b5 b6 b8 t0 hx
    unfold j_X11_next_43_104 at hx
    refine q_istore hC [(4, .int t0), (2, .int a2), (3, .int a3), (5, .int b5), (6, .int b6), (8, .int b8)] dX11_next_104 (by decide) rfl ?_
    refine q_iload hC 5 dX11_next_106 rfl ?_
    refine q_iload hC 3 dX11_next_108 rfl ?_
    refine q_ic_ge hC 118 dX11_next_110 rfl (fun h18 => ?_) (fun h18 => ?_)
    · have hx := gi_p h18 hx
      refine q_iload hC 3 dX11_next_118 rfl ?_
      exact q_sub [1, 2, 0, 4] rfl (J120 t0 b6 b5 hx)
    · have hx := gi_n h18 hx
      refine q_iload hC 5 dX11_next_113 rfl ?_
      refine q_goto hC 120 dX11_next_115 rfl ?_
      exact q_sub [1, 2, 0, 4] rfl (J120 t0 b6 b8 hx)
  have J88 : ∀ (b4 : Int32) (b5 : Int32) (b6 : Int32) (t0 : Int32) , j_X11_next_43_88 M a2 a3 b4 b5 b6 t0 = some o → gWW X Y 9 88 [(2, .int a2), (3, .int a3), (4, .int b4), (5, .int b5), (6, .int b6)] [.int t0] M := by
    intro b4 b5 b6 t0 hx
    unfold j_X11_next_43_88 at hx
    refine q_istore hC [(8, .int t0), (2, .int a2), (3, .int a3), (4, .int b4), (5, .int b5), (6, .int b6)] dX11_next_88 (by decide) rfl ?_
    refine q_iload hC 0 dX11_next_90 rfl ?_
    refine q_iload hC 4 dX11_next_92 rfl ?_
    refine q_ic_ge hC 102 dX11_next_94 rfl (fun h17 => ?_) (fun h17 => ?_)
    · have hx := gi_p h17 hx
      refine q_iload hC 3 dX11_next_102 rfl ?_
      exact q_sub [1, 2, 4, 5, 0] rfl (J104 b5 b6 t0 b4 hx)
    · have hx := gi_n h17 hx
      refine q_iload hC 5 dX11_next_97 rfl ?_
      refine q_goto hC 104 dX11_next_99 rfl ?_
      exact q_sub [1, 2, 4, 5, 0] rfl (J104 b5 b6 t0 b6 hx)
  have J68 : ∀ (b4 : Int32) (b5 : Int32) (b6 : Int32) (t0 : Int32) , j_X11_next_43_68 M a2 a3 b4 b5 b6 t0 = some o → gWW X Y 9 68 [(2, .int a2), (3, .int a3), (4, .int b4), (5, .int b5), (6, .int b6)] [.int t0] M := by
    intro b4 b5 b6 t0 hx
    unfold j_X11_next_43_68 at hx
    refine q_istore hC [(7, .int t0), (2, .int a2), (3, .int a3), (4, .int b4), (5, .int b5), (6, .int b6)] dX11_next_68 (by decide) rfl ?_
    refine q_iload hC 0 dX11_next_70 rfl ?_
    refine q_iload_n hC 2 dX11_next_72 rfl rfl ?_
    refine q_iload hC 0 dX11_next_73 rfl ?_
    refine q_isub hC dX11_next_75 ?_
    refine q_ic_le hC 84 dX11_next_76 rfl (fun h16 => ?_) (fun h16 => ?_)
    · have hx := gi_p h16 hx
      refine q_iload_n hC 2 dX11_next_84 rfl rfl ?_
      refine q_iload hC 0 dX11_next_85 rfl ?_
      refine q_isub hC dX11_next_87 ?_
      exact q_sub [1, 2, 3, 4, 5] rfl (J88 b4 b5 b6 (a3 - t0) hx)
    · have hx := gi_n h16 hx
      refine q_iload hC 0 dX11_next_79 rfl ?_
      refine q_goto hC 88 dX11_next_81 rfl ?_
      exact q_sub [1, 2, 3, 4, 5] rfl (J88 b4 b5 b6 t0 hx)
  unfold s_X11_next_43 at hx
  refine q_iload hC 4 dX11_next_43 rfl ?_
  refine q_bipush hC 8 dX11_next_45 rfl ?_
  refine q_ic_ge hC 128 dX11_next_47 rfl (fun h10 => ?_) (fun h10 => ?_)
  · have hx := gi_p h10 hx
    exact q_sub [2] rfl (kE (b4, b5, b6) (Option.some.inj hx).symm)
  · have hx := gi_n h10 hx
    refine q_iload_n hC 1 dX11_next_50 rfl rfl ?_
    refine q_if_le hC 128 dX11_next_51 rfl (fun h11 => ?_) (fun h11 => ?_)
    · have hx := gi_p h11 hx
      exact q_sub [2] rfl (kE (b4, b5, b6) (Option.some.inj hx).symm)
    · have hx := gi_n h11 hx
      refine q_iload_n hC 0 dX11_next_54 rfl rfl ?_
      refine q_iload hC 4 dX11_next_55 rfl ?_
      obtain ⟨v12, q13, hx⟩ := gb_e hx
      refine q_kzp (q_rS (As := [.int a2, .int b6]) (rest := []) hC mm_X11_has wM_X11_153 (c_X11_has q13) ⟨rfl, rfl, Nat.le_of_ble_eq_true rfl, Nat.le_of_ble_eq_true rfl⟩ rfl rfl (Nat.le_of_ble_eq_true rfl) dX11_next_57) (fun z14 => ?_)
      refine q_if_eq hC 67 dX11_next_60 rfl (fun h15 => ?_) (fun h15 => ?_)
      · have hx := gi_p h15 hx
        refine q_iconst hC 0 dX11_next_67 rfl ?_
        exact q_sub [0, 1, 2, 3, 4] rfl (J68 b4 b5 b6 0 hx)
      · have hx := gi_n h15 hx
        refine q_iconst hC 1 dX11_next_63 rfl ?_
        refine q_goto hC 68 dX11_next_64 rfl ?_
        exact q_sub [0, 1, 2, 3, 4] rfl (J68 b4 b5 b6 1 hx)
set_option maxRecDepth 100000 in
set_option maxHeartbeats 4000000 in
theorem c_X11_next {l : Launch} {Y : gY} {M : gMem} {p1 : Int32} {r : (Int32 × gMem)} (hx : x_X11_next M p1 = some r) : Met l yX11_next (gws yX11_next cX11_next 9 (some .int)) { frames := 2, cells := 0, slots := 0, locals := 50 } (va_Pc [.ref (gad Y 0 59), .int p1] (gS0 Y M)) (gQi Y r) 0 0 (gA Y) := by
  refine gmet (lv := [(0, .ref (gad Y 0 59)), (1, .int p1)]) "GuestStaffModel" (by decide) rfl (Nat.le_of_ble_eq_true rfl) rfl (fun X hC hF => ?_)
  unfold x_X11_next at hx
  refine q_aload_n hC 0 dX11_next_0 rfl rfl ?_
  refine q_iload_n hC 1 dX11_next_1 rfl rfl ?_
  obtain ⟨v1, q2, hx⟩ := gb_e hx
  refine q_kzp (q_rV (As := [.int p1]) (rest := []) hC mm_X11_isGuest wM_X11_85 (c_X11_isGuest q2) ⟨rfl, rfl, Nat.le_of_ble_eq_true rfl, Nat.le_of_ble_eq_true rfl⟩ (gV_t (by decide) (by decide)) rfl rfl rfl rfl (Nat.le_of_ble_eq_true rfl) dX11_next_2) (fun z3 => ?_)
  refine q_if_ne hC 13 dX11_next_5 rfl (fun h4 => ?_) (fun h4 => ?_)
  · have hx := gi_n h4 hx
    refine q_aload_n hC 0 dX11_next_13 rfl rfl ?_
    refine q_iload_n hC 1 dX11_next_14 rfl rfl ?_
    refine q_aload_n hC 0 dX11_next_15 rfl rfl ?_
    refine gf_X11_7 hC dX11_next_16 ?_
    refine q_bipush hC 17 dX11_next_19 rfl ?_
    refine q_iload_n hC 1 dX11_next_21 rfl rfl ?_
    refine q_iadd hC dX11_next_22 ?_
    have g5 := (gd_e hx).1
    have hx := (gd_e hx).2
    refine q_iald hC 69 (gV_t (by decide) (by decide)) rfl g5 dX11_next_23 ?_
    obtain ⟨v6, q7, hx⟩ := gb_e hx
    refine q_kip (q_rV (As := [.int p1, .int (M.1 0 60 (17 + p1).toNatClampNeg)]) (rest := []) hC mm_X11_wantsBy wM_X11_236 (c_X11_wantsBy q7) ⟨rfl, rfl, Nat.le_of_ble_eq_true rfl, Nat.le_of_ble_eq_true rfl⟩ (gV_t (by decide) (by decide)) rfl rfl rfl rfl (Nat.le_of_ble_eq_true rfl) dX11_next_24) ?_
    refine q_istore_n hC [(2, .int v6), (0, .ref (gad Y 0 59)), (1, .int p1)] dX11_next_27 rfl (by decide) rfl ?_
    refine q_iload_n hC 0 dX11_next_28 rfl rfl ?_
    obtain ⟨v8, q9, hx⟩ := gb_e hx
    refine q_kip (q_rS (As := [.int v6]) (rest := []) hC mm_X11_ones wM_X11_223 (c_X11_ones q9) ⟨rfl, rfl, Nat.le_of_ble_eq_true rfl, Nat.le_of_ble_eq_true rfl⟩ rfl rfl (Nat.le_of_ble_eq_true rfl) dX11_next_29) ?_
    refine q_istore_n hC [(3, .int v8), (2, .int v6), (0, .ref (gad Y 0 59)), (1, .int p1)] dX11_next_32 rfl (by decide) rfl ?_
    refine q_iconst hC (-1) dX11_next_33 rfl ?_
    refine q_istore hC [(4, .int (-1)), (3, .int v8), (2, .int v6), (0, .ref (gad Y 0 59)), (1, .int p1)] dX11_next_34 (by decide) rfl ?_
    refine q_bipush hC 9 dX11_next_36 rfl ?_
    refine q_istore hC [(5, .int 9), (4, .int (-1)), (3, .int v8), (2, .int v6), (0, .ref (gad Y 0 59)), (1, .int p1)] dX11_next_38 (by decide) rfl ?_
    refine q_iconst hC 0 dX11_next_40 rfl ?_
    refine q_istore hC [(6, .int 0), (5, .int 9), (4, .int (-1)), (3, .int v8), (2, .int v6), (0, .ref (gad Y 0 59)), (1, .int p1)] dX11_next_41 (by decide) rfl ?_
    obtain ⟨e19, qe19, hx⟩ := gb_e hx
    refine q_sub [4, 3, 2, 1, 0] rfl (w_X11_next_43 hC hF (e := e19) (fun s q => ?_) _ _ qe19)
    · subst q
      refine q_iload hC 0 dX11_next_128 rfl ?_
      exact q_iret hC hF dX11_next_130 (Option.some.inj hx)
  · have hx := gi_p h4 hx
    refine q_aload_n hC 0 dX11_next_8 rfl rfl ?_
    obtain ⟨v20, q21, hx⟩ := gb_e hx
    refine q_ki (q_rV (As := []) (rest := []) hC mm_X11_bad wM_X11_74 (c_X11_bad q21) ⟨rfl, rfl, Nat.le_of_ble_eq_true rfl, Nat.le_of_ble_eq_true rfl⟩ (gV_t (by decide) (by decide)) rfl rfl rfl rfl (Nat.le_of_ble_eq_true rfl) dX11_next_9) ?_
    exact q_iret hC hF dX11_next_12 (Option.some.inj hx)

theorem dX11_putAside_0 : decode cX11_putAside 0 = .ok (.iconst 0, 1) := by decide +kernel
theorem dX11_putAside_1 : decode cX11_putAside 1 = .ok (.istore_n 1, 1) := by decide +kernel
theorem dX11_putAside_2 : decode cX11_putAside 2 = .ok (.iload_n 1, 1) := by decide +kernel
theorem dX11_putAside_3 : decode cX11_putAside 3 = .ok (.bipush 16, 2) := by decide +kernel
theorem dX11_putAside_5 : decode cX11_putAside 5 = .ok (.if_icmp .ge 21, 3) := by decide +kernel
theorem dX11_putAside_8 : decode cX11_putAside 8 = .ok (.aload_n 0, 1) := by decide +kernel
theorem dX11_putAside_9 : decode cX11_putAside 9 = .ok (.getfield 41, 3) := by decide +kernel
theorem dX11_putAside_12 : decode cX11_putAside 12 = .ok (.iload_n 1, 1) := by decide +kernel
theorem dX11_putAside_13 : decode cX11_putAside 13 = .ok (.aload_n 0, 1) := by decide +kernel
theorem dX11_putAside_14 : decode cX11_putAside 14 = .ok (.getfield 7, 3) := by decide +kernel
theorem dX11_putAside_17 : decode cX11_putAside 17 = .ok (.iload_n 1, 1) := by decide +kernel
theorem dX11_putAside_18 : decode cX11_putAside 18 = .ok (.iaload, 1) := by decide +kernel
theorem dX11_putAside_19 : decode cX11_putAside 19 = .ok (.iastore, 1) := by decide +kernel
theorem dX11_putAside_20 : decode cX11_putAside 20 = .ok (.iinc 1 1, 3) := by decide +kernel
theorem dX11_putAside_23 : decode cX11_putAside 23 = .ok (.goto (-21), 3) := by decide +kernel
theorem dX11_putAside_26 : decode cX11_putAside 26 = .ok (.return_, 1) := by decide +kernel
def s_X11_putAside_2 (b1 : Int32) (N : gMem) : Option ((Int32 × gMem) ⊕ (Int32 × gMem)) := (if 16 ≤ b1 then some (.inr (b1, N)) else gd (gin b1 70) (gd (gin b1 16) (some (.inl (b1 + 1, gwr N 0 69 (b1).toNatClampNeg (N.1 0 60 (b1).toNatClampNeg))))))
def x_X11_putAside (M : gMem) : Option gMem := Option.bind (itr FU (fun s => s_X11_putAside_2 s.1 s.2) (0, M)) (fun e4 => some e4.2)
set_option maxRecDepth 100000 in
set_option maxHeartbeats 4000000 in
theorem w_X11_putAside_2 {X : gX} {Y : gY} {r : gMem} (hC : gC X Y cX11_putAside "GuestStaffModel" 2 0 0) (hF : gF X Y none (gQv Y r)) {e : (Int32 × gMem)} (kE : ∀ s : (Int32 × gMem), e = s → gWW X Y 2 26 [] [] s.2) : ∀ (F : Nat) (s : (Int32 × gMem)), itr F (fun s => s_X11_putAside_2 s.1 s.2) s = some e → gWW X Y 2 2 [(0, .ref (gad Y 0 59)), (1, .int s.1)] [] s.2 := by
  intro F s
  refine itr_w (P := fun s => gWW X Y 2 2 [(0, .ref (gad Y 0 59)), (1, .int s.1)] [] s.2) (fun s o hx kI kx => ?_) F s
  obtain ⟨b1, N⟩ := s
  have hx : s_X11_putAside_2 b1 N = some o := hx
  have kE : ∀ s : (Int32 × gMem), o = .inr s → gWW X Y 2 26 [] [] s.2 := fun s q => kE s (kx _ q).symm
  unfold s_X11_putAside_2 at hx
  refine q_iload_n hC 1 dX11_putAside_2 rfl rfl ?_
  refine q_bipush hC 16 dX11_putAside_3 rfl ?_
  refine q_ic_ge hC 26 dX11_putAside_5 rfl (fun h1 => ?_) (fun h1 => ?_)
  · have hx := gi_p h1 hx
    exact q_sub [] rfl (kE (b1, N) (Option.some.inj hx).symm)
  · have hx := gi_n h1 hx
    refine q_aload_n hC 0 dX11_putAside_8 rfl rfl ?_
    refine gf_X11_41 hC dX11_putAside_9 ?_
    refine q_iload_n hC 1 dX11_putAside_12 rfl rfl ?_
    refine q_aload_n hC 0 dX11_putAside_13 rfl rfl ?_
    refine gf_X11_7 hC dX11_putAside_14 ?_
    refine q_iload_n hC 1 dX11_putAside_17 rfl rfl ?_
    have g2 := (gd_e hx).1
    have hx := (gd_e hx).2
    refine q_iald hC 69 (gV_t (by decide) (by decide)) rfl g2 dX11_putAside_18 ?_
    have g3 := (gd_e hx).1
    have hx := (gd_e hx).2
    refine q_iast hC 15 (gV_t (by decide) (by decide)) rfl g3 dX11_putAside_19 ?_
    refine q_iinc hC 1 1 [(1, .int (b1 + 1)), (0, .ref (gad Y 0 59))] dX11_putAside_20 rfl rfl (by decide) rfl ?_
    refine q_goto hC 2 dX11_putAside_23 rfl ?_
    exact q_sub [1, 0] rfl (kI (b1 + 1, gwr N 0 69 (b1).toNatClampNeg (N.1 0 60 (b1).toNatClampNeg)) (Option.some.inj hx).symm)
set_option maxRecDepth 100000 in
set_option maxHeartbeats 4000000 in
theorem c_X11_putAside {l : Launch} {Y : gY} {M : gMem} {r : gMem} (hx : x_X11_putAside M = some r) : Met l yX11_putAside (gws yX11_putAside cX11_putAside 2 none) { frames := 0, cells := 0, slots := 0, locals := 0 } (va_Pc [.ref (gad Y 0 59)] (gS0 Y M)) (gQv Y r) 0 0 (gA Y) := by
  refine gmet (lv := [(0, .ref (gad Y 0 59))]) "GuestStaffModel" (by decide) rfl (Nat.le_of_ble_eq_true rfl) rfl (fun X hC hF => ?_)
  unfold x_X11_putAside at hx
  refine q_iconst hC 0 dX11_putAside_0 rfl ?_
  refine q_istore_n hC [(1, .int 0), (0, .ref (gad Y 0 59))] dX11_putAside_1 rfl (by decide) rfl ?_
  obtain ⟨e4, qe4, hx⟩ := gb_e hx
  refine q_sub [1, 0] rfl (w_X11_putAside_2 hC hF (e := e4) (fun s q => ?_) _ _ qe4)
  · subst q
    exact q_vret hC hF dX11_putAside_26 (Option.some.inj hx)
