theorem dX10_house_0 : decode cX10_house 0 = .ok (.aload_n 0, 1) := by decide +kernel
theorem dX10_house_1 : decode cX10_house 1 = .ok (.getfield 61, 3) := by decide +kernel
theorem dX10_house_4 : decode cX10_house 4 = .ok (.getfield 72, 3) := by decide +kernel
theorem dX10_house_7 : decode cX10_house 7 = .ok (.istore_n 1, 1) := by decide +kernel
theorem dX10_house_8 : decode cX10_house 8 = .ok (.aload_n 0, 1) := by decide +kernel
theorem dX10_house_9 : decode cX10_house 9 = .ok (.getfield 61, 3) := by decide +kernel
theorem dX10_house_12 : decode cX10_house 12 = .ok (.invokevirtual 76, 3) := by decide +kernel
theorem dX10_house_15 : decode cX10_house 15 = .ok (.iload_n 1, 1) := by decide +kernel
theorem dX10_house_16 : decode cX10_house 16 = .ok (.ireturn, 1) := by decide +kernel
def x_X10_house (M : gMem) : Option (Int32 × gMem) := Option.bind (x_X1_empty M 0) (fun v1 => some (M.1 0 0 13, v1))
set_option maxRecDepth 100000 in
set_option maxHeartbeats 4000000 in
theorem c_X10_house {l : Launch} {Y : gY} {M : gMem} {r : (Int32 × gMem)} (hx : x_X10_house M = some r) : Met l yX10_house (gws yX10_house cX10_house 2 (some .int)) { frames := 1, cells := 0, slots := 0, locals := 20 } (va_Pc [.ref (gad Y 0 34)] (gS0 Y M)) (gQi Y r) 0 0 (gA Y) := by
  refine gmet (lv := [(0, .ref (gad Y 0 34))]) "GuestStaff" (by decide) rfl (Nat.le_of_ble_eq_true rfl) rfl (fun X hC hF => ?_)
  unfold x_X10_house at hx
  refine q_aload_n hC 0 dX10_house_0 rfl rfl ?_
  refine gf_X10_61 hC dX10_house_1 ?_
  refine gf_X10_72 hC (by decide) dX10_house_4 ?_
  refine q_istore_n hC [(1, .int (M.1 0 0 13)), (0, .ref (gad Y 0 34))] dX10_house_7 rfl (by decide) rfl ?_
  refine q_aload_n hC 1 dX10_house_8 rfl rfl ?_
  refine gf_X10_61 hC dX10_house_9 ?_
  obtain ⟨v1, q2, hx⟩ := gb_e hx
  refine q_kv (q_rV (As := []) (rest := []) hC mm_X1_empty wM_X10_76 (c_X1_empty (by decide) q2) ⟨rfl, rfl, Nat.le_of_ble_eq_true rfl, Nat.le_of_ble_eq_true rfl⟩ (gV_h (by decide) (by decide)) rfl rfl rfl rfl (Nat.le_of_ble_eq_true rfl) dX10_house_12) ?_
  refine q_iload_n hC 0 dX10_house_15 rfl rfl ?_
  exact q_iret hC hF dX10_house_16 (Option.some.inj hx)

theorem dX10_isBelow_0 : decode cX10_isBelow 0 = .ok (.iload_n 0, 1) := by decide +kernel
theorem dX10_isBelow_1 : decode cX10_isBelow 1 = .ok (.ifCond .lt 12, 3) := by decide +kernel
theorem dX10_isBelow_4 : decode cX10_isBelow 4 = .ok (.iload_n 0, 1) := by decide +kernel
theorem dX10_isBelow_5 : decode cX10_isBelow 5 = .ok (.iload_n 1, 1) := by decide +kernel
theorem dX10_isBelow_6 : decode cX10_isBelow 6 = .ok (.if_icmp .ge 7, 3) := by decide +kernel
theorem dX10_isBelow_9 : decode cX10_isBelow 9 = .ok (.iconst 1, 1) := by decide +kernel
theorem dX10_isBelow_10 : decode cX10_isBelow 10 = .ok (.goto 4, 3) := by decide +kernel
theorem dX10_isBelow_13 : decode cX10_isBelow 13 = .ok (.iconst 0, 1) := by decide +kernel
theorem dX10_isBelow_14 : decode cX10_isBelow 14 = .ok (.ireturn, 1) := by decide +kernel
def x_X10_isBelow (p0 : Int32) (p1 : Int32) : Option Int32 := (if p0 < 0 then some 0 else (if p1 ≤ p0 then some 0 else some 1))
set_option maxRecDepth 100000 in
set_option maxHeartbeats 4000000 in
theorem c_X10_isBelow {l : Launch} {Y : gY} {M : gMem} {p0 : Int32} {p1 : Int32} {r : Int32} (hx : x_X10_isBelow p0 p1 = some r) : Met l yX10_isBelow (gws yX10_isBelow cX10_isBelow 2 (some .boolean)) { frames := 0, cells := 0, slots := 0, locals := 0 } (va_Pc [.int p0, .int p1] (gS0 Y M)) (gQz Y (r, M)) 0 0 (gA Y) := by
  refine gmet (lv := [(0, .int p0), (1, .int p1)]) "GuestStaff" (by decide) rfl (Nat.le_of_ble_eq_true rfl) rfl (fun X hC hF => ?_)
  unfold x_X10_isBelow at hx
  refine q_iload_n hC 0 dX10_isBelow_0 rfl rfl ?_
  refine q_if_lt hC 13 dX10_isBelow_1 rfl (fun h1 => ?_) (fun h1 => ?_)
  · have hx := gi_p h1 hx
    refine q_iconst hC 0 dX10_isBelow_13 rfl ?_
    exact q_zret hC hF dX10_isBelow_14 (Or.inl rfl) (congrArg (fun z => (z, M)) (Option.some.inj hx))
  · have hx := gi_n h1 hx
    refine q_iload_n hC 0 dX10_isBelow_4 rfl rfl ?_
    refine q_iload_n hC 1 dX10_isBelow_5 rfl rfl ?_
    refine q_ic_ge hC 13 dX10_isBelow_6 rfl (fun h2 => ?_) (fun h2 => ?_)
    · have hx := gi_p h2 hx
      refine q_iconst hC 0 dX10_isBelow_13 rfl ?_
      exact q_zret hC hF dX10_isBelow_14 (Or.inl rfl) (congrArg (fun z => (z, M)) (Option.some.inj hx))
    · have hx := gi_n h2 hx
      refine q_iconst hC 1 dX10_isBelow_9 rfl ?_
      refine q_goto hC 14 dX10_isBelow_10 rfl ?_
      exact q_zret hC hF dX10_isBelow_14 (Or.inr rfl) (congrArg (fun z => (z, M)) (Option.some.inj hx))

theorem dX10_refuseBad_0 : decode cX10_refuseBad 0 = .ok (.aload_n 0, 1) := by decide +kernel
theorem dX10_refuseBad_1 : decode cX10_refuseBad 1 = .ok (.getfield 27, 3) := by decide +kernel
theorem dX10_refuseBad_4 : decode cX10_refuseBad 4 = .ok (.iconst 0, 1) := by decide +kernel
theorem dX10_refuseBad_5 : decode cX10_refuseBad 5 = .ok (.dup2, 1) := by decide +kernel
theorem dX10_refuseBad_6 : decode cX10_refuseBad 6 = .ok (.iaload, 1) := by decide +kernel
theorem dX10_refuseBad_7 : decode cX10_refuseBad 7 = .ok (.iconst 1, 1) := by decide +kernel
theorem dX10_refuseBad_8 : decode cX10_refuseBad 8 = .ok (.iadd, 1) := by decide +kernel
theorem dX10_refuseBad_9 : decode cX10_refuseBad 9 = .ok (.iastore, 1) := by decide +kernel
theorem dX10_refuseBad_10 : decode cX10_refuseBad 10 = .ok (.iload_n 1, 1) := by decide +kernel
theorem dX10_refuseBad_11 : decode cX10_refuseBad 11 = .ok (.ireturn, 1) := by decide +kernel
def x_X10_refuseBad (M : gMem) (p1 : Int32) : Option (Int32 × gMem) := some (p1, gwr M 0 50 0 ((M.1 0 50 0) + 1))
set_option maxRecDepth 100000 in
set_option maxHeartbeats 4000000 in
theorem c_X10_refuseBad {l : Launch} {Y : gY} {M : gMem} {p1 : Int32} {r : (Int32 × gMem)} (hx : x_X10_refuseBad M p1 = some r) : Met l yX10_refuseBad (gws yX10_refuseBad cX10_refuseBad 2 (some .int)) { frames := 0, cells := 0, slots := 0, locals := 0 } (va_Pc [.ref (gad Y 0 34), .int p1] (gS0 Y M)) (gQi Y r) 0 0 (gA Y) := by
  refine gmet (lv := [(0, .ref (gad Y 0 34)), (1, .int p1)]) "GuestStaff" (by decide) rfl (Nat.le_of_ble_eq_true rfl) rfl (fun X hC hF => ?_)
  unfold x_X10_refuseBad at hx
  refine q_aload_n hC 0 dX10_refuseBad_0 rfl rfl ?_
  refine gf_X10_27 hC dX10_refuseBad_1 ?_
  refine q_iconst hC 0 dX10_refuseBad_4 rfl ?_
  refine q_dup2 hC dX10_refuseBad_5 rfl rfl ?_
  refine q_ialdk hC 0 2 (gV_t (by decide) (by decide)) rfl (by decide) rfl dX10_refuseBad_6 ?_
  refine q_iconst hC 1 dX10_refuseBad_7 rfl ?_
  refine q_iadd hC dX10_refuseBad_8 ?_
  refine q_iastk hC 0 2 (gV_t (by decide) (by decide)) rfl (by decide) rfl dX10_refuseBad_9 ?_
  refine q_iload_n hC 1 dX10_refuseBad_10 rfl rfl ?_
  exact q_iret hC hF dX10_refuseBad_11 (Option.some.inj hx)

theorem dX10_refuseFull_0 : decode cX10_refuseFull 0 = .ok (.aload_n 0, 1) := by decide +kernel
theorem dX10_refuseFull_1 : decode cX10_refuseFull 1 = .ok (.getfield 27, 3) := by decide +kernel
theorem dX10_refuseFull_4 : decode cX10_refuseFull 4 = .ok (.iconst 2, 1) := by decide +kernel
theorem dX10_refuseFull_5 : decode cX10_refuseFull 5 = .ok (.dup2, 1) := by decide +kernel
theorem dX10_refuseFull_6 : decode cX10_refuseFull 6 = .ok (.iaload, 1) := by decide +kernel
theorem dX10_refuseFull_7 : decode cX10_refuseFull 7 = .ok (.iconst 1, 1) := by decide +kernel
theorem dX10_refuseFull_8 : decode cX10_refuseFull 8 = .ok (.iadd, 1) := by decide +kernel
theorem dX10_refuseFull_9 : decode cX10_refuseFull 9 = .ok (.iastore, 1) := by decide +kernel
theorem dX10_refuseFull_10 : decode cX10_refuseFull 10 = .ok (.bipush (-4), 2) := by decide +kernel
theorem dX10_refuseFull_12 : decode cX10_refuseFull 12 = .ok (.ireturn, 1) := by decide +kernel
def x_X10_refuseFull (M : gMem) : Option (Int32 × gMem) := some ((-4), gwr M 0 50 2 ((M.1 0 50 2) + 1))
set_option maxRecDepth 100000 in
set_option maxHeartbeats 4000000 in
theorem c_X10_refuseFull {l : Launch} {Y : gY} {M : gMem} {r : (Int32 × gMem)} (hx : x_X10_refuseFull M = some r) : Met l yX10_refuseFull (gws yX10_refuseFull cX10_refuseFull 1 (some .int)) { frames := 0, cells := 0, slots := 0, locals := 0 } (va_Pc [.ref (gad Y 0 34)] (gS0 Y M)) (gQi Y r) 0 0 (gA Y) := by
  refine gmet (lv := [(0, .ref (gad Y 0 34))]) "GuestStaff" (by decide) rfl (Nat.le_of_ble_eq_true rfl) rfl (fun X hC hF => ?_)
  unfold x_X10_refuseFull at hx
  refine q_aload_n hC 0 dX10_refuseFull_0 rfl rfl ?_
  refine gf_X10_27 hC dX10_refuseFull_1 ?_
  refine q_iconst hC 2 dX10_refuseFull_4 rfl ?_
  refine q_dup2 hC dX10_refuseFull_5 rfl rfl ?_
  refine q_ialdk hC 2 2 (gV_t (by decide) (by decide)) rfl (by decide) rfl dX10_refuseFull_6 ?_
  refine q_iconst hC 1 dX10_refuseFull_7 rfl ?_
  refine q_iadd hC dX10_refuseFull_8 ?_
  refine q_iastk hC 2 2 (gV_t (by decide) (by decide)) rfl (by decide) rfl dX10_refuseFull_9 ?_
  refine q_bipush hC (-4) dX10_refuseFull_10 rfl ?_
  exact q_iret hC hF dX10_refuseFull_12 (Option.some.inj hx)

theorem dX10_guest_0 : decode cX10_guest 0 = .ok (.iload_n 1, 1) := by decide +kernel
theorem dX10_guest_1 : decode cX10_guest 1 = .ok (.bipush 6, 2) := by decide +kernel
theorem dX10_guest_3 : decode cX10_guest 3 = .ok (.invokestatic 79, 3) := by decide +kernel
theorem dX10_guest_6 : decode cX10_guest 6 = .ok (.ifCond .eq 22, 3) := by decide +kernel
theorem dX10_guest_9 : decode cX10_guest 9 = .ok (.iload_n 2, 1) := by decide +kernel
theorem dX10_guest_10 : decode cX10_guest 10 = .ok (.bipush 8, 2) := by decide +kernel
theorem dX10_guest_12 : decode cX10_guest 12 = .ok (.invokestatic 79, 3) := by decide +kernel
theorem dX10_guest_15 : decode cX10_guest 15 = .ok (.ifCond .eq 13, 3) := by decide +kernel
theorem dX10_guest_18 : decode cX10_guest 18 = .ok (.iload_n 3, 1) := by decide +kernel
theorem dX10_guest_19 : decode cX10_guest 19 = .ok (.sipush 256, 3) := by decide +kernel
theorem dX10_guest_22 : decode cX10_guest 22 = .ok (.invokestatic 79, 3) := by decide +kernel
theorem dX10_guest_25 : decode cX10_guest 25 = .ok (.ifCond .ne 10, 3) := by decide +kernel
theorem dX10_guest_28 : decode cX10_guest 28 = .ok (.aload_n 0, 1) := by decide +kernel
theorem dX10_guest_29 : decode cX10_guest 29 = .ok (.bipush (-2), 2) := by decide +kernel
theorem dX10_guest_31 : decode cX10_guest 31 = .ok (.invokevirtual 83, 3) := by decide +kernel
theorem dX10_guest_34 : decode cX10_guest 34 = .ok (.ireturn, 1) := by decide +kernel
theorem dX10_guest_35 : decode cX10_guest 35 = .ok (.aload_n 0, 1) := by decide +kernel
theorem dX10_guest_36 : decode cX10_guest 36 = .ok (.getfield 61, 3) := by decide +kernel
theorem dX10_guest_39 : decode cX10_guest 39 = .ok (.getfield 72, 3) := by decide +kernel
theorem dX10_guest_42 : decode cX10_guest 42 = .ok (.bipush 7, 2) := by decide +kernel
theorem dX10_guest_44 : decode cX10_guest 44 = .ok (.if_icmp .lt 8, 3) := by decide +kernel
theorem dX10_guest_47 : decode cX10_guest 47 = .ok (.aload_n 0, 1) := by decide +kernel
theorem dX10_guest_48 : decode cX10_guest 48 = .ok (.invokevirtual 87, 3) := by decide +kernel
theorem dX10_guest_51 : decode cX10_guest 51 = .ok (.ireturn, 1) := by decide +kernel
theorem dX10_guest_52 : decode cX10_guest 52 = .ok (.aload_n 0, 1) := by decide +kernel
theorem dX10_guest_53 : decode cX10_guest 53 = .ok (.getfield 61, 3) := by decide +kernel
theorem dX10_guest_56 : decode cX10_guest 56 = .ok (.iload_n 1, 1) := by decide +kernel
theorem dX10_guest_57 : decode cX10_guest 57 = .ok (.iload_n 2, 1) := by decide +kernel
theorem dX10_guest_58 : decode cX10_guest 58 = .ok (.iload_n 3, 1) := by decide +kernel
theorem dX10_guest_59 : decode cX10_guest 59 = .ok (.invokevirtual 91, 3) := by decide +kernel
theorem dX10_guest_62 : decode cX10_guest 62 = .ok (.ireturn, 1) := by decide +kernel
def j_X10_guest_28 (M : gMem) (p1 : Int32) (p2 : Int32) (p3 : Int32) (N : gMem) : Option (Int32 × gMem) := Option.bind (x_X10_refuseBad N (-2)) (fun v5 => some (v5.1, v5.2))
def x_X10_guest (M : gMem) (p1 : Int32) (p2 : Int32) (p3 : Int32) : Option (Int32 × gMem) := Option.bind (x_X10_isBelow p1 6) (fun v1 => (if v1 = 0 then j_X10_guest_28 M p1 p2 p3 M else Option.bind (x_X10_isBelow p2 8) (fun v7 => (if v7 = 0 then j_X10_guest_28 M p1 p2 p3 M else Option.bind (x_X10_isBelow p3 256) (fun v11 => (if v11 = 0 then j_X10_guest_28 M p1 p2 p3 M else (if (M.1 0 0 13) < 7 then Option.bind (x_X1_admit M 0 p1 p2 p3) (fun v16 => some (v16.1, v16.2)) else Option.bind (x_X10_refuseFull M) (fun v18 => some (v18.1, v18.2)))))))))
set_option maxRecDepth 100000 in
set_option maxHeartbeats 4000000 in
theorem c_X10_guest {l : Launch} {Y : gY} {M : gMem} {p1 : Int32} {p2 : Int32} {p3 : Int32} {r : (Int32 × gMem)} (hx : x_X10_guest M p1 p2 p3 = some r) : Met l yX10_guest (gws yX10_guest cX10_guest 4 (some .int)) { frames := 1, cells := 0, slots := 0, locals := 24 } (va_Pc [.ref (gad Y 0 34), .int p1, .int p2, .int p3] (gS0 Y M)) (gQi Y r) 0 0 (gA Y) := by
  refine gmet (lv := [(0, .ref (gad Y 0 34)), (1, .int p1), (2, .int p2), (3, .int p3)]) "GuestStaff" (by decide) rfl (Nat.le_of_ble_eq_true rfl) rfl (fun X hC hF => ?_)
  have J28 : ∀ (N : gMem) , j_X10_guest_28 M p1 p2 p3 N = some r → gWW X Y 4 28 [(0, .ref (gad Y 0 34))] [] N := by
    intro N hx
    unfold j_X10_guest_28 at hx
    refine q_aload_n hC 0 dX10_guest_28 rfl rfl ?_
    refine q_bipush hC (-2) dX10_guest_29 rfl ?_
    obtain ⟨v5, q6, hx⟩ := gb_e hx
    refine q_ki (q_rV (As := [.int (-2)]) (rest := []) hC mm_X10_refuseBad wM_X10_83 (c_X10_refuseBad q6) ⟨rfl, rfl, Nat.le_of_ble_eq_true rfl, Nat.le_of_ble_eq_true rfl⟩ (gV_t (by decide) (by decide)) rfl rfl rfl rfl (Nat.le_of_ble_eq_true rfl) dX10_guest_31) ?_
    exact q_iret hC hF dX10_guest_34 (Option.some.inj hx)
  unfold x_X10_guest at hx
  refine q_iload_n hC 1 dX10_guest_0 rfl rfl ?_
  refine q_bipush hC 6 dX10_guest_1 rfl ?_
  obtain ⟨v1, q2, hx⟩ := gb_e hx
  refine q_kzp (q_rS (As := [.int p1, .int 6]) (rest := []) hC mm_X10_isBelow wM_X10_79 (c_X10_isBelow q2) ⟨rfl, rfl, Nat.le_of_ble_eq_true rfl, Nat.le_of_ble_eq_true rfl⟩ rfl rfl (Nat.le_of_ble_eq_true rfl) dX10_guest_3) (fun z3 => ?_)
  refine q_if_eq hC 28 dX10_guest_6 rfl (fun h4 => ?_) (fun h4 => ?_)
  · have hx := gi_p h4 hx
    exact q_sub [0] rfl (J28 M hx)
  · have hx := gi_n h4 hx
    refine q_iload_n hC 2 dX10_guest_9 rfl rfl ?_
    refine q_bipush hC 8 dX10_guest_10 rfl ?_
    obtain ⟨v7, q8, hx⟩ := gb_e hx
    refine q_kzp (q_rS (As := [.int p2, .int 8]) (rest := []) hC mm_X10_isBelow wM_X10_79 (c_X10_isBelow q8) ⟨rfl, rfl, Nat.le_of_ble_eq_true rfl, Nat.le_of_ble_eq_true rfl⟩ rfl rfl (Nat.le_of_ble_eq_true rfl) dX10_guest_12) (fun z9 => ?_)
    refine q_if_eq hC 28 dX10_guest_15 rfl (fun h10 => ?_) (fun h10 => ?_)
    · have hx := gi_p h10 hx
      exact q_sub [0] rfl (J28 M hx)
    · have hx := gi_n h10 hx
      refine q_iload_n hC 3 dX10_guest_18 rfl rfl ?_
      refine q_sipush hC 256 dX10_guest_19 rfl ?_
      obtain ⟨v11, q12, hx⟩ := gb_e hx
      refine q_kzp (q_rS (As := [.int p3, .int 256]) (rest := []) hC mm_X10_isBelow wM_X10_79 (c_X10_isBelow q12) ⟨rfl, rfl, Nat.le_of_ble_eq_true rfl, Nat.le_of_ble_eq_true rfl⟩ rfl rfl (Nat.le_of_ble_eq_true rfl) dX10_guest_22) (fun z13 => ?_)
      refine q_if_ne hC 35 dX10_guest_25 rfl (fun h14 => ?_) (fun h14 => ?_)
      · have hx := gi_n h14 hx
        refine q_aload_n hC 0 dX10_guest_35 rfl rfl ?_
        refine gf_X10_61 hC dX10_guest_36 ?_
        refine gf_X10_72 hC (by decide) dX10_guest_39 ?_
        refine q_bipush hC 7 dX10_guest_42 rfl ?_
        refine q_ic_lt hC 52 dX10_guest_44 rfl (fun h15 => ?_) (fun h15 => ?_)
        · have hx := gi_p h15 hx
          refine q_aload_n hC 0 dX10_guest_52 rfl rfl ?_
          refine gf_X10_61 hC dX10_guest_53 ?_
          refine q_iload_n hC 1 dX10_guest_56 rfl rfl ?_
          refine q_iload_n hC 2 dX10_guest_57 rfl rfl ?_
          refine q_iload_n hC 3 dX10_guest_58 rfl rfl ?_
          obtain ⟨v16, q17, hx⟩ := gb_e hx
          refine q_ki (q_rV (As := [.int p1, .int p2, .int p3]) (rest := []) hC mm_X1_admit wM_X10_91 (c_X1_admit (by decide) q17) ⟨rfl, rfl, Nat.le_of_ble_eq_true rfl, Nat.le_of_ble_eq_true rfl⟩ (gV_h (by decide) (by decide)) rfl rfl rfl rfl (Nat.le_of_ble_eq_true rfl) dX10_guest_59) ?_
          exact q_iret hC hF dX10_guest_62 (Option.some.inj hx)
        · have hx := gi_n h15 hx
          refine q_aload_n hC 0 dX10_guest_47 rfl rfl ?_
          obtain ⟨v18, q19, hx⟩ := gb_e hx
          refine q_ki (q_rV (As := []) (rest := []) hC mm_X10_refuseFull wM_X10_87 (c_X10_refuseFull q19) ⟨rfl, rfl, Nat.le_of_ble_eq_true rfl, Nat.le_of_ble_eq_true rfl⟩ (gV_t (by decide) (by decide)) rfl rfl rfl rfl (Nat.le_of_ble_eq_true rfl) dX10_guest_48) ?_
          exact q_iret hC hF dX10_guest_51 (Option.some.inj hx)
      · have hx := gi_p h14 hx
        exact q_sub [0] rfl (J28 M hx)

theorem dX10_duty_0 : decode cX10_duty 0 = .ok (.aload_n 0, 1) := by decide +kernel
theorem dX10_duty_1 : decode cX10_duty 1 = .ok (.getfield 61, 3) := by decide +kernel
theorem dX10_duty_4 : decode cX10_duty 4 = .ok (.iload_n 1, 1) := by decide +kernel
theorem dX10_duty_5 : decode cX10_duty 5 = .ok (.invokevirtual 95, 3) := by decide +kernel
theorem dX10_duty_8 : decode cX10_duty 8 = .ok (.ifCond .eq 24, 3) := by decide +kernel
theorem dX10_duty_11 : decode cX10_duty 11 = .ok (.iload_n 2, 1) := by decide +kernel
theorem dX10_duty_12 : decode cX10_duty 12 = .ok (.iload_n 1, 1) := by decide +kernel
theorem dX10_duty_13 : decode cX10_duty 13 = .ok (.if_icmp .eq 19, 3) := by decide +kernel
theorem dX10_duty_16 : decode cX10_duty 16 = .ok (.iload_n 2, 1) := by decide +kernel
theorem dX10_duty_17 : decode cX10_duty 17 = .ok (.iconst (-1), 1) := by decide +kernel
theorem dX10_duty_18 : decode cX10_duty 18 = .ok (.if_icmp .eq 21, 3) := by decide +kernel
theorem dX10_duty_21 : decode cX10_duty 21 = .ok (.aload_n 0, 1) := by decide +kernel
theorem dX10_duty_22 : decode cX10_duty 22 = .ok (.getfield 61, 3) := by decide +kernel
theorem dX10_duty_25 : decode cX10_duty 25 = .ok (.iload_n 2, 1) := by decide +kernel
theorem dX10_duty_26 : decode cX10_duty 26 = .ok (.invokevirtual 95, 3) := by decide +kernel
theorem dX10_duty_29 : decode cX10_duty 29 = .ok (.ifCond .ne 10, 3) := by decide +kernel
theorem dX10_duty_32 : decode cX10_duty 32 = .ok (.aload_n 0, 1) := by decide +kernel
theorem dX10_duty_33 : decode cX10_duty 33 = .ok (.bipush (-10), 2) := by decide +kernel
theorem dX10_duty_35 : decode cX10_duty 35 = .ok (.invokevirtual 83, 3) := by decide +kernel
theorem dX10_duty_38 : decode cX10_duty 38 = .ok (.ireturn, 1) := by decide +kernel
theorem dX10_duty_39 : decode cX10_duty 39 = .ok (.aload_n 0, 1) := by decide +kernel
theorem dX10_duty_40 : decode cX10_duty 40 = .ok (.getfield 61, 3) := by decide +kernel
theorem dX10_duty_43 : decode cX10_duty 43 = .ok (.getfield 99, 3) := by decide +kernel
theorem dX10_duty_46 : decode cX10_duty 46 = .ok (.iload_n 1, 1) := by decide +kernel
theorem dX10_duty_47 : decode cX10_duty 47 = .ok (.iaload, 1) := by decide +kernel
theorem dX10_duty_48 : decode cX10_duty 48 = .ok (.istore_n 3, 1) := by decide +kernel
theorem dX10_duty_49 : decode cX10_duty 49 = .ok (.aload_n 0, 1) := by decide +kernel
theorem dX10_duty_50 : decode cX10_duty 50 = .ok (.getfield 61, 3) := by decide +kernel
theorem dX10_duty_53 : decode cX10_duty 53 = .ok (.invokevirtual 102, 3) := by decide +kernel
theorem dX10_duty_56 : decode cX10_duty 56 = .ok (.aload_n 0, 1) := by decide +kernel
theorem dX10_duty_57 : decode cX10_duty 57 = .ok (.getfield 61, 3) := by decide +kernel
theorem dX10_duty_60 : decode cX10_duty 60 = .ok (.getfield 99, 3) := by decide +kernel
theorem dX10_duty_63 : decode cX10_duty 63 = .ok (.iload_n 1, 1) := by decide +kernel
theorem dX10_duty_64 : decode cX10_duty 64 = .ok (.iload_n 2, 1) := by decide +kernel
theorem dX10_duty_65 : decode cX10_duty 65 = .ok (.iastore, 1) := by decide +kernel
theorem dX10_duty_66 : decode cX10_duty 66 = .ok (.iload_n 3, 1) := by decide +kernel
theorem dX10_duty_67 : decode cX10_duty 67 = .ok (.ireturn, 1) := by decide +kernel
def j_X10_duty_32 (M : gMem) (p1 : Int32) (p2 : Int32) (N : gMem) : Option (Int32 × gMem) := Option.bind (x_X10_refuseBad N (-10)) (fun v5 => some (v5.1, v5.2))
def j_X10_duty_39 (M : gMem) (p1 : Int32) (p2 : Int32) (N : gMem) : Option (Int32 × gMem) := gd (gin p1 7) (Option.bind (x_X1_remember N 0) (fun v10 => gd (gin p1 7) (some (N.1 0 4 (p1).toNatClampNeg, gwr v10 0 4 (p1).toNatClampNeg p2))))
def x_X10_duty (M : gMem) (p1 : Int32) (p2 : Int32) : Option (Int32 × gMem) := Option.bind (x_X1_isGuest M 0 p1) (fun v1 => (if v1 = 0 then j_X10_duty_32 M p1 p2 M else (if p2 = p1 then j_X10_duty_32 M p1 p2 M else (if p2 = (-1) then j_X10_duty_39 M p1 p2 M else Option.bind (x_X1_isGuest M 0 p2) (fun v13 => (if v13 = 0 then j_X10_duty_32 M p1 p2 M else j_X10_duty_39 M p1 p2 M))))))
set_option maxRecDepth 100000 in
set_option maxHeartbeats 4000000 in
theorem c_X10_duty {l : Launch} {Y : gY} {M : gMem} {p1 : Int32} {p2 : Int32} {r : (Int32 × gMem)} (hx : x_X10_duty M p1 p2 = some r) : Met l yX10_duty (gws yX10_duty cX10_duty 4 (some .int)) { frames := 3, cells := 0, slots := 0, locals := 81 } (va_Pc [.ref (gad Y 0 34), .int p1, .int p2] (gS0 Y M)) (gQi Y r) 0 0 (gA Y) := by
  refine gmet (lv := [(0, .ref (gad Y 0 34)), (1, .int p1), (2, .int p2)]) "GuestStaff" (by decide) rfl (Nat.le_of_ble_eq_true rfl) rfl (fun X hC hF => ?_)
  have J32 : ∀ (N : gMem) , j_X10_duty_32 M p1 p2 N = some r → gWW X Y 4 32 [(0, .ref (gad Y 0 34))] [] N := by
    intro N hx
    unfold j_X10_duty_32 at hx
    refine q_aload_n hC 0 dX10_duty_32 rfl rfl ?_
    refine q_bipush hC (-10) dX10_duty_33 rfl ?_
    obtain ⟨v5, q6, hx⟩ := gb_e hx
    refine q_ki (q_rV (As := [.int (-10)]) (rest := []) hC mm_X10_refuseBad wM_X10_83 (c_X10_refuseBad q6) ⟨rfl, rfl, Nat.le_of_ble_eq_true rfl, Nat.le_of_ble_eq_true rfl⟩ (gV_t (by decide) (by decide)) rfl rfl rfl rfl (Nat.le_of_ble_eq_true rfl) dX10_duty_35) ?_
    exact q_iret hC hF dX10_duty_38 (Option.some.inj hx)
  have J39 : ∀ (N : gMem) , j_X10_duty_39 M p1 p2 N = some r → gWW X Y 4 39 [(0, .ref (gad Y 0 34)), (1, .int p1), (2, .int p2)] [] N := by
    intro N hx
    unfold j_X10_duty_39 at hx
    refine q_aload_n hC 0 dX10_duty_39 rfl rfl ?_
    refine gf_X10_61 hC dX10_duty_40 ?_
    refine gf_X10_99 hC (by decide) dX10_duty_43 ?_
    refine q_iload_n hC 1 dX10_duty_46 rfl rfl ?_
    have g9 := (gd_e hx).1
    have hx := (gd_e hx).2
    refine q_iald hC 6 (gV_h (by decide) (by decide)) rfl g9 dX10_duty_47 ?_
    refine q_istore_n hC [(3, .int (N.1 0 4 (p1).toNatClampNeg)), (0, .ref (gad Y 0 34)), (1, .int p1), (2, .int p2)] dX10_duty_48 rfl (by decide) rfl ?_
    refine q_aload_n hC 1 dX10_duty_49 rfl rfl ?_
    refine gf_X10_61 hC dX10_duty_50 ?_
    obtain ⟨v10, q11, hx⟩ := gb_e hx
    refine q_kv (q_rV (As := []) (rest := []) hC mm_X1_remember wM_X10_102 (c_X1_remember (by decide) q11) ⟨rfl, rfl, Nat.le_of_ble_eq_true rfl, Nat.le_of_ble_eq_true rfl⟩ (gV_h (by decide) (by decide)) rfl rfl rfl rfl (Nat.le_of_ble_eq_true rfl) dX10_duty_53) ?_
    refine q_aload_n hC 1 dX10_duty_56 rfl rfl ?_
    refine gf_X10_61 hC dX10_duty_57 ?_
    refine gf_X10_99 hC (by decide) dX10_duty_60 ?_
    refine q_iload_n hC 2 dX10_duty_63 rfl rfl ?_
    refine q_iload_n hC 3 dX10_duty_64 rfl rfl ?_
    have g12 := (gd_e hx).1
    have hx := (gd_e hx).2
    refine q_iast hC 6 (gV_h (by decide) (by decide)) rfl g12 dX10_duty_65 ?_
    refine q_iload_n hC 0 dX10_duty_66 rfl rfl ?_
    exact q_iret hC hF dX10_duty_67 (Option.some.inj hx)
  unfold x_X10_duty at hx
  refine q_aload_n hC 0 dX10_duty_0 rfl rfl ?_
  refine gf_X10_61 hC dX10_duty_1 ?_
  refine q_iload_n hC 1 dX10_duty_4 rfl rfl ?_
  obtain ⟨v1, q2, hx⟩ := gb_e hx
  refine q_kzp (q_rV (As := [.int p1]) (rest := []) hC mm_X1_isGuest wM_X10_95 (c_X1_isGuest (by decide) q2) ⟨rfl, rfl, Nat.le_of_ble_eq_true rfl, Nat.le_of_ble_eq_true rfl⟩ (gV_h (by decide) (by decide)) rfl rfl rfl rfl (Nat.le_of_ble_eq_true rfl) dX10_duty_5) (fun z3 => ?_)
  refine q_if_eq hC 32 dX10_duty_8 rfl (fun h4 => ?_) (fun h4 => ?_)
  · have hx := gi_p h4 hx
    exact q_sub [0] rfl (J32 M hx)
  · have hx := gi_n h4 hx
    refine q_iload_n hC 2 dX10_duty_11 rfl rfl ?_
    refine q_iload_n hC 1 dX10_duty_12 rfl rfl ?_
    refine q_ic_eq hC 32 dX10_duty_13 rfl (fun h7 => ?_) (fun h7 => ?_)
    · have hx := gi_p h7 hx
      exact q_sub [0] rfl (J32 M hx)
    · have hx := gi_n h7 hx
      refine q_iload_n hC 2 dX10_duty_16 rfl rfl ?_
      refine q_iconst hC (-1) dX10_duty_17 rfl ?_
      refine q_ic_eq hC 39 dX10_duty_18 rfl (fun h8 => ?_) (fun h8 => ?_)
      · have hx := gi_p h8 hx
        exact q_sub [0, 1, 2] rfl (J39 M hx)
      · have hx := gi_n h8 hx
        refine q_aload_n hC 0 dX10_duty_21 rfl rfl ?_
        refine gf_X10_61 hC dX10_duty_22 ?_
        refine q_iload_n hC 2 dX10_duty_25 rfl rfl ?_
        obtain ⟨v13, q14, hx⟩ := gb_e hx
        refine q_kzp (q_rV (As := [.int p2]) (rest := []) hC mm_X1_isGuest wM_X10_95 (c_X1_isGuest (by decide) q14) ⟨rfl, rfl, Nat.le_of_ble_eq_true rfl, Nat.le_of_ble_eq_true rfl⟩ (gV_h (by decide) (by decide)) rfl rfl rfl rfl (Nat.le_of_ble_eq_true rfl) dX10_duty_26) (fun z15 => ?_)
        refine q_if_ne hC 39 dX10_duty_29 rfl (fun h16 => ?_) (fun h16 => ?_)
        · have hx := gi_n h16 hx
          exact q_sub [0, 1, 2] rfl (J39 M hx)
        · have hx := gi_p h16 hx
          exact q_sub [0] rfl (J32 M hx)

theorem dX10_type_0 : decode cX10_type 0 = .ok (.iload_n 1, 1) := by decide +kernel
theorem dX10_type_1 : decode cX10_type 1 = .ok (.sipush 128, 3) := by decide +kernel
theorem dX10_type_4 : decode cX10_type 4 = .ok (.invokestatic 79, 3) := by decide +kernel
theorem dX10_type_7 : decode cX10_type 7 = .ok (.ifCond .ne 10, 3) := by decide +kernel
theorem dX10_type_10 : decode cX10_type 10 = .ok (.aload_n 0, 1) := by decide +kernel
theorem dX10_type_11 : decode cX10_type 11 = .ok (.bipush (-2), 2) := by decide +kernel
theorem dX10_type_13 : decode cX10_type 13 = .ok (.invokevirtual 83, 3) := by decide +kernel
theorem dX10_type_16 : decode cX10_type 16 = .ok (.ireturn, 1) := by decide +kernel
theorem dX10_type_17 : decode cX10_type 17 = .ok (.aload_n 0, 1) := by decide +kernel
theorem dX10_type_18 : decode cX10_type 18 = .ok (.getfield 16, 3) := by decide +kernel
theorem dX10_type_21 : decode cX10_type 21 = .ok (.getfield 105, 3) := by decide +kernel
theorem dX10_type_24 : decode cX10_type 24 = .ok (.sipush 150, 3) := by decide +kernel
theorem dX10_type_27 : decode cX10_type 27 = .ok (.if_icmp .lt 8, 3) := by decide +kernel
theorem dX10_type_30 : decode cX10_type 30 = .ok (.aload_n 0, 1) := by decide +kernel
theorem dX10_type_31 : decode cX10_type 31 = .ok (.invokevirtual 87, 3) := by decide +kernel
theorem dX10_type_34 : decode cX10_type 34 = .ok (.ireturn, 1) := by decide +kernel
theorem dX10_type_35 : decode cX10_type 35 = .ok (.aload_n 0, 1) := by decide +kernel
theorem dX10_type_36 : decode cX10_type 36 = .ok (.getfield 16, 3) := by decide +kernel
theorem dX10_type_39 : decode cX10_type 39 = .ok (.iload_n 1, 1) := by decide +kernel
theorem dX10_type_40 : decode cX10_type 40 = .ok (.invokevirtual 108, 3) := by decide +kernel
theorem dX10_type_43 : decode cX10_type 43 = .ok (.ireturn, 1) := by decide +kernel
def x_X10_type (M : gMem) (p1 : Int32) : Option (Int32 × gMem) := Option.bind (x_X10_isBelow p1 128) (fun v1 => (if v1 = 0 then Option.bind (x_X10_refuseBad M (-2)) (fun v10 => some (v10.1, v10.2)) else (if (M.1 0 36 1) < 150 then Option.bind (x_X9_append M p1) (fun v6 => some (v6.1, v6.2)) else Option.bind (x_X10_refuseFull M) (fun v8 => some (v8.1, v8.2)))))
set_option maxRecDepth 100000 in
set_option maxHeartbeats 4000000 in
theorem c_X10_type {l : Launch} {Y : gY} {M : gMem} {p1 : Int32} {r : (Int32 × gMem)} (hx : x_X10_type M p1 = some r) : Met l yX10_type (gws yX10_type cX10_type 2 (some .int)) { frames := 1, cells := 0, slots := 0, locals := 21 } (va_Pc [.ref (gad Y 0 34), .int p1] (gS0 Y M)) (gQi Y r) 0 0 (gA Y) := by
  refine gmet (lv := [(0, .ref (gad Y 0 34)), (1, .int p1)]) "GuestStaff" (by decide) rfl (Nat.le_of_ble_eq_true rfl) rfl (fun X hC hF => ?_)
  unfold x_X10_type at hx
  refine q_iload_n hC 1 dX10_type_0 rfl rfl ?_
  refine q_sipush hC 128 dX10_type_1 rfl ?_
  obtain ⟨v1, q2, hx⟩ := gb_e hx
  refine q_kzp (q_rS (As := [.int p1, .int 128]) (rest := []) hC mm_X10_isBelow wM_X10_79 (c_X10_isBelow q2) ⟨rfl, rfl, Nat.le_of_ble_eq_true rfl, Nat.le_of_ble_eq_true rfl⟩ rfl rfl (Nat.le_of_ble_eq_true rfl) dX10_type_4) (fun z3 => ?_)
  refine q_if_ne hC 17 dX10_type_7 rfl (fun h4 => ?_) (fun h4 => ?_)
  · have hx := gi_n h4 hx
    refine q_aload_n hC 0 dX10_type_17 rfl rfl ?_
    refine gf_X10_16 hC dX10_type_18 ?_
    refine gf_X10_105 hC dX10_type_21 ?_
    refine q_sipush hC 150 dX10_type_24 rfl ?_
    refine q_ic_lt hC 35 dX10_type_27 rfl (fun h5 => ?_) (fun h5 => ?_)
    · have hx := gi_p h5 hx
      refine q_aload_n hC 0 dX10_type_35 rfl rfl ?_
      refine gf_X10_16 hC dX10_type_36 ?_
      refine q_iload_n hC 1 dX10_type_39 rfl rfl ?_
      obtain ⟨v6, q7, hx⟩ := gb_e hx
      refine q_ki (q_rV (As := [.int p1]) (rest := []) hC mm_X9_append wM_X10_108 (c_X9_append q7) ⟨rfl, rfl, Nat.le_of_ble_eq_true rfl, Nat.le_of_ble_eq_true rfl⟩ (gV_t (by decide) (by decide)) rfl rfl rfl rfl (Nat.le_of_ble_eq_true rfl) dX10_type_40) ?_
      exact q_iret hC hF dX10_type_43 (Option.some.inj hx)
    · have hx := gi_n h5 hx
      refine q_aload_n hC 0 dX10_type_30 rfl rfl ?_
      obtain ⟨v8, q9, hx⟩ := gb_e hx
      refine q_ki (q_rV (As := []) (rest := []) hC mm_X10_refuseFull wM_X10_87 (c_X10_refuseFull q9) ⟨rfl, rfl, Nat.le_of_ble_eq_true rfl, Nat.le_of_ble_eq_true rfl⟩ (gV_t (by decide) (by decide)) rfl rfl rfl rfl (Nat.le_of_ble_eq_true rfl) dX10_type_31) ?_
      exact q_iret hC hF dX10_type_34 (Option.some.inj hx)
  · have hx := gi_p h4 hx
    refine q_aload_n hC 0 dX10_type_10 rfl rfl ?_
    refine q_bipush hC (-2) dX10_type_11 rfl ?_
    obtain ⟨v10, q11, hx⟩ := gb_e hx
    refine q_ki (q_rV (As := [.int (-2)]) (rest := []) hC mm_X10_refuseBad wM_X10_83 (c_X10_refuseBad q11) ⟨rfl, rfl, Nat.le_of_ble_eq_true rfl, Nat.le_of_ble_eq_true rfl⟩ (gV_t (by decide) (by decide)) rfl rfl rfl rfl (Nat.le_of_ble_eq_true rfl) dX10_type_13) ?_
    exact q_iret hC hF dX10_type_16 (Option.some.inj hx)

theorem dX10_clear_0 : decode cX10_clear 0 = .ok (.aload_n 0, 1) := by decide +kernel
theorem dX10_clear_1 : decode cX10_clear 1 = .ok (.getfield 16, 3) := by decide +kernel
theorem dX10_clear_4 : decode cX10_clear 4 = .ok (.getfield 105, 3) := by decide +kernel
theorem dX10_clear_7 : decode cX10_clear 7 = .ok (.istore_n 1, 1) := by decide +kernel
theorem dX10_clear_8 : decode cX10_clear 8 = .ok (.aload_n 0, 1) := by decide +kernel
theorem dX10_clear_9 : decode cX10_clear 9 = .ok (.getfield 16, 3) := by decide +kernel
theorem dX10_clear_12 : decode cX10_clear 12 = .ok (.iconst 0, 1) := by decide +kernel
theorem dX10_clear_13 : decode cX10_clear 13 = .ok (.putfield 105, 3) := by decide +kernel
theorem dX10_clear_16 : decode cX10_clear 16 = .ok (.iload_n 1, 1) := by decide +kernel
theorem dX10_clear_17 : decode cX10_clear 17 = .ok (.ireturn, 1) := by decide +kernel
def x_X10_clear (M : gMem) : Option (Int32 × gMem) := some (M.1 0 36 1, gwr M 0 36 1 0)
set_option maxRecDepth 100000 in
set_option maxHeartbeats 4000000 in
theorem c_X10_clear {l : Launch} {Y : gY} {M : gMem} {r : (Int32 × gMem)} (hx : x_X10_clear M = some r) : Met l yX10_clear (gws yX10_clear cX10_clear 2 (some .int)) { frames := 0, cells := 0, slots := 0, locals := 0 } (va_Pc [.ref (gad Y 0 34)] (gS0 Y M)) (gQi Y r) 0 0 (gA Y) := by
  refine gmet (lv := [(0, .ref (gad Y 0 34))]) "GuestStaff" (by decide) rfl (Nat.le_of_ble_eq_true rfl) rfl (fun X hC hF => ?_)
  unfold x_X10_clear at hx
  refine q_aload_n hC 0 dX10_clear_0 rfl rfl ?_
  refine gf_X10_16 hC dX10_clear_1 ?_
  refine gf_X10_105 hC dX10_clear_4 ?_
  refine q_istore_n hC [(1, .int (M.1 0 36 1)), (0, .ref (gad Y 0 34))] dX10_clear_7 rfl (by decide) rfl ?_
  refine q_aload_n hC 1 dX10_clear_8 rfl rfl ?_
  refine gf_X10_16 hC dX10_clear_9 ?_
  refine q_iconst hC 0 dX10_clear_12 rfl ?_
  refine pf_X10_105 hC dX10_clear_13 ?_
  refine q_iload_n hC 0 dX10_clear_16 rfl rfl ?_
  exact q_iret hC hF dX10_clear_17 (Option.some.inj hx)

theorem dX10_read_0 : decode cX10_read 0 = .ok (.aload_n 0, 1) := by decide +kernel
theorem dX10_read_1 : decode cX10_read 1 = .ok (.getfield 16, 3) := by decide +kernel
theorem dX10_read_4 : decode cX10_read 4 = .ok (.aload_n 0, 1) := by decide +kernel
theorem dX10_read_5 : decode cX10_read 5 = .ok (.getfield 65, 3) := by decide +kernel
theorem dX10_read_8 : decode cX10_read 8 = .ok (.invokevirtual 111, 3) := by decide +kernel
theorem dX10_read_11 : decode cX10_read 11 = .ok (.istore_n 1, 1) := by decide +kernel
theorem dX10_read_12 : decode cX10_read 12 = .ok (.iload_n 1, 1) := by decide +kernel
theorem dX10_read_13 : decode cX10_read 13 = .ok (.iconst (-1), 1) := by decide +kernel
theorem dX10_read_14 : decode cX10_read 14 = .ok (.if_icmp .ne 14, 3) := by decide +kernel
theorem dX10_read_17 : decode cX10_read 17 = .ok (.bipush (-10), 2) := by decide +kernel
theorem dX10_read_19 : decode cX10_read 19 = .ok (.aload_n 0, 1) := by decide +kernel
theorem dX10_read_20 : decode cX10_read 20 = .ok (.getfield 16, 3) := by decide +kernel
theorem dX10_read_23 : decode cX10_read 23 = .ok (.getfield 115, 3) := by decide +kernel
theorem dX10_read_26 : decode cX10_read 26 = .ok (.isub, 1) := by decide +kernel
theorem dX10_read_27 : decode cX10_read 27 = .ok (.ireturn, 1) := by decide +kernel
theorem dX10_read_28 : decode cX10_read 28 = .ok (.aload_n 0, 1) := by decide +kernel
theorem dX10_read_29 : decode cX10_read 29 = .ok (.getfield 61, 3) := by decide +kernel
theorem dX10_read_32 : decode cX10_read 32 = .ok (.aload_n 0, 1) := by decide +kernel
theorem dX10_read_33 : decode cX10_read 33 = .ok (.getfield 65, 3) := by decide +kernel
theorem dX10_read_36 : decode cX10_read 36 = .ok (.invokevirtual 118, 3) := by decide +kernel
theorem dX10_read_39 : decode cX10_read 39 = .ok (.iload_n 1, 1) := by decide +kernel
theorem dX10_read_40 : decode cX10_read 40 = .ok (.ireturn, 1) := by decide +kernel
def x_X10_read (M : gMem) : Option (Int32 × gMem) := Option.bind (x_X9_parse M 1) (fun v1 => (if v1.1 = (-1) then some ((-10) - (v1.2.1 0 36 2), v1.2) else Option.bind (x_X1_copy v1.2 0 1) (fun v4 => some (v1.1, v4))))
set_option maxRecDepth 100000 in
set_option maxHeartbeats 4000000 in
theorem c_X10_read {l : Launch} {Y : gY} {M : gMem} {r : (Int32 × gMem)} (hx : x_X10_read M = some r) : Met l yX10_read (gws yX10_read cX10_read 2 (some .int)) { frames := 7, cells := 0, slots := 0, locals := 185 } (va_Pc [.ref (gad Y 0 34)] (gS0 Y M)) (gQi Y r) 0 0 (gA Y) := by
  refine gmet (lv := [(0, .ref (gad Y 0 34))]) "GuestStaff" (by decide) rfl (Nat.le_of_ble_eq_true rfl) rfl (fun X hC hF => ?_)
  unfold x_X10_read at hx
  refine q_aload_n hC 0 dX10_read_0 rfl rfl ?_
  refine gf_X10_16 hC dX10_read_1 ?_
  refine q_aload_n hC 0 dX10_read_4 rfl rfl ?_
  refine gf_X10_65 hC dX10_read_5 ?_
  obtain ⟨v1, q2, hx⟩ := gb_e hx
  refine q_ki (q_rV (As := [.ref (gad Y 1 0)]) (rest := []) hC mm_X9_parse wM_X10_111 (c_X9_parse (by decide) q2) ⟨rfl, rfl, Nat.le_of_ble_eq_true rfl, Nat.le_of_ble_eq_true rfl⟩ (gV_t (by decide) (by decide)) rfl rfl rfl rfl (Nat.le_of_ble_eq_true rfl) dX10_read_8) ?_
  refine q_istore_n hC [(1, .int v1.1), (0, .ref (gad Y 0 34))] dX10_read_11 rfl (by decide) rfl ?_
  refine q_iload_n hC 0 dX10_read_12 rfl rfl ?_
  refine q_iconst hC (-1) dX10_read_13 rfl ?_
  refine q_ic_ne hC 28 dX10_read_14 rfl (fun h3 => ?_) (fun h3 => ?_)
  · have hx := gi_n h3 hx
    refine q_aload_n hC 1 dX10_read_28 rfl rfl ?_
    refine gf_X10_61 hC dX10_read_29 ?_
    refine q_aload_n hC 1 dX10_read_32 rfl rfl ?_
    refine gf_X10_65 hC dX10_read_33 ?_
    obtain ⟨v4, q5, hx⟩ := gb_e hx
    refine q_kv (q_rV (As := [.ref (gad Y 1 0)]) (rest := []) hC mm_X1_copy wM_X10_118 (c_X1_copy (by decide) (by decide) q5) ⟨rfl, rfl, Nat.le_of_ble_eq_true rfl, Nat.le_of_ble_eq_true rfl⟩ (gV_h (by decide) (by decide)) rfl rfl rfl rfl (Nat.le_of_ble_eq_true rfl) dX10_read_36) ?_
    refine q_iload_n hC 0 dX10_read_39 rfl rfl ?_
    exact q_iret hC hF dX10_read_40 (Option.some.inj hx)
  · have hx := gi_p h3 hx
    refine q_bipush hC (-10) dX10_read_17 rfl ?_
    refine q_aload_n hC 1 dX10_read_19 rfl rfl ?_
    refine gf_X10_16 hC dX10_read_20 ?_
    refine gf_X10_115 hC dX10_read_23 ?_
    refine q_isub hC dX10_read_26 ?_
    exact q_iret hC hF dX10_read_27 (Option.some.inj hx)

theorem dX10_hour_0 : decode cX10_hour 0 = .ok (.iload_n 1, 1) := by decide +kernel
theorem dX10_hour_1 : decode cX10_hour 1 = .ok (.iconst 1, 1) := by decide +kernel
theorem dX10_hour_2 : decode cX10_hour 2 = .ok (.if_icmp .lt 9, 3) := by decide +kernel
theorem dX10_hour_5 : decode cX10_hour 5 = .ok (.iload_n 1, 1) := by decide +kernel
theorem dX10_hour_6 : decode cX10_hour 6 = .ok (.bipush 60, 2) := by decide +kernel
theorem dX10_hour_8 : decode cX10_hour 8 = .ok (.if_icmp .le 10, 3) := by decide +kernel
theorem dX10_hour_11 : decode cX10_hour 11 = .ok (.aload_n 0, 1) := by decide +kernel
theorem dX10_hour_12 : decode cX10_hour 12 = .ok (.bipush (-2), 2) := by decide +kernel
theorem dX10_hour_14 : decode cX10_hour 14 = .ok (.invokevirtual 83, 3) := by decide +kernel
theorem dX10_hour_17 : decode cX10_hour 17 = .ok (.ireturn, 1) := by decide +kernel
theorem dX10_hour_18 : decode cX10_hour 18 = .ok (.iconst 0, 1) := by decide +kernel
theorem dX10_hour_19 : decode cX10_hour 19 = .ok (.istore_n 2, 1) := by decide +kernel
theorem dX10_hour_20 : decode cX10_hour 20 = .ok (.iload_n 2, 1) := by decide +kernel
theorem dX10_hour_21 : decode cX10_hour 21 = .ok (.iload_n 1, 1) := by decide +kernel
theorem dX10_hour_22 : decode cX10_hour 22 = .ok (.if_icmp .ge 23, 3) := by decide +kernel
theorem dX10_hour_25 : decode cX10_hour 25 = .ok (.aload_n 0, 1) := by decide +kernel
theorem dX10_hour_26 : decode cX10_hour 26 = .ok (.getfield 61, 3) := by decide +kernel
theorem dX10_hour_29 : decode cX10_hour 29 = .ok (.invokevirtual 102, 3) := by decide +kernel
theorem dX10_hour_32 : decode cX10_hour 32 = .ok (.aload_n 0, 1) := by decide +kernel
theorem dX10_hour_33 : decode cX10_hour 33 = .ok (.getfield 61, 3) := by decide +kernel
theorem dX10_hour_36 : decode cX10_hour 36 = .ok (.invokevirtual 122, 3) := by decide +kernel
theorem dX10_hour_39 : decode cX10_hour 39 = .ok (.iinc 2 1, 3) := by decide +kernel
theorem dX10_hour_42 : decode cX10_hour 42 = .ok (.goto (-22), 3) := by decide +kernel
theorem dX10_hour_45 : decode cX10_hour 45 = .ok (.aload_n 0, 1) := by decide +kernel
theorem dX10_hour_46 : decode cX10_hour 46 = .ok (.getfield 61, 3) := by decide +kernel
theorem dX10_hour_49 : decode cX10_hour 49 = .ok (.getfield 125, 3) := by decide +kernel
theorem dX10_hour_52 : decode cX10_hour 52 = .ok (.ireturn, 1) := by decide +kernel
def j_X10_hour_11 (M : gMem) (p1 : Int32) (N : gMem) : Option (Int32 × gMem) := Option.bind (x_X10_refuseBad N (-2)) (fun v2 => some (v2.1, v2.2))
def s_X10_hour_20 (a1 : Int32) (b2 : Int32) (N : gMem) : Option ((Int32 × gMem) ⊕ (Int32 × gMem)) := (if a1 ≤ b2 then some (.inr (b2, N)) else Option.bind (x_X1_remember N 0) (fun v6 => Option.bind (x_X1_passHour v6 0) (fun v8 => some (.inl (b2 + 1, v8)))))
def x_X10_hour (M : gMem) (p1 : Int32) : Option (Int32 × gMem) := (if p1 < 1 then j_X10_hour_11 M p1 M else (if p1 ≤ 60 then Option.bind (itr FU (fun s => s_X10_hour_20 p1 s.1 s.2) (0, M)) (fun e10 => some (e10.2.1 0 0 15, e10.2)) else j_X10_hour_11 M p1 M))
set_option maxRecDepth 100000 in
set_option maxHeartbeats 4000000 in
theorem w_X10_hour_20 {X : gX} {Y : gY} {a1 : Int32} {r : (Int32 × gMem)} (hC : gC X Y cX10_hour "GuestStaff" 3 7 154) (hF : gF X Y (some .int) (gQi Y r)) {e : (Int32 × gMem)} (kE : ∀ s : (Int32 × gMem), e = s → gWW X Y 3 45 [(0, .ref (gad Y 0 34))] [] s.2) : ∀ (F : Nat) (s : (Int32 × gMem)), itr F (fun s => s_X10_hour_20 a1 s.1 s.2) s = some e → gWW X Y 3 20 [(0, .ref (gad Y 0 34)), (1, .int a1), (2, .int s.1)] [] s.2 := by
  intro F s
  refine itr_w (P := fun s => gWW X Y 3 20 [(0, .ref (gad Y 0 34)), (1, .int a1), (2, .int s.1)] [] s.2) (fun s o hx kI kx => ?_) F s
  obtain ⟨b2, N⟩ := s
  have hx : s_X10_hour_20 a1 b2 N = some o := hx
  have kE : ∀ s : (Int32 × gMem), o = .inr s → gWW X Y 3 45 [(0, .ref (gad Y 0 34))] [] s.2 := fun s q => kE s (kx _ q).symm
  unfold s_X10_hour_20 at hx
  refine q_iload_n hC 2 dX10_hour_20 rfl rfl ?_
  refine q_iload_n hC 1 dX10_hour_21 rfl rfl ?_
  refine q_ic_ge hC 45 dX10_hour_22 rfl (fun h5 => ?_) (fun h5 => ?_)
  · have hx := gi_p h5 hx
    exact q_sub [0] rfl (kE (b2, N) (Option.some.inj hx).symm)
  · have hx := gi_n h5 hx
    refine q_aload_n hC 0 dX10_hour_25 rfl rfl ?_
    refine gf_X10_61 hC dX10_hour_26 ?_
    obtain ⟨v6, q7, hx⟩ := gb_e hx
    refine q_kv (q_rV (As := []) (rest := []) hC mm_X1_remember wM_X10_102 (c_X1_remember (by decide) q7) ⟨rfl, rfl, Nat.le_of_ble_eq_true rfl, Nat.le_of_ble_eq_true rfl⟩ (gV_h (by decide) (by decide)) rfl rfl rfl rfl (Nat.le_of_ble_eq_true rfl) dX10_hour_29) ?_
    refine q_aload_n hC 0 dX10_hour_32 rfl rfl ?_
    refine gf_X10_61 hC dX10_hour_33 ?_
    obtain ⟨v8, q9, hx⟩ := gb_e hx
    refine q_kv (q_rV (As := []) (rest := []) hC mm_X1_passHour wM_X10_122 (c_X1_passHour (by decide) q9) ⟨rfl, rfl, Nat.le_of_ble_eq_true rfl, Nat.le_of_ble_eq_true rfl⟩ (gV_h (by decide) (by decide)) rfl rfl rfl rfl (Nat.le_of_ble_eq_true rfl) dX10_hour_36) ?_
    refine q_iinc hC 2 1 [(2, .int (b2 + 1)), (0, .ref (gad Y 0 34)), (1, .int a1)] dX10_hour_39 rfl rfl (by decide) rfl ?_
    refine q_goto hC 20 dX10_hour_42 rfl ?_
    exact q_sub [1, 2, 0] rfl (kI (b2 + 1, v8) (Option.some.inj hx).symm)
set_option maxRecDepth 100000 in
set_option maxHeartbeats 4000000 in
theorem c_X10_hour {l : Launch} {Y : gY} {M : gMem} {p1 : Int32} {r : (Int32 × gMem)} (hx : x_X10_hour M p1 = some r) : Met l yX10_hour (gws yX10_hour cX10_hour 3 (some .int)) { frames := 7, cells := 0, slots := 0, locals := 154 } (va_Pc [.ref (gad Y 0 34), .int p1] (gS0 Y M)) (gQi Y r) 0 0 (gA Y) := by
  refine gmet (lv := [(0, .ref (gad Y 0 34)), (1, .int p1)]) "GuestStaff" (by decide) rfl (Nat.le_of_ble_eq_true rfl) rfl (fun X hC hF => ?_)
  have J11 : ∀ (N : gMem) , j_X10_hour_11 M p1 N = some r → gWW X Y 3 11 [(0, .ref (gad Y 0 34))] [] N := by
    intro N hx
    unfold j_X10_hour_11 at hx
    refine q_aload_n hC 0 dX10_hour_11 rfl rfl ?_
    refine q_bipush hC (-2) dX10_hour_12 rfl ?_
    obtain ⟨v2, q3, hx⟩ := gb_e hx
    refine q_ki (q_rV (As := [.int (-2)]) (rest := []) hC mm_X10_refuseBad wM_X10_83 (c_X10_refuseBad q3) ⟨rfl, rfl, Nat.le_of_ble_eq_true rfl, Nat.le_of_ble_eq_true rfl⟩ (gV_t (by decide) (by decide)) rfl rfl rfl rfl (Nat.le_of_ble_eq_true rfl) dX10_hour_14) ?_
    exact q_iret hC hF dX10_hour_17 (Option.some.inj hx)
  unfold x_X10_hour at hx
  refine q_iload_n hC 1 dX10_hour_0 rfl rfl ?_
  refine q_iconst hC 1 dX10_hour_1 rfl ?_
  refine q_ic_lt hC 11 dX10_hour_2 rfl (fun h1 => ?_) (fun h1 => ?_)
  · have hx := gi_p h1 hx
    exact q_sub [0] rfl (J11 M hx)
  · have hx := gi_n h1 hx
    refine q_iload_n hC 1 dX10_hour_5 rfl rfl ?_
    refine q_bipush hC 60 dX10_hour_6 rfl ?_
    refine q_ic_le hC 18 dX10_hour_8 rfl (fun h4 => ?_) (fun h4 => ?_)
    · have hx := gi_p h4 hx
      refine q_iconst hC 0 dX10_hour_18 rfl ?_
      refine q_istore_n hC [(2, .int 0), (0, .ref (gad Y 0 34)), (1, .int p1)] dX10_hour_19 rfl (by decide) rfl ?_
      obtain ⟨e10, qe10, hx⟩ := gb_e hx
      refine q_sub [1, 2, 0] rfl (w_X10_hour_20 hC hF (e := e10) (fun s q => ?_) _ _ qe10)
      · subst q
        refine q_aload_n hC 0 dX10_hour_45 rfl rfl ?_
        refine gf_X10_61 hC dX10_hour_46 ?_
        refine gf_X10_125 hC (by decide) dX10_hour_49 ?_
        exact q_iret hC hF dX10_hour_52 (Option.some.inj hx)
    · have hx := gi_n h4 hx
      exact q_sub [0] rfl (J11 M hx)

theorem dX10_refuseNo_0 : decode cX10_refuseNo 0 = .ok (.aload_n 0, 1) := by decide +kernel
theorem dX10_refuseNo_1 : decode cX10_refuseNo 1 = .ok (.getfield 27, 3) := by decide +kernel
theorem dX10_refuseNo_4 : decode cX10_refuseNo 4 = .ok (.iconst 1, 1) := by decide +kernel
theorem dX10_refuseNo_5 : decode cX10_refuseNo 5 = .ok (.dup2, 1) := by decide +kernel
theorem dX10_refuseNo_6 : decode cX10_refuseNo 6 = .ok (.iaload, 1) := by decide +kernel
theorem dX10_refuseNo_7 : decode cX10_refuseNo 7 = .ok (.iconst 1, 1) := by decide +kernel
theorem dX10_refuseNo_8 : decode cX10_refuseNo 8 = .ok (.iadd, 1) := by decide +kernel
theorem dX10_refuseNo_9 : decode cX10_refuseNo 9 = .ok (.iastore, 1) := by decide +kernel
theorem dX10_refuseNo_10 : decode cX10_refuseNo 10 = .ok (.bipush (-3), 2) := by decide +kernel
theorem dX10_refuseNo_12 : decode cX10_refuseNo 12 = .ok (.ireturn, 1) := by decide +kernel
def x_X10_refuseNo (M : gMem) : Option (Int32 × gMem) := some ((-3), gwr M 0 50 1 ((M.1 0 50 1) + 1))
set_option maxRecDepth 100000 in
set_option maxHeartbeats 4000000 in
theorem c_X10_refuseNo {l : Launch} {Y : gY} {M : gMem} {r : (Int32 × gMem)} (hx : x_X10_refuseNo M = some r) : Met l yX10_refuseNo (gws yX10_refuseNo cX10_refuseNo 1 (some .int)) { frames := 0, cells := 0, slots := 0, locals := 0 } (va_Pc [.ref (gad Y 0 34)] (gS0 Y M)) (gQi Y r) 0 0 (gA Y) := by
  refine gmet (lv := [(0, .ref (gad Y 0 34))]) "GuestStaff" (by decide) rfl (Nat.le_of_ble_eq_true rfl) rfl (fun X hC hF => ?_)
  unfold x_X10_refuseNo at hx
  refine q_aload_n hC 0 dX10_refuseNo_0 rfl rfl ?_
  refine gf_X10_27 hC dX10_refuseNo_1 ?_
  refine q_iconst hC 1 dX10_refuseNo_4 rfl ?_
  refine q_dup2 hC dX10_refuseNo_5 rfl rfl ?_
  refine q_ialdk hC 1 2 (gV_t (by decide) (by decide)) rfl (by decide) rfl dX10_refuseNo_6 ?_
  refine q_iconst hC 1 dX10_refuseNo_7 rfl ?_
  refine q_iadd hC dX10_refuseNo_8 ?_
  refine q_iastk hC 1 2 (gV_t (by decide) (by decide)) rfl (by decide) rfl dX10_refuseNo_9 ?_
  refine q_bipush hC (-3) dX10_refuseNo_10 rfl ?_
  exact q_iret hC hF dX10_refuseNo_12 (Option.some.inj hx)

theorem dX10_undo_0 : decode cX10_undo 0 = .ok (.aload_n 0, 1) := by decide +kernel
theorem dX10_undo_1 : decode cX10_undo 1 = .ok (.getfield 61, 3) := by decide +kernel
theorem dX10_undo_4 : decode cX10_undo 4 = .ok (.getfield 128, 3) := by decide +kernel
theorem dX10_undo_7 : decode cX10_undo 7 = .ok (.ifCond .ne 8, 3) := by decide +kernel
theorem dX10_undo_10 : decode cX10_undo 10 = .ok (.aload_n 0, 1) := by decide +kernel
theorem dX10_undo_11 : decode cX10_undo 11 = .ok (.invokevirtual 131, 3) := by decide +kernel
theorem dX10_undo_14 : decode cX10_undo 14 = .ok (.ireturn, 1) := by decide +kernel
theorem dX10_undo_15 : decode cX10_undo 15 = .ok (.aload_n 0, 1) := by decide +kernel
theorem dX10_undo_16 : decode cX10_undo 16 = .ok (.getfield 61, 3) := by decide +kernel
theorem dX10_undo_19 : decode cX10_undo 19 = .ok (.invokevirtual 134, 3) := by decide +kernel
theorem dX10_undo_22 : decode cX10_undo 22 = .ok (.aload_n 0, 1) := by decide +kernel
theorem dX10_undo_23 : decode cX10_undo 23 = .ok (.getfield 61, 3) := by decide +kernel
theorem dX10_undo_26 : decode cX10_undo 26 = .ok (.getfield 137, 3) := by decide +kernel
theorem dX10_undo_29 : decode cX10_undo 29 = .ok (.ireturn, 1) := by decide +kernel
def x_X10_undo (M : gMem) : Option (Int32 × gMem) := (if (M.1 0 0 12) = 0 then Option.bind (x_X10_refuseNo M) (fun v4 => some (v4.1, v4.2)) else Option.bind (x_X1_recall M 0) (fun v2 => some (v2.1 0 0 14, v2)))
set_option maxRecDepth 100000 in
set_option maxHeartbeats 4000000 in
theorem c_X10_undo {l : Launch} {Y : gY} {M : gMem} {r : (Int32 × gMem)} (hx : x_X10_undo M = some r) : Met l yX10_undo (gws yX10_undo cX10_undo 1 (some .int)) { frames := 3, cells := 0, slots := 0, locals := 81 } (va_Pc [.ref (gad Y 0 34)] (gS0 Y M)) (gQi Y r) 0 0 (gA Y) := by
  refine gmet (lv := [(0, .ref (gad Y 0 34))]) "GuestStaff" (by decide) rfl (Nat.le_of_ble_eq_true rfl) rfl (fun X hC hF => ?_)
  unfold x_X10_undo at hx
  refine q_aload_n hC 0 dX10_undo_0 rfl rfl ?_
  refine gf_X10_61 hC dX10_undo_1 ?_
  refine gf_X10_128 hC (by decide) dX10_undo_4 ?_
  refine q_if_ne hC 15 dX10_undo_7 rfl (fun h1 => ?_) (fun h1 => ?_)
  · have hx := gi_n h1 hx
    refine q_aload_n hC 0 dX10_undo_15 rfl rfl ?_
    refine gf_X10_61 hC dX10_undo_16 ?_
    obtain ⟨v2, q3, hx⟩ := gb_e hx
    refine q_kv (q_rV (As := []) (rest := []) hC mm_X1_recall wM_X10_134 (c_X1_recall (by decide) q3) ⟨rfl, rfl, Nat.le_of_ble_eq_true rfl, Nat.le_of_ble_eq_true rfl⟩ (gV_h (by decide) (by decide)) rfl rfl rfl rfl (Nat.le_of_ble_eq_true rfl) dX10_undo_19) ?_
    refine q_aload_n hC 0 dX10_undo_22 rfl rfl ?_
    refine gf_X10_61 hC dX10_undo_23 ?_
    refine gf_X10_137 hC (by decide) dX10_undo_26 ?_
    exact q_iret hC hF dX10_undo_29 (Option.some.inj hx)
  · have hx := gi_p h1 hx
    refine q_aload_n hC 0 dX10_undo_10 rfl rfl ?_
    obtain ⟨v4, q5, hx⟩ := gb_e hx
    refine q_ki (q_rV (As := []) (rest := []) hC mm_X10_refuseNo wM_X10_131 (c_X10_refuseNo q5) ⟨rfl, rfl, Nat.le_of_ble_eq_true rfl, Nat.le_of_ble_eq_true rfl⟩ (gV_t (by decide) (by decide)) rfl rfl rfl rfl (Nat.le_of_ble_eq_true rfl) dX10_undo_11) ?_
    exact q_iret hC hF dX10_undo_14 (Option.some.inj hx)

theorem dX10_of_0 : decode cX10_of 0 = .ok (.aload_n 0, 1) := by decide +kernel
theorem dX10_of_1 : decode cX10_of 1 = .ok (.getfield 61, 3) := by decide +kernel
theorem dX10_of_4 : decode cX10_of 4 = .ok (.iload_n 1, 1) := by decide +kernel
theorem dX10_of_5 : decode cX10_of 5 = .ok (.invokevirtual 95, 3) := by decide +kernel
theorem dX10_of_8 : decode cX10_of 8 = .ok (.ifCond .ne 10, 3) := by decide +kernel
theorem dX10_of_11 : decode cX10_of 11 = .ok (.aload_n 0, 1) := by decide +kernel
theorem dX10_of_12 : decode cX10_of 12 = .ok (.bipush (-10), 2) := by decide +kernel
theorem dX10_of_14 : decode cX10_of 14 = .ok (.invokevirtual 83, 3) := by decide +kernel
theorem dX10_of_17 : decode cX10_of 17 = .ok (.ireturn, 1) := by decide +kernel
theorem dX10_of_18 : decode cX10_of 18 = .ok (.iload_n 2, 1) := by decide +kernel
theorem dX10_of_19 : decode cX10_of 19 = .ok (.tableswitch 109 0 6 #[41, 51, 61, 71, 81, 91, 100], 41) := by decide +kernel
theorem dX10_of_60 : decode cX10_of 60 = .ok (.aload_n 0, 1) := by decide +kernel
theorem dX10_of_61 : decode cX10_of 61 = .ok (.getfield 61, 3) := by decide +kernel
theorem dX10_of_64 : decode cX10_of 64 = .ok (.getfield 140, 3) := by decide +kernel
theorem dX10_of_67 : decode cX10_of 67 = .ok (.iload_n 1, 1) := by decide +kernel
theorem dX10_of_68 : decode cX10_of 68 = .ok (.iaload, 1) := by decide +kernel
theorem dX10_of_69 : decode cX10_of 69 = .ok (.ireturn, 1) := by decide +kernel
theorem dX10_of_70 : decode cX10_of 70 = .ok (.aload_n 0, 1) := by decide +kernel
theorem dX10_of_71 : decode cX10_of 71 = .ok (.getfield 61, 3) := by decide +kernel
theorem dX10_of_74 : decode cX10_of 74 = .ok (.getfield 143, 3) := by decide +kernel
theorem dX10_of_77 : decode cX10_of 77 = .ok (.iload_n 1, 1) := by decide +kernel
theorem dX10_of_78 : decode cX10_of 78 = .ok (.iaload, 1) := by decide +kernel
theorem dX10_of_79 : decode cX10_of 79 = .ok (.ireturn, 1) := by decide +kernel
theorem dX10_of_80 : decode cX10_of 80 = .ok (.aload_n 0, 1) := by decide +kernel
theorem dX10_of_81 : decode cX10_of 81 = .ok (.getfield 61, 3) := by decide +kernel
theorem dX10_of_84 : decode cX10_of 84 = .ok (.getfield 146, 3) := by decide +kernel
theorem dX10_of_87 : decode cX10_of 87 = .ok (.iload_n 1, 1) := by decide +kernel
theorem dX10_of_88 : decode cX10_of 88 = .ok (.iaload, 1) := by decide +kernel
theorem dX10_of_89 : decode cX10_of 89 = .ok (.ireturn, 1) := by decide +kernel
theorem dX10_of_90 : decode cX10_of 90 = .ok (.aload_n 0, 1) := by decide +kernel
theorem dX10_of_91 : decode cX10_of 91 = .ok (.getfield 61, 3) := by decide +kernel
theorem dX10_of_94 : decode cX10_of 94 = .ok (.getfield 99, 3) := by decide +kernel
theorem dX10_of_97 : decode cX10_of 97 = .ok (.iload_n 1, 1) := by decide +kernel
theorem dX10_of_98 : decode cX10_of 98 = .ok (.iaload, 1) := by decide +kernel
theorem dX10_of_99 : decode cX10_of 99 = .ok (.ireturn, 1) := by decide +kernel
theorem dX10_of_100 : decode cX10_of 100 = .ok (.aload_n 0, 1) := by decide +kernel
theorem dX10_of_101 : decode cX10_of 101 = .ok (.getfield 61, 3) := by decide +kernel
theorem dX10_of_104 : decode cX10_of 104 = .ok (.getfield 149, 3) := by decide +kernel
theorem dX10_of_107 : decode cX10_of 107 = .ok (.iload_n 1, 1) := by decide +kernel
theorem dX10_of_108 : decode cX10_of 108 = .ok (.iaload, 1) := by decide +kernel
theorem dX10_of_109 : decode cX10_of 109 = .ok (.ireturn, 1) := by decide +kernel
theorem dX10_of_110 : decode cX10_of 110 = .ok (.aload_n 0, 1) := by decide +kernel
theorem dX10_of_111 : decode cX10_of 111 = .ok (.getfield 61, 3) := by decide +kernel
theorem dX10_of_114 : decode cX10_of 114 = .ok (.iload_n 1, 1) := by decide +kernel
theorem dX10_of_115 : decode cX10_of 115 = .ok (.invokevirtual 152, 3) := by decide +kernel
theorem dX10_of_118 : decode cX10_of 118 = .ok (.ireturn, 1) := by decide +kernel
theorem dX10_of_119 : decode cX10_of 119 = .ok (.aload_n 0, 1) := by decide +kernel
theorem dX10_of_120 : decode cX10_of 120 = .ok (.getfield 61, 3) := by decide +kernel
theorem dX10_of_123 : decode cX10_of 123 = .ok (.iload_n 1, 1) := by decide +kernel
theorem dX10_of_124 : decode cX10_of 124 = .ok (.invokevirtual 155, 3) := by decide +kernel
theorem dX10_of_127 : decode cX10_of 127 = .ok (.ireturn, 1) := by decide +kernel
theorem dX10_of_128 : decode cX10_of 128 = .ok (.aload_n 0, 1) := by decide +kernel
theorem dX10_of_129 : decode cX10_of 129 = .ok (.bipush (-10), 2) := by decide +kernel
theorem dX10_of_131 : decode cX10_of 131 = .ok (.invokevirtual 83, 3) := by decide +kernel
theorem dX10_of_134 : decode cX10_of 134 = .ok (.ireturn, 1) := by decide +kernel
def x_X10_of (M : gMem) (p1 : Int32) (p2 : Int32) : Option (Int32 × gMem) := Option.bind (x_X1_isGuest M 0 p1) (fun v1 => (if v1 = 0 then Option.bind (x_X10_refuseBad M (-10)) (fun v23 => some (v23.1, v23.2)) else (if p2 = 0 then gd (gin p1 7) (some (M.1 0 1 (p1).toNatClampNeg, M)) else (if p2 = 1 then gd (gin p1 7) (some (M.1 0 2 (p1).toNatClampNeg, M)) else (if p2 = 2 then gd (gin p1 7) (some (M.1 0 3 (p1).toNatClampNeg, M)) else (if p2 = 3 then gd (gin p1 7) (some (M.1 0 4 (p1).toNatClampNeg, M)) else (if p2 = 4 then gd (gin p1 7) (some (M.1 0 5 (p1).toNatClampNeg, M)) else (if p2 = 5 then Option.bind (x_X1_serverOf M 0 p1) (fun v16 => some (v16, M)) else (if p2 = 6 then Option.bind (x_X1_contentOf M 0 p1) (fun v19 => some (v19, M)) else Option.bind (x_X10_refuseBad M (-10)) (fun v21 => some (v21.1, v21.2)))))))))))
set_option maxRecDepth 100000 in
set_option maxHeartbeats 4000000 in
theorem c_X10_of {l : Launch} {Y : gY} {M : gMem} {p1 : Int32} {p2 : Int32} {r : (Int32 × gMem)} (hx : x_X10_of M p1 p2 = some r) : Met l yX10_of (gws yX10_of cX10_of 3 (some .int)) { frames := 6, cells := 0, slots := 0, locals := 132 } (va_Pc [.ref (gad Y 0 34), .int p1, .int p2] (gS0 Y M)) (gQi Y r) 0 0 (gA Y) := by
  refine gmet (lv := [(0, .ref (gad Y 0 34)), (1, .int p1), (2, .int p2)]) "GuestStaff" (by decide) rfl (Nat.le_of_ble_eq_true rfl) rfl (fun X hC hF => ?_)
  unfold x_X10_of at hx
  refine q_aload_n hC 0 dX10_of_0 rfl rfl ?_
  refine gf_X10_61 hC dX10_of_1 ?_
  refine q_iload_n hC 1 dX10_of_4 rfl rfl ?_
  obtain ⟨v1, q2, hx⟩ := gb_e hx
  refine q_kzp (q_rV (As := [.int p1]) (rest := []) hC mm_X1_isGuest wM_X10_95 (c_X1_isGuest (by decide) q2) ⟨rfl, rfl, Nat.le_of_ble_eq_true rfl, Nat.le_of_ble_eq_true rfl⟩ (gV_h (by decide) (by decide)) rfl rfl rfl rfl (Nat.le_of_ble_eq_true rfl) dX10_of_5) (fun z3 => ?_)
  refine q_if_ne hC 18 dX10_of_8 rfl (fun h4 => ?_) (fun h4 => ?_)
  · have hx := gi_n h4 hx
    refine q_iload_n hC 2 dX10_of_18 rfl rfl ?_
    by_cases h5 : p2 = 0
    · have hx := gi_p h5 hx
      refine q_tin hC 0 60 h5 dX10_of_19 (by decide) (by decide) rfl rfl ?_
      refine q_aload_n hC 0 dX10_of_60 rfl rfl ?_
      refine gf_X10_61 hC dX10_of_61 ?_
      refine gf_X10_140 hC (by decide) dX10_of_64 ?_
      refine q_iload_n hC 1 dX10_of_67 rfl rfl ?_
      have g6 := (gd_e hx).1
      have hx := (gd_e hx).2
      refine q_iald hC 6 (gV_h (by decide) (by decide)) rfl g6 dX10_of_68 ?_
      exact q_iret hC hF dX10_of_69 (Option.some.inj hx)
    have hx := gi_n h5 hx
    by_cases h7 : p2 = 1
    · have hx := gi_p h7 hx
      refine q_tin hC 1 70 h7 dX10_of_19 (by decide) (by decide) rfl rfl ?_
      refine q_aload_n hC 0 dX10_of_70 rfl rfl ?_
      refine gf_X10_61 hC dX10_of_71 ?_
      refine gf_X10_143 hC (by decide) dX10_of_74 ?_
      refine q_iload_n hC 1 dX10_of_77 rfl rfl ?_
      have g8 := (gd_e hx).1
      have hx := (gd_e hx).2
      refine q_iald hC 6 (gV_h (by decide) (by decide)) rfl g8 dX10_of_78 ?_
      exact q_iret hC hF dX10_of_79 (Option.some.inj hx)
    have hx := gi_n h7 hx
    by_cases h9 : p2 = 2
    · have hx := gi_p h9 hx
      refine q_tin hC 2 80 h9 dX10_of_19 (by decide) (by decide) rfl rfl ?_
      refine q_aload_n hC 0 dX10_of_80 rfl rfl ?_
      refine gf_X10_61 hC dX10_of_81 ?_
      refine gf_X10_146 hC (by decide) dX10_of_84 ?_
      refine q_iload_n hC 1 dX10_of_87 rfl rfl ?_
      have g10 := (gd_e hx).1
      have hx := (gd_e hx).2
      refine q_iald hC 6 (gV_h (by decide) (by decide)) rfl g10 dX10_of_88 ?_
      exact q_iret hC hF dX10_of_89 (Option.some.inj hx)
    have hx := gi_n h9 hx
    by_cases h11 : p2 = 3
    · have hx := gi_p h11 hx
      refine q_tin hC 3 90 h11 dX10_of_19 (by decide) (by decide) rfl rfl ?_
      refine q_aload_n hC 0 dX10_of_90 rfl rfl ?_
      refine gf_X10_61 hC dX10_of_91 ?_
      refine gf_X10_99 hC (by decide) dX10_of_94 ?_
      refine q_iload_n hC 1 dX10_of_97 rfl rfl ?_
      have g12 := (gd_e hx).1
      have hx := (gd_e hx).2
      refine q_iald hC 6 (gV_h (by decide) (by decide)) rfl g12 dX10_of_98 ?_
      exact q_iret hC hF dX10_of_99 (Option.some.inj hx)
    have hx := gi_n h11 hx
    by_cases h13 : p2 = 4
    · have hx := gi_p h13 hx
      refine q_tin hC 4 100 h13 dX10_of_19 (by decide) (by decide) rfl rfl ?_
      refine q_aload_n hC 0 dX10_of_100 rfl rfl ?_
      refine gf_X10_61 hC dX10_of_101 ?_
      refine gf_X10_149 hC (by decide) dX10_of_104 ?_
      refine q_iload_n hC 1 dX10_of_107 rfl rfl ?_
      have g14 := (gd_e hx).1
      have hx := (gd_e hx).2
      refine q_iald hC 6 (gV_h (by decide) (by decide)) rfl g14 dX10_of_108 ?_
      exact q_iret hC hF dX10_of_109 (Option.some.inj hx)
    have hx := gi_n h13 hx
    by_cases h15 : p2 = 5
    · have hx := gi_p h15 hx
      refine q_tin hC 5 110 h15 dX10_of_19 (by decide) (by decide) rfl rfl ?_
      refine q_aload_n hC 0 dX10_of_110 rfl rfl ?_
      refine gf_X10_61 hC dX10_of_111 ?_
      refine q_iload_n hC 1 dX10_of_114 rfl rfl ?_
      obtain ⟨v16, q17, hx⟩ := gb_e hx
      refine q_kip (q_rV (As := [.int p1]) (rest := []) hC mm_X1_serverOf wM_X10_152 (c_X1_serverOf (by decide) q17) ⟨rfl, rfl, Nat.le_of_ble_eq_true rfl, Nat.le_of_ble_eq_true rfl⟩ (gV_h (by decide) (by decide)) rfl rfl rfl rfl (Nat.le_of_ble_eq_true rfl) dX10_of_115) ?_
      exact q_iret hC hF dX10_of_118 (Option.some.inj hx)
    have hx := gi_n h15 hx
    by_cases h18 : p2 = 6
    · have hx := gi_p h18 hx
      refine q_tin hC 6 119 h18 dX10_of_19 (by decide) (by decide) rfl rfl ?_
      refine q_aload_n hC 0 dX10_of_119 rfl rfl ?_
      refine gf_X10_61 hC dX10_of_120 ?_
      refine q_iload_n hC 1 dX10_of_123 rfl rfl ?_
      obtain ⟨v19, q20, hx⟩ := gb_e hx
      refine q_kip (q_rV (As := [.int p1]) (rest := []) hC mm_X1_contentOf wM_X10_155 (c_X1_contentOf (by decide) q20) ⟨rfl, rfl, Nat.le_of_ble_eq_true rfl, Nat.le_of_ble_eq_true rfl⟩ (gV_h (by decide) (by decide)) rfl rfl rfl rfl (Nat.le_of_ble_eq_true rfl) dX10_of_124) ?_
      exact q_iret hC hF dX10_of_127 (Option.some.inj hx)
    have hx := gi_n h18 hx
    have th5 := lv_neT (a := 0) h5 (by decide)
    have th7 := lv_neT (a := 1) h7 (by decide)
    have th9 := lv_neT (a := 2) h9 (by decide)
    have th11 := lv_neT (a := 3) h11 (by decide)
    have th13 := lv_neT (a := 4) h13 (by decide)
    have th15 := lv_neT (a := 5) h15 (by decide)
    have th18 := lv_neT (a := 6) h18 (by decide)
    refine q_tout hC 128 (by omega) dX10_of_19 rfl ?_
    refine q_aload_n hC 0 dX10_of_128 rfl rfl ?_
    refine q_bipush hC (-10) dX10_of_129 rfl ?_
    obtain ⟨v21, q22, hx⟩ := gb_e hx
    refine q_ki (q_rV (As := [.int (-10)]) (rest := []) hC mm_X10_refuseBad wM_X10_83 (c_X10_refuseBad q22) ⟨rfl, rfl, Nat.le_of_ble_eq_true rfl, Nat.le_of_ble_eq_true rfl⟩ (gV_t (by decide) (by decide)) rfl rfl rfl rfl (Nat.le_of_ble_eq_true rfl) dX10_of_131) ?_
    exact q_iret hC hF dX10_of_134 (Option.some.inj hx)
  · have hx := gi_p h4 hx
    refine q_aload_n hC 0 dX10_of_11 rfl rfl ?_
    refine q_bipush hC (-10) dX10_of_12 rfl ?_
    obtain ⟨v23, q24, hx⟩ := gb_e hx
    refine q_ki (q_rV (As := [.int (-10)]) (rest := []) hC mm_X10_refuseBad wM_X10_83 (c_X10_refuseBad q24) ⟨rfl, rfl, Nat.le_of_ble_eq_true rfl, Nat.le_of_ble_eq_true rfl⟩ (gV_t (by decide) (by decide)) rfl rfl rfl rfl (Nat.le_of_ble_eq_true rfl) dX10_of_14) ?_
    exact q_iret hC hF dX10_of_17 (Option.some.inj hx)

theorem dX10_can_0 : decode cX10_can 0 = .ok (.aload_n 0, 1) := by decide +kernel
theorem dX10_can_1 : decode cX10_can 1 = .ok (.getfield 61, 3) := by decide +kernel
theorem dX10_can_4 : decode cX10_can 4 = .ok (.iload_n 1, 1) := by decide +kernel
theorem dX10_can_5 : decode cX10_can 5 = .ok (.invokevirtual 95, 3) := by decide +kernel
theorem dX10_can_8 : decode cX10_can 8 = .ok (.ifCond .eq 19, 3) := by decide +kernel
theorem dX10_can_11 : decode cX10_can 11 = .ok (.aload_n 0, 1) := by decide +kernel
theorem dX10_can_12 : decode cX10_can 12 = .ok (.getfield 61, 3) := by decide +kernel
theorem dX10_can_15 : decode cX10_can 15 = .ok (.iload_n 2, 1) := by decide +kernel
theorem dX10_can_16 : decode cX10_can 16 = .ok (.invokevirtual 95, 3) := by decide +kernel
theorem dX10_can_19 : decode cX10_can 19 = .ok (.ifCond .eq 8, 3) := by decide +kernel
theorem dX10_can_22 : decode cX10_can 22 = .ok (.iload_n 1, 1) := by decide +kernel
theorem dX10_can_23 : decode cX10_can 23 = .ok (.iload_n 2, 1) := by decide +kernel
theorem dX10_can_24 : decode cX10_can 24 = .ok (.if_icmp .ne 10, 3) := by decide +kernel
theorem dX10_can_27 : decode cX10_can 27 = .ok (.aload_n 0, 1) := by decide +kernel
theorem dX10_can_28 : decode cX10_can 28 = .ok (.bipush (-2), 2) := by decide +kernel
theorem dX10_can_30 : decode cX10_can 30 = .ok (.invokevirtual 83, 3) := by decide +kernel
theorem dX10_can_33 : decode cX10_can 33 = .ok (.ireturn, 1) := by decide +kernel
theorem dX10_can_34 : decode cX10_can 34 = .ok (.aload_n 0, 1) := by decide +kernel
theorem dX10_can_35 : decode cX10_can 35 = .ok (.getfield 61, 3) := by decide +kernel
theorem dX10_can_38 : decode cX10_can 38 = .ok (.iload_n 1, 1) := by decide +kernel
theorem dX10_can_39 : decode cX10_can 39 = .ok (.iload_n 2, 1) := by decide +kernel
theorem dX10_can_40 : decode cX10_can 40 = .ok (.invokevirtual 158, 3) := by decide +kernel
theorem dX10_can_43 : decode cX10_can 43 = .ok (.ifCond .eq 7, 3) := by decide +kernel
theorem dX10_can_46 : decode cX10_can 46 = .ok (.iconst 1, 1) := by decide +kernel
theorem dX10_can_47 : decode cX10_can 47 = .ok (.goto 4, 3) := by decide +kernel
theorem dX10_can_50 : decode cX10_can 50 = .ok (.iconst 0, 1) := by decide +kernel
theorem dX10_can_51 : decode cX10_can 51 = .ok (.ireturn, 1) := by decide +kernel
def j_X10_can_27 (M : gMem) (p1 : Int32) (p2 : Int32) (N : gMem) : Option (Int32 × gMem) := Option.bind (x_X10_refuseBad N (-2)) (fun v5 => some (v5.1, v5.2))
def x_X10_can (M : gMem) (p1 : Int32) (p2 : Int32) : Option (Int32 × gMem) := Option.bind (x_X1_isGuest M 0 p1) (fun v1 => (if v1 = 0 then j_X10_can_27 M p1 p2 M else Option.bind (x_X1_isGuest M 0 p2) (fun v7 => (if v7 = 0 then j_X10_can_27 M p1 p2 M else (if p1 = p2 then j_X10_can_27 M p1 p2 M else Option.bind (x_X1_canServe M 0 p1 p2) (fun v12 => (if v12 = 0 then some (0, M) else some (1, M))))))))
set_option maxRecDepth 100000 in
set_option maxHeartbeats 4000000 in
theorem c_X10_can {l : Launch} {Y : gY} {M : gMem} {p1 : Int32} {p2 : Int32} {r : (Int32 × gMem)} (hx : x_X10_can M p1 p2 = some r) : Met l yX10_can (gws yX10_can cX10_can 3 (some .int)) { frames := 1, cells := 0, slots := 0, locals := 22 } (va_Pc [.ref (gad Y 0 34), .int p1, .int p2] (gS0 Y M)) (gQi Y r) 0 0 (gA Y) := by
  refine gmet (lv := [(0, .ref (gad Y 0 34)), (1, .int p1), (2, .int p2)]) "GuestStaff" (by decide) rfl (Nat.le_of_ble_eq_true rfl) rfl (fun X hC hF => ?_)
  have J27 : ∀ (N : gMem) , j_X10_can_27 M p1 p2 N = some r → gWW X Y 3 27 [(0, .ref (gad Y 0 34))] [] N := by
    intro N hx
    unfold j_X10_can_27 at hx
    refine q_aload_n hC 0 dX10_can_27 rfl rfl ?_
    refine q_bipush hC (-2) dX10_can_28 rfl ?_
    obtain ⟨v5, q6, hx⟩ := gb_e hx
    refine q_ki (q_rV (As := [.int (-2)]) (rest := []) hC mm_X10_refuseBad wM_X10_83 (c_X10_refuseBad q6) ⟨rfl, rfl, Nat.le_of_ble_eq_true rfl, Nat.le_of_ble_eq_true rfl⟩ (gV_t (by decide) (by decide)) rfl rfl rfl rfl (Nat.le_of_ble_eq_true rfl) dX10_can_30) ?_
    exact q_iret hC hF dX10_can_33 (Option.some.inj hx)
  unfold x_X10_can at hx
  refine q_aload_n hC 0 dX10_can_0 rfl rfl ?_
  refine gf_X10_61 hC dX10_can_1 ?_
  refine q_iload_n hC 1 dX10_can_4 rfl rfl ?_
  obtain ⟨v1, q2, hx⟩ := gb_e hx
  refine q_kzp (q_rV (As := [.int p1]) (rest := []) hC mm_X1_isGuest wM_X10_95 (c_X1_isGuest (by decide) q2) ⟨rfl, rfl, Nat.le_of_ble_eq_true rfl, Nat.le_of_ble_eq_true rfl⟩ (gV_h (by decide) (by decide)) rfl rfl rfl rfl (Nat.le_of_ble_eq_true rfl) dX10_can_5) (fun z3 => ?_)
  refine q_if_eq hC 27 dX10_can_8 rfl (fun h4 => ?_) (fun h4 => ?_)
  · have hx := gi_p h4 hx
    exact q_sub [0] rfl (J27 M hx)
  · have hx := gi_n h4 hx
    refine q_aload_n hC 0 dX10_can_11 rfl rfl ?_
    refine gf_X10_61 hC dX10_can_12 ?_
    refine q_iload_n hC 2 dX10_can_15 rfl rfl ?_
    obtain ⟨v7, q8, hx⟩ := gb_e hx
    refine q_kzp (q_rV (As := [.int p2]) (rest := []) hC mm_X1_isGuest wM_X10_95 (c_X1_isGuest (by decide) q8) ⟨rfl, rfl, Nat.le_of_ble_eq_true rfl, Nat.le_of_ble_eq_true rfl⟩ (gV_h (by decide) (by decide)) rfl rfl rfl rfl (Nat.le_of_ble_eq_true rfl) dX10_can_16) (fun z9 => ?_)
    refine q_if_eq hC 27 dX10_can_19 rfl (fun h10 => ?_) (fun h10 => ?_)
    · have hx := gi_p h10 hx
      exact q_sub [0] rfl (J27 M hx)
    · have hx := gi_n h10 hx
      refine q_iload_n hC 1 dX10_can_22 rfl rfl ?_
      refine q_iload_n hC 2 dX10_can_23 rfl rfl ?_
      refine q_ic_ne hC 34 dX10_can_24 rfl (fun h11 => ?_) (fun h11 => ?_)
      · have hx := gi_n h11 hx
        refine q_aload_n hC 0 dX10_can_34 rfl rfl ?_
        refine gf_X10_61 hC dX10_can_35 ?_
        refine q_iload_n hC 1 dX10_can_38 rfl rfl ?_
        refine q_iload_n hC 2 dX10_can_39 rfl rfl ?_
        obtain ⟨v12, q13, hx⟩ := gb_e hx
        refine q_kzp (q_rV (As := [.int p1, .int p2]) (rest := []) hC mm_X1_canServe wM_X10_158 (c_X1_canServe (by decide) q13) ⟨rfl, rfl, Nat.le_of_ble_eq_true rfl, Nat.le_of_ble_eq_true rfl⟩ (gV_h (by decide) (by decide)) rfl rfl rfl rfl (Nat.le_of_ble_eq_true rfl) dX10_can_40) (fun z14 => ?_)
        refine q_if_eq hC 50 dX10_can_43 rfl (fun h15 => ?_) (fun h15 => ?_)
        · have hx := gi_p h15 hx
          refine q_iconst hC 0 dX10_can_50 rfl ?_
          exact q_iret hC hF dX10_can_51 (Option.some.inj hx)
        · have hx := gi_n h15 hx
          refine q_iconst hC 1 dX10_can_46 rfl ?_
          refine q_goto hC 51 dX10_can_47 rfl ?_
          exact q_iret hC hF dX10_can_51 (Option.some.inj hx)
      · have hx := gi_p h11 hx
        exact q_sub [0] rfl (J27 M hx)

theorem dX10_work_0 : decode cX10_work 0 = .ok (.aload_n 0, 1) := by decide +kernel
theorem dX10_work_1 : decode cX10_work 1 = .ok (.getfield 61, 3) := by decide +kernel
theorem dX10_work_4 : decode cX10_work 4 = .ok (.iload_n 1, 1) := by decide +kernel
theorem dX10_work_5 : decode cX10_work 5 = .ok (.invokevirtual 95, 3) := by decide +kernel
theorem dX10_work_8 : decode cX10_work 8 = .ok (.ifCond .eq 12, 3) := by decide +kernel
theorem dX10_work_11 : decode cX10_work 11 = .ok (.iload_n 2, 1) := by decide +kernel
theorem dX10_work_12 : decode cX10_work 12 = .ok (.bipush 8, 2) := by decide +kernel
theorem dX10_work_14 : decode cX10_work 14 = .ok (.invokestatic 79, 3) := by decide +kernel
theorem dX10_work_17 : decode cX10_work 17 = .ok (.ifCond .ne 10, 3) := by decide +kernel
theorem dX10_work_20 : decode cX10_work 20 = .ok (.aload_n 0, 1) := by decide +kernel
theorem dX10_work_21 : decode cX10_work 21 = .ok (.bipush (-2), 2) := by decide +kernel
theorem dX10_work_23 : decode cX10_work 23 = .ok (.invokevirtual 83, 3) := by decide +kernel
theorem dX10_work_26 : decode cX10_work 26 = .ok (.ireturn, 1) := by decide +kernel
theorem dX10_work_27 : decode cX10_work 27 = .ok (.aload_n 0, 1) := by decide +kernel
theorem dX10_work_28 : decode cX10_work 28 = .ok (.getfield 61, 3) := by decide +kernel
theorem dX10_work_31 : decode cX10_work 31 = .ok (.iload_n 1, 1) := by decide +kernel
theorem dX10_work_32 : decode cX10_work 32 = .ok (.iload_n 2, 1) := by decide +kernel
theorem dX10_work_33 : decode cX10_work 33 = .ok (.invokevirtual 161, 3) := by decide +kernel
theorem dX10_work_36 : decode cX10_work 36 = .ok (.ireturn, 1) := by decide +kernel
def j_X10_work_20 (M : gMem) (p1 : Int32) (p2 : Int32) (N : gMem) : Option (Int32 × gMem) := Option.bind (x_X10_refuseBad N (-2)) (fun v5 => some (v5.1, v5.2))
def x_X10_work (M : gMem) (p1 : Int32) (p2 : Int32) : Option (Int32 × gMem) := Option.bind (x_X1_isGuest M 0 p1) (fun v1 => (if v1 = 0 then j_X10_work_20 M p1 p2 M else Option.bind (x_X10_isBelow p2 8) (fun v7 => (if v7 = 0 then j_X10_work_20 M p1 p2 M else Option.bind (x_X1_workFor M 0 p1 p2) (fun v11 => some (v11, M))))))
set_option maxRecDepth 100000 in
set_option maxHeartbeats 4000000 in
theorem c_X10_work {l : Launch} {Y : gY} {M : gMem} {p1 : Int32} {p2 : Int32} {r : (Int32 × gMem)} (hx : x_X10_work M p1 p2 = some r) : Met l yX10_work (gws yX10_work cX10_work 3 (some .int)) { frames := 5, cells := 0, slots := 0, locals := 109 } (va_Pc [.ref (gad Y 0 34), .int p1, .int p2] (gS0 Y M)) (gQi Y r) 0 0 (gA Y) := by
  refine gmet (lv := [(0, .ref (gad Y 0 34)), (1, .int p1), (2, .int p2)]) "GuestStaff" (by decide) rfl (Nat.le_of_ble_eq_true rfl) rfl (fun X hC hF => ?_)
  have J20 : ∀ (N : gMem) , j_X10_work_20 M p1 p2 N = some r → gWW X Y 3 20 [(0, .ref (gad Y 0 34))] [] N := by
    intro N hx
    unfold j_X10_work_20 at hx
    refine q_aload_n hC 0 dX10_work_20 rfl rfl ?_
    refine q_bipush hC (-2) dX10_work_21 rfl ?_
    obtain ⟨v5, q6, hx⟩ := gb_e hx
    refine q_ki (q_rV (As := [.int (-2)]) (rest := []) hC mm_X10_refuseBad wM_X10_83 (c_X10_refuseBad q6) ⟨rfl, rfl, Nat.le_of_ble_eq_true rfl, Nat.le_of_ble_eq_true rfl⟩ (gV_t (by decide) (by decide)) rfl rfl rfl rfl (Nat.le_of_ble_eq_true rfl) dX10_work_23) ?_
    exact q_iret hC hF dX10_work_26 (Option.some.inj hx)
  unfold x_X10_work at hx
  refine q_aload_n hC 0 dX10_work_0 rfl rfl ?_
  refine gf_X10_61 hC dX10_work_1 ?_
  refine q_iload_n hC 1 dX10_work_4 rfl rfl ?_
  obtain ⟨v1, q2, hx⟩ := gb_e hx
  refine q_kzp (q_rV (As := [.int p1]) (rest := []) hC mm_X1_isGuest wM_X10_95 (c_X1_isGuest (by decide) q2) ⟨rfl, rfl, Nat.le_of_ble_eq_true rfl, Nat.le_of_ble_eq_true rfl⟩ (gV_h (by decide) (by decide)) rfl rfl rfl rfl (Nat.le_of_ble_eq_true rfl) dX10_work_5) (fun z3 => ?_)
  refine q_if_eq hC 20 dX10_work_8 rfl (fun h4 => ?_) (fun h4 => ?_)
  · have hx := gi_p h4 hx
    exact q_sub [0] rfl (J20 M hx)
  · have hx := gi_n h4 hx
    refine q_iload_n hC 2 dX10_work_11 rfl rfl ?_
    refine q_bipush hC 8 dX10_work_12 rfl ?_
    obtain ⟨v7, q8, hx⟩ := gb_e hx
    refine q_kzp (q_rS (As := [.int p2, .int 8]) (rest := []) hC mm_X10_isBelow wM_X10_79 (c_X10_isBelow q8) ⟨rfl, rfl, Nat.le_of_ble_eq_true rfl, Nat.le_of_ble_eq_true rfl⟩ rfl rfl (Nat.le_of_ble_eq_true rfl) dX10_work_14) (fun z9 => ?_)
    refine q_if_ne hC 27 dX10_work_17 rfl (fun h10 => ?_) (fun h10 => ?_)
    · have hx := gi_n h10 hx
      refine q_aload_n hC 0 dX10_work_27 rfl rfl ?_
      refine gf_X10_61 hC dX10_work_28 ?_
      refine q_iload_n hC 1 dX10_work_31 rfl rfl ?_
      refine q_iload_n hC 2 dX10_work_32 rfl rfl ?_
      obtain ⟨v11, q12, hx⟩ := gb_e hx
      refine q_kip (q_rV (As := [.int p1, .int p2]) (rest := []) hC mm_X1_workFor wM_X10_161 (c_X1_workFor (by decide) q12) ⟨rfl, rfl, Nat.le_of_ble_eq_true rfl, Nat.le_of_ble_eq_true rfl⟩ (gV_h (by decide) (by decide)) rfl rfl rfl rfl (Nat.le_of_ble_eq_true rfl) dX10_work_33) ?_
      exact q_iret hC hF dX10_work_36 (Option.some.inj hx)
    · have hx := gi_p h10 hx
      exact q_sub [0] rfl (J20 M hx)

theorem dX10_all_0 : decode cX10_all 0 = .ok (.iload_n 1, 1) := by decide +kernel
theorem dX10_all_1 : decode cX10_all 1 = .ok (.iconst (-1), 1) := by decide +kernel
theorem dX10_all_2 : decode cX10_all 2 = .ok (.if_icmp .eq 21, 3) := by decide +kernel
theorem dX10_all_5 : decode cX10_all 5 = .ok (.aload_n 0, 1) := by decide +kernel
theorem dX10_all_6 : decode cX10_all 6 = .ok (.getfield 61, 3) := by decide +kernel
theorem dX10_all_9 : decode cX10_all 9 = .ok (.iload_n 1, 1) := by decide +kernel
theorem dX10_all_10 : decode cX10_all 10 = .ok (.invokevirtual 95, 3) := by decide +kernel
theorem dX10_all_13 : decode cX10_all 13 = .ok (.ifCond .ne 10, 3) := by decide +kernel
theorem dX10_all_16 : decode cX10_all 16 = .ok (.aload_n 0, 1) := by decide +kernel
theorem dX10_all_17 : decode cX10_all 17 = .ok (.bipush (-10), 2) := by decide +kernel
theorem dX10_all_19 : decode cX10_all 19 = .ok (.invokevirtual 83, 3) := by decide +kernel
theorem dX10_all_22 : decode cX10_all 22 = .ok (.ireturn, 1) := by decide +kernel
theorem dX10_all_23 : decode cX10_all 23 = .ok (.aload_n 0, 1) := by decide +kernel
theorem dX10_all_24 : decode cX10_all 24 = .ok (.getfield 23, 3) := by decide +kernel
theorem dX10_all_27 : decode cX10_all 27 = .ok (.aload_n 0, 1) := by decide +kernel
theorem dX10_all_28 : decode cX10_all 28 = .ok (.getfield 61, 3) := by decide +kernel
theorem dX10_all_31 : decode cX10_all 31 = .ok (.bipush 127, 2) := by decide +kernel
theorem dX10_all_33 : decode cX10_all 33 = .ok (.iconst 0, 1) := by decide +kernel
theorem dX10_all_34 : decode cX10_all 34 = .ok (.invokevirtual 165, 3) := by decide +kernel
theorem dX10_all_37 : decode cX10_all 37 = .ok (.iload_n 1, 1) := by decide +kernel
theorem dX10_all_38 : decode cX10_all 38 = .ok (.iconst (-1), 1) := by decide +kernel
theorem dX10_all_39 : decode cX10_all 39 = .ok (.if_icmp .ne 13, 3) := by decide +kernel
theorem dX10_all_42 : decode cX10_all 42 = .ok (.aload_n 0, 1) := by decide +kernel
theorem dX10_all_43 : decode cX10_all 43 = .ok (.getfield 23, 3) := by decide +kernel
theorem dX10_all_46 : decode cX10_all 46 = .ok (.invokevirtual 169, 3) := by decide +kernel
theorem dX10_all_49 : decode cX10_all 49 = .ok (.goto 11, 3) := by decide +kernel
theorem dX10_all_52 : decode cX10_all 52 = .ok (.aload_n 0, 1) := by decide +kernel
theorem dX10_all_53 : decode cX10_all 53 = .ok (.getfield 23, 3) := by decide +kernel
theorem dX10_all_56 : decode cX10_all 56 = .ok (.iload_n 1, 1) := by decide +kernel
theorem dX10_all_57 : decode cX10_all 57 = .ok (.invokevirtual 172, 3) := by decide +kernel
theorem dX10_all_60 : decode cX10_all 60 = .ok (.ireturn, 1) := by decide +kernel
def j_X10_all_23 (M : gMem) (p1 : Int32) (N : gMem) : Option (Int32 × gMem) := Option.bind (x_X7_gather N 0 127 0) (fun v2 => (if p1 = (-1) then Option.bind (x_X7_ways v2) (fun v7 => some (v7.1, v7.2)) else Option.bind (x_X7_dutyInBest v2 p1) (fun v5 => some (v5.1, v5.2))))
def x_X10_all (M : gMem) (p1 : Int32) : Option (Int32 × gMem) := (if p1 = (-1) then j_X10_all_23 M p1 M else Option.bind (x_X1_isGuest M 0 p1) (fun v9 => (if v9 = 0 then Option.bind (x_X10_refuseBad M (-10)) (fun v13 => some (v13.1, v13.2)) else j_X10_all_23 M p1 M)))
set_option maxRecDepth 100000 in
set_option maxHeartbeats 4000000 in
theorem c_X10_all {l : Launch} {Y : gY} {M : gMem} {p1 : Int32} {r : (Int32 × gMem)} (hx : x_X10_all M p1 = some r) : Met l yX10_all (gws yX10_all cX10_all 2 (some .int)) { frames := 7, cells := 0, slots := 0, locals := 158 } (va_Pc [.ref (gad Y 0 34), .int p1] (gS0 Y M)) (gQi Y r) 0 0 (gA Y) := by
  refine gmet (lv := [(0, .ref (gad Y 0 34)), (1, .int p1)]) "GuestStaff" (by decide) rfl (Nat.le_of_ble_eq_true rfl) rfl (fun X hC hF => ?_)
  have J23 : ∀ (N : gMem) , j_X10_all_23 M p1 N = some r → gWW X Y 2 23 [(0, .ref (gad Y 0 34)), (1, .int p1)] [] N := by
    intro N hx
    unfold j_X10_all_23 at hx
    refine q_aload_n hC 0 dX10_all_23 rfl rfl ?_
    refine gf_X10_23 hC dX10_all_24 ?_
    refine q_aload_n hC 0 dX10_all_27 rfl rfl ?_
    refine gf_X10_61 hC dX10_all_28 ?_
    refine q_bipush hC 127 dX10_all_31 rfl ?_
    refine q_iconst hC 0 dX10_all_33 rfl ?_
    obtain ⟨v2, q3, hx⟩ := gb_e hx
    refine q_kv (q_rV (As := [.ref (gad Y 0 0), .int 127, .int 0]) (rest := []) hC mm_X7_gather wM_X10_165 (c_X7_gather (by decide) q3) ⟨rfl, rfl, Nat.le_of_ble_eq_true rfl, Nat.le_of_ble_eq_true rfl⟩ (gV_t (by decide) (by decide)) rfl rfl rfl rfl (Nat.le_of_ble_eq_true rfl) dX10_all_34) ?_
    refine q_iload_n hC 1 dX10_all_37 rfl rfl ?_
    refine q_iconst hC (-1) dX10_all_38 rfl ?_
    refine q_ic_ne hC 52 dX10_all_39 rfl (fun h4 => ?_) (fun h4 => ?_)
    · have hx := gi_n h4 hx
      refine q_aload_n hC 0 dX10_all_52 rfl rfl ?_
      refine gf_X10_23 hC dX10_all_53 ?_
      refine q_iload_n hC 1 dX10_all_56 rfl rfl ?_
      obtain ⟨v5, q6, hx⟩ := gb_e hx
      refine q_ki (q_rV (As := [.int p1]) (rest := []) hC mm_X7_dutyInBest wM_X10_172 (c_X7_dutyInBest q6) ⟨rfl, rfl, Nat.le_of_ble_eq_true rfl, Nat.le_of_ble_eq_true rfl⟩ (gV_t (by decide) (by decide)) rfl rfl rfl rfl (Nat.le_of_ble_eq_true rfl) dX10_all_57) ?_
      exact q_iret hC hF dX10_all_60 (Option.some.inj hx)
    · have hx := gi_p h4 hx
      refine q_aload_n hC 0 dX10_all_42 rfl rfl ?_
      refine gf_X10_23 hC dX10_all_43 ?_
      obtain ⟨v7, q8, hx⟩ := gb_e hx
      refine q_ki (q_rV (As := []) (rest := []) hC mm_X7_ways wM_X10_169 (c_X7_ways q8) ⟨rfl, rfl, Nat.le_of_ble_eq_true rfl, Nat.le_of_ble_eq_true rfl⟩ (gV_t (by decide) (by decide)) rfl rfl rfl rfl (Nat.le_of_ble_eq_true rfl) dX10_all_46) ?_
      refine q_goto hC 60 dX10_all_49 rfl ?_
      exact q_iret hC hF dX10_all_60 (Option.some.inj hx)
  unfold x_X10_all at hx
  refine q_iload_n hC 1 dX10_all_0 rfl rfl ?_
  refine q_iconst hC (-1) dX10_all_1 rfl ?_
  refine q_ic_eq hC 23 dX10_all_2 rfl (fun h1 => ?_) (fun h1 => ?_)
  · have hx := gi_p h1 hx
    exact q_sub [0, 1] rfl (J23 M hx)
  · have hx := gi_n h1 hx
    refine q_aload_n hC 0 dX10_all_5 rfl rfl ?_
    refine gf_X10_61 hC dX10_all_6 ?_
    refine q_iload_n hC 1 dX10_all_9 rfl rfl ?_
    obtain ⟨v9, q10, hx⟩ := gb_e hx
    refine q_kzp (q_rV (As := [.int p1]) (rest := []) hC mm_X1_isGuest wM_X10_95 (c_X1_isGuest (by decide) q10) ⟨rfl, rfl, Nat.le_of_ble_eq_true rfl, Nat.le_of_ble_eq_true rfl⟩ (gV_h (by decide) (by decide)) rfl rfl rfl rfl (Nat.le_of_ble_eq_true rfl) dX10_all_10) (fun z11 => ?_)
    refine q_if_ne hC 23 dX10_all_13 rfl (fun h12 => ?_) (fun h12 => ?_)
    · have hx := gi_n h12 hx
      exact q_sub [0, 1] rfl (J23 M hx)
    · have hx := gi_p h12 hx
      refine q_aload_n hC 0 dX10_all_16 rfl rfl ?_
      refine q_bipush hC (-10) dX10_all_17 rfl ?_
      obtain ⟨v13, q14, hx⟩ := gb_e hx
      refine q_ki (q_rV (As := [.int (-10)]) (rest := []) hC mm_X10_refuseBad wM_X10_83 (c_X10_refuseBad q14) ⟨rfl, rfl, Nat.le_of_ble_eq_true rfl, Nat.le_of_ble_eq_true rfl⟩ (gV_t (by decide) (by decide)) rfl rfl rfl rfl (Nat.le_of_ble_eq_true rfl) dX10_all_19) ?_
      exact q_iret hC hF dX10_all_22 (Option.some.inj hx)

theorem dX10_least_0 : decode cX10_least 0 = .ok (.aload_n 0, 1) := by decide +kernel
theorem dX10_least_1 : decode cX10_least 1 = .ok (.getfield 23, 3) := by decide +kernel
theorem dX10_least_4 : decode cX10_least 4 = .ok (.aload_n 0, 1) := by decide +kernel
theorem dX10_least_5 : decode cX10_least 5 = .ok (.getfield 61, 3) := by decide +kernel
theorem dX10_least_8 : decode cX10_least 8 = .ok (.bipush 127, 2) := by decide +kernel
theorem dX10_least_10 : decode cX10_least 10 = .ok (.iconst 1, 1) := by decide +kernel
theorem dX10_least_11 : decode cX10_least 11 = .ok (.invokevirtual 165, 3) := by decide +kernel
theorem dX10_least_14 : decode cX10_least 14 = .ok (.aload_n 0, 1) := by decide +kernel
theorem dX10_least_15 : decode cX10_least 15 = .ok (.getfield 23, 3) := by decide +kernel
theorem dX10_least_18 : decode cX10_least 18 = .ok (.invokevirtual 175, 3) := by decide +kernel
theorem dX10_least_21 : decode cX10_least 21 = .ok (.istore_n 1, 1) := by decide +kernel
theorem dX10_least_22 : decode cX10_least 22 = .ok (.iload_n 1, 1) := by decide +kernel
theorem dX10_least_23 : decode cX10_least 23 = .ok (.ldc 178, 2) := by decide +kernel
theorem dX10_least_25 : decode cX10_least 25 = .ok (.if_icmp .ne 7, 3) := by decide +kernel
theorem dX10_least_28 : decode cX10_least 28 = .ok (.iconst (-1), 1) := by decide +kernel
theorem dX10_least_29 : decode cX10_least 29 = .ok (.goto 4, 3) := by decide +kernel
theorem dX10_least_32 : decode cX10_least 32 = .ok (.iload_n 1, 1) := by decide +kernel
theorem dX10_least_33 : decode cX10_least 33 = .ok (.ireturn, 1) := by decide +kernel
def x_X10_least (M : gMem) : Option (Int32 × gMem) := Option.bind (x_X7_gather M 0 127 1) (fun v1 => Option.bind (x_X7_leastCost v1) (fun v3 => (if v3.1 = 1000000 then some ((-1), v3.2) else some (v3.1, v3.2))))
set_option maxRecDepth 100000 in
set_option maxHeartbeats 4000000 in
theorem c_X10_least {l : Launch} {Y : gY} {M : gMem} {r : (Int32 × gMem)} (hx : x_X10_least M = some r) : Met l yX10_least (gws yX10_least cX10_least 2 (some .int)) { frames := 7, cells := 0, slots := 0, locals := 158 } (va_Pc [.ref (gad Y 0 34)] (gS0 Y M)) (gQi Y r) 0 0 (gA Y) := by
  refine gmet (lv := [(0, .ref (gad Y 0 34))]) "GuestStaff" (by decide) rfl (Nat.le_of_ble_eq_true rfl) rfl (fun X hC hF => ?_)
  unfold x_X10_least at hx
  refine q_aload_n hC 0 dX10_least_0 rfl rfl ?_
  refine gf_X10_23 hC dX10_least_1 ?_
  refine q_aload_n hC 0 dX10_least_4 rfl rfl ?_
  refine gf_X10_61 hC dX10_least_5 ?_
  refine q_bipush hC 127 dX10_least_8 rfl ?_
  refine q_iconst hC 1 dX10_least_10 rfl ?_
  obtain ⟨v1, q2, hx⟩ := gb_e hx
  refine q_kv (q_rV (As := [.ref (gad Y 0 0), .int 127, .int 1]) (rest := []) hC mm_X7_gather wM_X10_165 (c_X7_gather (by decide) q2) ⟨rfl, rfl, Nat.le_of_ble_eq_true rfl, Nat.le_of_ble_eq_true rfl⟩ (gV_t (by decide) (by decide)) rfl rfl rfl rfl (Nat.le_of_ble_eq_true rfl) dX10_least_11) ?_
  refine q_aload_n hC 0 dX10_least_14 rfl rfl ?_
  refine gf_X10_23 hC dX10_least_15 ?_
  obtain ⟨v3, q4, hx⟩ := gb_e hx
  refine q_ki (q_rV (As := []) (rest := []) hC mm_X7_leastCost wM_X10_175 (c_X7_leastCost q4) ⟨rfl, rfl, Nat.le_of_ble_eq_true rfl, Nat.le_of_ble_eq_true rfl⟩ (gV_t (by decide) (by decide)) rfl rfl rfl rfl (Nat.le_of_ble_eq_true rfl) dX10_least_18) ?_
  refine q_istore_n hC [(1, .int v3.1), (0, .ref (gad Y 0 34))] dX10_least_21 rfl (by decide) rfl ?_
  refine q_iload_n hC 0 dX10_least_22 rfl rfl ?_
  refine q_ldc hC 1000000 dX10_least_23 wC_X10_178 ?_
  refine q_ic_ne hC 32 dX10_least_25 rfl (fun h5 => ?_) (fun h5 => ?_)
  · have hx := gi_n h5 hx
    refine q_iload_n hC 0 dX10_least_32 rfl rfl ?_
    exact q_iret hC hF dX10_least_33 (Option.some.inj hx)
  · have hx := gi_p h5 hx
    refine q_iconst hC (-1) dX10_least_28 rfl ?_
    refine q_goto hC 33 dX10_least_29 rfl ?_
    exact q_iret hC hF dX10_least_33 (Option.some.inj hx)

theorem dX10_most_0 : decode cX10_most 0 = .ok (.iload_n 1, 1) := by decide +kernel
theorem dX10_most_1 : decode cX10_most 1 = .ok (.iconst (-1), 1) := by decide +kernel
theorem dX10_most_2 : decode cX10_most 2 = .ok (.if_icmp .eq 21, 3) := by decide +kernel
theorem dX10_most_5 : decode cX10_most 5 = .ok (.aload_n 0, 1) := by decide +kernel
theorem dX10_most_6 : decode cX10_most 6 = .ok (.getfield 61, 3) := by decide +kernel
theorem dX10_most_9 : decode cX10_most 9 = .ok (.iload_n 1, 1) := by decide +kernel
theorem dX10_most_10 : decode cX10_most 10 = .ok (.invokevirtual 95, 3) := by decide +kernel
theorem dX10_most_13 : decode cX10_most 13 = .ok (.ifCond .ne 10, 3) := by decide +kernel
theorem dX10_most_16 : decode cX10_most 16 = .ok (.aload_n 0, 1) := by decide +kernel
theorem dX10_most_17 : decode cX10_most 17 = .ok (.bipush (-10), 2) := by decide +kernel
theorem dX10_most_19 : decode cX10_most 19 = .ok (.invokevirtual 83, 3) := by decide +kernel
theorem dX10_most_22 : decode cX10_most 22 = .ok (.ireturn, 1) := by decide +kernel
theorem dX10_most_23 : decode cX10_most 23 = .ok (.aload_n 0, 1) := by decide +kernel
theorem dX10_most_24 : decode cX10_most 24 = .ok (.getfield 23, 3) := by decide +kernel
theorem dX10_most_27 : decode cX10_most 27 = .ok (.aload_n 0, 1) := by decide +kernel
theorem dX10_most_28 : decode cX10_most 28 = .ok (.getfield 61, 3) := by decide +kernel
theorem dX10_most_31 : decode cX10_most 31 = .ok (.bipush 127, 2) := by decide +kernel
theorem dX10_most_33 : decode cX10_most 33 = .ok (.iconst 2, 1) := by decide +kernel
theorem dX10_most_34 : decode cX10_most 34 = .ok (.invokevirtual 165, 3) := by decide +kernel
theorem dX10_most_37 : decode cX10_most 37 = .ok (.iload_n 1, 1) := by decide +kernel
theorem dX10_most_38 : decode cX10_most 38 = .ok (.iconst (-1), 1) := by decide +kernel
theorem dX10_most_39 : decode cX10_most 39 = .ok (.if_icmp .eq 12, 3) := by decide +kernel
theorem dX10_most_42 : decode cX10_most 42 = .ok (.aload_n 0, 1) := by decide +kernel
theorem dX10_most_43 : decode cX10_most 43 = .ok (.getfield 23, 3) := by decide +kernel
theorem dX10_most_46 : decode cX10_most 46 = .ok (.iload_n 1, 1) := by decide +kernel
theorem dX10_most_47 : decode cX10_most 47 = .ok (.invokevirtual 172, 3) := by decide +kernel
theorem dX10_most_50 : decode cX10_most 50 = .ok (.ireturn, 1) := by decide +kernel
theorem dX10_most_51 : decode cX10_most 51 = .ok (.aload_n 0, 1) := by decide +kernel
theorem dX10_most_52 : decode cX10_most 52 = .ok (.getfield 23, 3) := by decide +kernel
theorem dX10_most_55 : decode cX10_most 55 = .ok (.invokevirtual 175, 3) := by decide +kernel
theorem dX10_most_58 : decode cX10_most 58 = .ok (.istore_n 2, 1) := by decide +kernel
theorem dX10_most_59 : decode cX10_most 59 = .ok (.iload_n 2, 1) := by decide +kernel
theorem dX10_most_60 : decode cX10_most 60 = .ok (.ldc 178, 2) := by decide +kernel
theorem dX10_most_62 : decode cX10_most 62 = .ok (.if_icmp .ne 7, 3) := by decide +kernel
theorem dX10_most_65 : decode cX10_most 65 = .ok (.iconst (-1), 1) := by decide +kernel
theorem dX10_most_66 : decode cX10_most 66 = .ok (.goto 5, 3) := by decide +kernel
theorem dX10_most_69 : decode cX10_most 69 = .ok (.iload_n 2, 1) := by decide +kernel
theorem dX10_most_70 : decode cX10_most 70 = .ok (.ineg, 1) := by decide +kernel
theorem dX10_most_71 : decode cX10_most 71 = .ok (.ireturn, 1) := by decide +kernel
def j_X10_most_23 (M : gMem) (p1 : Int32) (N : gMem) : Option (Int32 × gMem) := Option.bind (x_X7_gather N 0 127 2) (fun v2 => (if p1 = (-1) then Option.bind (x_X7_leastCost v2) (fun v5 => (if v5.1 = 1000000 then some ((-1), v5.2) else some (-v5.1, v5.2))) else Option.bind (x_X7_dutyInBest v2 p1) (fun v8 => some (v8.1, v8.2))))
def x_X10_most (M : gMem) (p1 : Int32) : Option (Int32 × gMem) := (if p1 = (-1) then j_X10_most_23 M p1 M else Option.bind (x_X1_isGuest M 0 p1) (fun v10 => (if v10 = 0 then Option.bind (x_X10_refuseBad M (-10)) (fun v14 => some (v14.1, v14.2)) else j_X10_most_23 M p1 M)))
set_option maxRecDepth 100000 in
set_option maxHeartbeats 4000000 in
theorem c_X10_most {l : Launch} {Y : gY} {M : gMem} {p1 : Int32} {r : (Int32 × gMem)} (hx : x_X10_most M p1 = some r) : Met l yX10_most (gws yX10_most cX10_most 3 (some .int)) { frames := 7, cells := 0, slots := 0, locals := 158 } (va_Pc [.ref (gad Y 0 34), .int p1] (gS0 Y M)) (gQi Y r) 0 0 (gA Y) := by
  refine gmet (lv := [(0, .ref (gad Y 0 34)), (1, .int p1)]) "GuestStaff" (by decide) rfl (Nat.le_of_ble_eq_true rfl) rfl (fun X hC hF => ?_)
  have J23 : ∀ (N : gMem) , j_X10_most_23 M p1 N = some r → gWW X Y 3 23 [(0, .ref (gad Y 0 34)), (1, .int p1)] [] N := by
    intro N hx
    unfold j_X10_most_23 at hx
    refine q_aload_n hC 0 dX10_most_23 rfl rfl ?_
    refine gf_X10_23 hC dX10_most_24 ?_
    refine q_aload_n hC 0 dX10_most_27 rfl rfl ?_
    refine gf_X10_61 hC dX10_most_28 ?_
    refine q_bipush hC 127 dX10_most_31 rfl ?_
    refine q_iconst hC 2 dX10_most_33 rfl ?_
    obtain ⟨v2, q3, hx⟩ := gb_e hx
    refine q_kv (q_rV (As := [.ref (gad Y 0 0), .int 127, .int 2]) (rest := []) hC mm_X7_gather wM_X10_165 (c_X7_gather (by decide) q3) ⟨rfl, rfl, Nat.le_of_ble_eq_true rfl, Nat.le_of_ble_eq_true rfl⟩ (gV_t (by decide) (by decide)) rfl rfl rfl rfl (Nat.le_of_ble_eq_true rfl) dX10_most_34) ?_
    refine q_iload_n hC 1 dX10_most_37 rfl rfl ?_
    refine q_iconst hC (-1) dX10_most_38 rfl ?_
    refine q_ic_eq hC 51 dX10_most_39 rfl (fun h4 => ?_) (fun h4 => ?_)
    · have hx := gi_p h4 hx
      refine q_aload_n hC 0 dX10_most_51 rfl rfl ?_
      refine gf_X10_23 hC dX10_most_52 ?_
      obtain ⟨v5, q6, hx⟩ := gb_e hx
      refine q_ki (q_rV (As := []) (rest := []) hC mm_X7_leastCost wM_X10_175 (c_X7_leastCost q6) ⟨rfl, rfl, Nat.le_of_ble_eq_true rfl, Nat.le_of_ble_eq_true rfl⟩ (gV_t (by decide) (by decide)) rfl rfl rfl rfl (Nat.le_of_ble_eq_true rfl) dX10_most_55) ?_
      refine q_istore_n hC [(2, .int v5.1), (0, .ref (gad Y 0 34)), (1, .int p1)] dX10_most_58 rfl (by decide) rfl ?_
      refine q_iload_n hC 0 dX10_most_59 rfl rfl ?_
      refine q_ldc hC 1000000 dX10_most_60 wC_X10_178 ?_
      refine q_ic_ne hC 69 dX10_most_62 rfl (fun h7 => ?_) (fun h7 => ?_)
      · have hx := gi_n h7 hx
        refine q_iload_n hC 0 dX10_most_69 rfl rfl ?_
        refine q_ineg hC dX10_most_70 ?_
        exact q_iret hC hF dX10_most_71 (Option.some.inj hx)
      · have hx := gi_p h7 hx
        refine q_iconst hC (-1) dX10_most_65 rfl ?_
        refine q_goto hC 71 dX10_most_66 rfl ?_
        exact q_iret hC hF dX10_most_71 (Option.some.inj hx)
    · have hx := gi_n h4 hx
      refine q_aload_n hC 0 dX10_most_42 rfl rfl ?_
      refine gf_X10_23 hC dX10_most_43 ?_
      refine q_iload_n hC 1 dX10_most_46 rfl rfl ?_
      obtain ⟨v8, q9, hx⟩ := gb_e hx
      refine q_ki (q_rV (As := [.int p1]) (rest := []) hC mm_X7_dutyInBest wM_X10_172 (c_X7_dutyInBest q9) ⟨rfl, rfl, Nat.le_of_ble_eq_true rfl, Nat.le_of_ble_eq_true rfl⟩ (gV_t (by decide) (by decide)) rfl rfl rfl rfl (Nat.le_of_ble_eq_true rfl) dX10_most_47) ?_
      exact q_iret hC hF dX10_most_50 (Option.some.inj hx)
  unfold x_X10_most at hx
  refine q_iload_n hC 1 dX10_most_0 rfl rfl ?_
  refine q_iconst hC (-1) dX10_most_1 rfl ?_
  refine q_ic_eq hC 23 dX10_most_2 rfl (fun h1 => ?_) (fun h1 => ?_)
  · have hx := gi_p h1 hx
    exact q_sub [0, 1] rfl (J23 M hx)
  · have hx := gi_n h1 hx
    refine q_aload_n hC 0 dX10_most_5 rfl rfl ?_
    refine gf_X10_61 hC dX10_most_6 ?_
    refine q_iload_n hC 1 dX10_most_9 rfl rfl ?_
    obtain ⟨v10, q11, hx⟩ := gb_e hx
    refine q_kzp (q_rV (As := [.int p1]) (rest := []) hC mm_X1_isGuest wM_X10_95 (c_X1_isGuest (by decide) q11) ⟨rfl, rfl, Nat.le_of_ble_eq_true rfl, Nat.le_of_ble_eq_true rfl⟩ (gV_h (by decide) (by decide)) rfl rfl rfl rfl (Nat.le_of_ble_eq_true rfl) dX10_most_10) (fun z12 => ?_)
    refine q_if_ne hC 23 dX10_most_13 rfl (fun h13 => ?_) (fun h13 => ?_)
    · have hx := gi_n h13 hx
      exact q_sub [0, 1] rfl (J23 M hx)
    · have hx := gi_p h13 hx
      refine q_aload_n hC 0 dX10_most_16 rfl rfl ?_
      refine q_bipush hC (-10) dX10_most_17 rfl ?_
      obtain ⟨v14, q15, hx⟩ := gb_e hx
      refine q_ki (q_rV (As := [.int (-10)]) (rest := []) hC mm_X10_refuseBad wM_X10_83 (c_X10_refuseBad q15) ⟨rfl, rfl, Nat.le_of_ble_eq_true rfl, Nat.le_of_ble_eq_true rfl⟩ (gV_t (by decide) (by decide)) rfl rfl rfl rfl (Nat.le_of_ble_eq_true rfl) dX10_most_19) ?_
      exact q_iret hC hF dX10_most_22 (Option.some.inj hx)

theorem dX10_lone_0 : decode cX10_lone 0 = .ok (.iconst 0, 1) := by decide +kernel
theorem dX10_lone_1 : decode cX10_lone 1 = .ok (.istore_n 1, 1) := by decide +kernel
theorem dX10_lone_2 : decode cX10_lone 2 = .ok (.iconst 0, 1) := by decide +kernel
theorem dX10_lone_3 : decode cX10_lone 3 = .ok (.istore_n 2, 1) := by decide +kernel
theorem dX10_lone_4 : decode cX10_lone 4 = .ok (.iload_n 2, 1) := by decide +kernel
theorem dX10_lone_5 : decode cX10_lone 5 = .ok (.aload_n 0, 1) := by decide +kernel
theorem dX10_lone_6 : decode cX10_lone 6 = .ok (.getfield 61, 3) := by decide +kernel
theorem dX10_lone_9 : decode cX10_lone 9 = .ok (.getfield 72, 3) := by decide +kernel
theorem dX10_lone_12 : decode cX10_lone 12 = .ok (.if_icmp .ge 26, 3) := by decide +kernel
theorem dX10_lone_15 : decode cX10_lone 15 = .ok (.aload_n 0, 1) := by decide +kernel
theorem dX10_lone_16 : decode cX10_lone 16 = .ok (.getfield 61, 3) := by decide +kernel
theorem dX10_lone_19 : decode cX10_lone 19 = .ok (.iload_n 2, 1) := by decide +kernel
theorem dX10_lone_20 : decode cX10_lone 20 = .ok (.invokevirtual 179, 3) := by decide +kernel
theorem dX10_lone_23 : decode cX10_lone 23 = .ok (.ifCond .ne 9, 3) := by decide +kernel
theorem dX10_lone_26 : decode cX10_lone 26 = .ok (.iload_n 1, 1) := by decide +kernel
theorem dX10_lone_27 : decode cX10_lone 27 = .ok (.iconst 1, 1) := by decide +kernel
theorem dX10_lone_28 : decode cX10_lone 28 = .ok (.iload_n 2, 1) := by decide +kernel
theorem dX10_lone_29 : decode cX10_lone 29 = .ok (.ishl, 1) := by decide +kernel
theorem dX10_lone_30 : decode cX10_lone 30 = .ok (.ior, 1) := by decide +kernel
theorem dX10_lone_31 : decode cX10_lone 31 = .ok (.istore_n 1, 1) := by decide +kernel
theorem dX10_lone_32 : decode cX10_lone 32 = .ok (.iinc 2 1, 3) := by decide +kernel
theorem dX10_lone_35 : decode cX10_lone 35 = .ok (.goto (-31), 3) := by decide +kernel
theorem dX10_lone_38 : decode cX10_lone 38 = .ok (.iload_n 1, 1) := by decide +kernel
theorem dX10_lone_39 : decode cX10_lone 39 = .ok (.ireturn, 1) := by decide +kernel
def j_X10_lone_4_32 (M : gMem) (b1 : Int32) (b2 : Int32) : Option ((Int32 × Int32) ⊕ (Int32 × Int32)) := some (.inl (b1, b2 + 1))
def s_X10_lone_4 (M : gMem) (b1 : Int32) (b2 : Int32) : Option ((Int32 × Int32) ⊕ (Int32 × Int32)) := (if (M.1 0 0 13) ≤ b2 then some (.inr (b1, b2)) else Option.bind (x_X1_isServable M 0 b2) (fun v2 => (if v2 = 0 then j_X10_lone_4_32 M (b1 ||| (1 <<< (b2 &&& 31))) b2 else j_X10_lone_4_32 M b1 b2)))
def x_X10_lone (M : gMem) : Option Int32 := Option.bind (itr FU (fun s => s_X10_lone_4 M s.1 s.2) (0, 0)) (fun e6 => some e6.1)
set_option maxRecDepth 100000 in
set_option maxHeartbeats 4000000 in
theorem w_X10_lone_4 {X : gX} {Y : gY} {M : gMem} {r : Int32} (hC : gC X Y cX10_lone "GuestStaff" 3 2 44) (hF : gF X Y (some .int) (gQi Y (r, M))) {e : (Int32 × Int32)} (kE : ∀ s : (Int32 × Int32), e = s → gWW X Y 3 38 [(1, .int s.1)] [] M) : ∀ (F : Nat) (s : (Int32 × Int32)), itr F (fun s => s_X10_lone_4 M s.1 s.2) s = some e → gWW X Y 3 4 [(0, .ref (gad Y 0 34)), (1, .int s.1), (2, .int s.2)] [] M := by
  intro F s
  refine itr_w (P := fun s => gWW X Y 3 4 [(0, .ref (gad Y 0 34)), (1, .int s.1), (2, .int s.2)] [] M) (fun s o hx kI kx => ?_) F s
  obtain ⟨b1, b2⟩ := s
  have hx : s_X10_lone_4 M b1 b2 = some o := hx
  have kE : ∀ s : (Int32 × Int32), o = .inr s → gWW X Y 3 38 [(1, .int s.1)] [] M := fun s q => kE s (kx _ q).symm
  have J32 : ∀ (b1 : Int32) (b2 : Int32) , j_X10_lone_4_32 M b1 b2 = some o → gWW X Y 3 32 [(0, .ref (gad Y 0 34)), (1, .int b1), (2, .int b2)] [] M := by
    intro b1 b2 hx
    unfold j_X10_lone_4_32 at hx
    refine q_iinc hC 2 1 [(2, .int (b2 + 1)), (0, .ref (gad Y 0 34)), (1, .int b1)] dX10_lone_32 rfl rfl (by decide) rfl ?_
    refine q_goto hC 4 dX10_lone_35 rfl ?_
    exact q_sub [1, 2, 0] rfl (kI (b1, b2 + 1) (Option.some.inj hx).symm)
  unfold s_X10_lone_4 at hx
  refine q_iload_n hC 2 dX10_lone_4 rfl rfl ?_
  refine q_aload_n hC 0 dX10_lone_5 rfl rfl ?_
  refine gf_X10_61 hC dX10_lone_6 ?_
  refine gf_X10_72 hC (by decide) dX10_lone_9 ?_
  refine q_ic_ge hC 38 dX10_lone_12 rfl (fun h1 => ?_) (fun h1 => ?_)
  · have hx := gi_p h1 hx
    exact q_sub [1] rfl (kE (b1, b2) (Option.some.inj hx).symm)
  · have hx := gi_n h1 hx
    refine q_aload_n hC 0 dX10_lone_15 rfl rfl ?_
    refine gf_X10_61 hC dX10_lone_16 ?_
    refine q_iload_n hC 2 dX10_lone_19 rfl rfl ?_
    obtain ⟨v2, q3, hx⟩ := gb_e hx
    refine q_kzp (q_rV (As := [.int b2]) (rest := []) hC mm_X1_isServable wM_X10_179 (c_X1_isServable (by decide) q3) ⟨rfl, rfl, Nat.le_of_ble_eq_true rfl, Nat.le_of_ble_eq_true rfl⟩ (gV_h (by decide) (by decide)) rfl rfl rfl rfl (Nat.le_of_ble_eq_true rfl) dX10_lone_20) (fun z4 => ?_)
    refine q_if_ne hC 32 dX10_lone_23 rfl (fun h5 => ?_) (fun h5 => ?_)
    · have hx := gi_n h5 hx
      exact q_sub [0, 1, 2] rfl (J32 b1 b2 hx)
    · have hx := gi_p h5 hx
      refine q_iload_n hC 1 dX10_lone_26 rfl rfl ?_
      refine q_iconst hC 1 dX10_lone_27 rfl ?_
      refine q_iload_n hC 2 dX10_lone_28 rfl rfl ?_
      refine q_ishl hC dX10_lone_29 ?_
      refine q_ior hC dX10_lone_30 ?_
      refine q_istore_n hC [(1, .int (b1 ||| (1 <<< (b2 &&& 31)))), (0, .ref (gad Y 0 34)), (2, .int b2)] dX10_lone_31 rfl (by decide) rfl ?_
      exact q_sub [1, 0, 2] rfl (J32 (b1 ||| (1 <<< (b2 &&& 31))) b2 hx)
set_option maxRecDepth 100000 in
set_option maxHeartbeats 4000000 in
theorem c_X10_lone {l : Launch} {Y : gY} {M : gMem} {r : Int32} (hx : x_X10_lone M = some r) : Met l yX10_lone (gws yX10_lone cX10_lone 3 (some .int)) { frames := 2, cells := 0, slots := 0, locals := 44 } (va_Pc [.ref (gad Y 0 34)] (gS0 Y M)) (gQi Y (r, M)) 0 0 (gA Y) := by
  refine gmet (lv := [(0, .ref (gad Y 0 34))]) "GuestStaff" (by decide) rfl (Nat.le_of_ble_eq_true rfl) rfl (fun X hC hF => ?_)
  unfold x_X10_lone at hx
  refine q_iconst hC 0 dX10_lone_0 rfl ?_
  refine q_istore_n hC [(1, .int 0), (0, .ref (gad Y 0 34))] dX10_lone_1 rfl (by decide) rfl ?_
  refine q_iconst hC 0 dX10_lone_2 rfl ?_
  refine q_istore_n hC [(2, .int 0), (1, .int 0), (0, .ref (gad Y 0 34))] dX10_lone_3 rfl (by decide) rfl ?_
  obtain ⟨e6, qe6, hx⟩ := gb_e hx
  refine q_sub [2, 1, 0] rfl (w_X10_lone_4 hC hF (e := e6) (fun s q => ?_) _ _ qe6)
  · subst q
    refine q_iload_n hC 0 dX10_lone_38 rfl rfl ?_
    exact q_iret hC hF dX10_lone_39 (congrArg (fun z => (z, M)) (Option.some.inj hx))

theorem dX10_rings_0 : decode cX10_rings 0 = .ok (.iload_n 1, 1) := by decide +kernel
theorem dX10_rings_1 : decode cX10_rings 1 = .ok (.iconst (-1), 1) := by decide +kernel
theorem dX10_rings_2 : decode cX10_rings 2 = .ok (.if_icmp .eq 32, 3) := by decide +kernel
theorem dX10_rings_5 : decode cX10_rings 5 = .ok (.aload_n 0, 1) := by decide +kernel
theorem dX10_rings_6 : decode cX10_rings 6 = .ok (.getfield 61, 3) := by decide +kernel
theorem dX10_rings_9 : decode cX10_rings 9 = .ok (.iload_n 1, 1) := by decide +kernel
theorem dX10_rings_10 : decode cX10_rings 10 = .ok (.invokevirtual 95, 3) := by decide +kernel
theorem dX10_rings_13 : decode cX10_rings 13 = .ok (.ifCond .eq 14, 3) := by decide +kernel
theorem dX10_rings_16 : decode cX10_rings 16 = .ok (.aload_n 0, 1) := by decide +kernel
theorem dX10_rings_17 : decode cX10_rings 17 = .ok (.getfield 61, 3) := by decide +kernel
theorem dX10_rings_20 : decode cX10_rings 20 = .ok (.iload_n 1, 1) := by decide +kernel
theorem dX10_rings_21 : decode cX10_rings 21 = .ok (.invokevirtual 182, 3) := by decide +kernel
theorem dX10_rings_24 : decode cX10_rings 24 = .ok (.goto 9, 3) := by decide +kernel
theorem dX10_rings_27 : decode cX10_rings 27 = .ok (.aload_n 0, 1) := by decide +kernel
theorem dX10_rings_28 : decode cX10_rings 28 = .ok (.bipush (-10), 2) := by decide +kernel
theorem dX10_rings_30 : decode cX10_rings 30 = .ok (.invokevirtual 83, 3) := by decide +kernel
theorem dX10_rings_33 : decode cX10_rings 33 = .ok (.ireturn, 1) := by decide +kernel
theorem dX10_rings_34 : decode cX10_rings 34 = .ok (.iconst 0, 1) := by decide +kernel
theorem dX10_rings_35 : decode cX10_rings 35 = .ok (.istore_n 2, 1) := by decide +kernel
theorem dX10_rings_36 : decode cX10_rings 36 = .ok (.iconst 0, 1) := by decide +kernel
theorem dX10_rings_37 : decode cX10_rings 37 = .ok (.istore_n 3, 1) := by decide +kernel
theorem dX10_rings_38 : decode cX10_rings 38 = .ok (.iload_n 3, 1) := by decide +kernel
theorem dX10_rings_39 : decode cX10_rings 39 = .ok (.aload_n 0, 1) := by decide +kernel
theorem dX10_rings_40 : decode cX10_rings 40 = .ok (.getfield 61, 3) := by decide +kernel
theorem dX10_rings_43 : decode cX10_rings 43 = .ok (.getfield 72, 3) := by decide +kernel
theorem dX10_rings_46 : decode cX10_rings 46 = .ok (.if_icmp .ge 23, 3) := by decide +kernel
theorem dX10_rings_49 : decode cX10_rings 49 = .ok (.aload_n 0, 1) := by decide +kernel
theorem dX10_rings_50 : decode cX10_rings 50 = .ok (.getfield 61, 3) := by decide +kernel
theorem dX10_rings_53 : decode cX10_rings 53 = .ok (.iload_n 3, 1) := by decide +kernel
theorem dX10_rings_54 : decode cX10_rings 54 = .ok (.invokevirtual 182, 3) := by decide +kernel
theorem dX10_rings_57 : decode cX10_rings 57 = .ok (.ifCond .le 6, 3) := by decide +kernel
theorem dX10_rings_60 : decode cX10_rings 60 = .ok (.iinc 2 1, 3) := by decide +kernel
theorem dX10_rings_63 : decode cX10_rings 63 = .ok (.iinc 3 1, 3) := by decide +kernel
theorem dX10_rings_66 : decode cX10_rings 66 = .ok (.goto (-28), 3) := by decide +kernel
theorem dX10_rings_69 : decode cX10_rings 69 = .ok (.iload_n 2, 1) := by decide +kernel
theorem dX10_rings_70 : decode cX10_rings 70 = .ok (.ireturn, 1) := by decide +kernel
def j_X10_rings_38_63 (M : gMem) (b2 : Int32) (b3 : Int32) : Option ((Int32 × Int32) ⊕ (Int32 × Int32)) := some (.inl (b2, b3 + 1))
def s_X10_rings_38 (M : gMem) (b2 : Int32) (b3 : Int32) : Option ((Int32 × Int32) ⊕ (Int32 × Int32)) := (if (M.1 0 0 13) ≤ b3 then some (.inr (b2, b3)) else Option.bind (x_X1_ringOf M 0 b3) (fun v3 => (if v3 ≤ 0 then j_X10_rings_38_63 M b2 b3 else j_X10_rings_38_63 M (b2 + 1) b3)))
def x_X10_rings (M : gMem) (p1 : Int32) : Option (Int32 × gMem) := (if p1 = (-1) then Option.bind (itr FU (fun s => s_X10_rings_38 M s.1 s.2) (0, 0)) (fun e6 => some (e6.1, M)) else Option.bind (x_X1_isGuest M 0 p1) (fun v7 => (if v7 = 0 then Option.bind (x_X10_refuseBad M (-10)) (fun v11 => some (v11.1, v11.2)) else Option.bind (x_X1_ringOf M 0 p1) (fun v13 => some (v13, M)))))
set_option maxRecDepth 100000 in
set_option maxHeartbeats 4000000 in
theorem w_X10_rings_38 {X : gX} {Y : gY} {M : gMem} {r : (Int32 × gMem)} (hC : gC X Y cX10_rings "GuestStaff" 4 1 23) (hF : gF X Y (some .int) (gQi Y r)) {e : (Int32 × Int32)} (kE : ∀ s : (Int32 × Int32), e = s → gWW X Y 4 69 [(2, .int s.1)] [] M) : ∀ (F : Nat) (s : (Int32 × Int32)), itr F (fun s => s_X10_rings_38 M s.1 s.2) s = some e → gWW X Y 4 38 [(0, .ref (gad Y 0 34)), (2, .int s.1), (3, .int s.2)] [] M := by
  intro F s
  refine itr_w (P := fun s => gWW X Y 4 38 [(0, .ref (gad Y 0 34)), (2, .int s.1), (3, .int s.2)] [] M) (fun s o hx kI kx => ?_) F s
  obtain ⟨b2, b3⟩ := s
  have hx : s_X10_rings_38 M b2 b3 = some o := hx
  have kE : ∀ s : (Int32 × Int32), o = .inr s → gWW X Y 4 69 [(2, .int s.1)] [] M := fun s q => kE s (kx _ q).symm
  have J63 : ∀ (b2 : Int32) (b3 : Int32) , j_X10_rings_38_63 M b2 b3 = some o → gWW X Y 4 63 [(0, .ref (gad Y 0 34)), (2, .int b2), (3, .int b3)] [] M := by
    intro b2 b3 hx
    unfold j_X10_rings_38_63 at hx
    refine q_iinc hC 2 1 [(3, .int (b3 + 1)), (0, .ref (gad Y 0 34)), (2, .int b2)] dX10_rings_63 rfl rfl (by decide) rfl ?_
    refine q_goto hC 38 dX10_rings_66 rfl ?_
    exact q_sub [1, 2, 0] rfl (kI (b2, b3 + 1) (Option.some.inj hx).symm)
  unfold s_X10_rings_38 at hx
  refine q_iload_n hC 2 dX10_rings_38 rfl rfl ?_
  refine q_aload_n hC 0 dX10_rings_39 rfl rfl ?_
  refine gf_X10_61 hC dX10_rings_40 ?_
  refine gf_X10_72 hC (by decide) dX10_rings_43 ?_
  refine q_ic_ge hC 69 dX10_rings_46 rfl (fun h2 => ?_) (fun h2 => ?_)
  · have hx := gi_p h2 hx
    exact q_sub [1] rfl (kE (b2, b3) (Option.some.inj hx).symm)
  · have hx := gi_n h2 hx
    refine q_aload_n hC 0 dX10_rings_49 rfl rfl ?_
    refine gf_X10_61 hC dX10_rings_50 ?_
    refine q_iload_n hC 2 dX10_rings_53 rfl rfl ?_
    obtain ⟨v3, q4, hx⟩ := gb_e hx
    refine q_kip (q_rV (As := [.int b3]) (rest := []) hC mm_X1_ringOf wM_X10_182 (c_X1_ringOf (by decide) q4) ⟨rfl, rfl, Nat.le_of_ble_eq_true rfl, Nat.le_of_ble_eq_true rfl⟩ (gV_h (by decide) (by decide)) rfl rfl rfl rfl (Nat.le_of_ble_eq_true rfl) dX10_rings_54) ?_
    refine q_if_le hC 63 dX10_rings_57 rfl (fun h5 => ?_) (fun h5 => ?_)
    · have hx := gi_p h5 hx
      exact q_sub [0, 1, 2] rfl (J63 b2 b3 hx)
    · have hx := gi_n h5 hx
      refine q_iinc hC 1 1 [(2, .int (b2 + 1)), (0, .ref (gad Y 0 34)), (3, .int b3)] dX10_rings_60 rfl rfl (by decide) rfl ?_
      exact q_sub [1, 0, 2] rfl (J63 (b2 + 1) b3 hx)
set_option maxRecDepth 100000 in
set_option maxHeartbeats 4000000 in
theorem c_X10_rings {l : Launch} {Y : gY} {M : gMem} {p1 : Int32} {r : (Int32 × gMem)} (hx : x_X10_rings M p1 = some r) : Met l yX10_rings (gws yX10_rings cX10_rings 4 (some .int)) { frames := 1, cells := 0, slots := 0, locals := 23 } (va_Pc [.ref (gad Y 0 34), .int p1] (gS0 Y M)) (gQi Y r) 0 0 (gA Y) := by
  refine gmet (lv := [(0, .ref (gad Y 0 34)), (1, .int p1)]) "GuestStaff" (by decide) rfl (Nat.le_of_ble_eq_true rfl) rfl (fun X hC hF => ?_)
  unfold x_X10_rings at hx
  refine q_iload_n hC 1 dX10_rings_0 rfl rfl ?_
  refine q_iconst hC (-1) dX10_rings_1 rfl ?_
  refine q_ic_eq hC 34 dX10_rings_2 rfl (fun h1 => ?_) (fun h1 => ?_)
  · have hx := gi_p h1 hx
    refine q_iconst hC 0 dX10_rings_34 rfl ?_
    refine q_istore_n hC [(2, .int 0), (0, .ref (gad Y 0 34)), (1, .int p1)] dX10_rings_35 rfl (by decide) rfl ?_
    refine q_iconst hC 0 dX10_rings_36 rfl ?_
    refine q_istore_n hC [(3, .int 0), (2, .int 0), (0, .ref (gad Y 0 34)), (1, .int p1)] dX10_rings_37 rfl (by decide) rfl ?_
    obtain ⟨e6, qe6, hx⟩ := gb_e hx
    refine q_sub [2, 1, 0] rfl (w_X10_rings_38 hC hF (e := e6) (fun s q => ?_) _ _ qe6)
    · subst q
      refine q_iload_n hC 0 dX10_rings_69 rfl rfl ?_
      exact q_iret hC hF dX10_rings_70 (Option.some.inj hx)
  · have hx := gi_n h1 hx
    refine q_aload_n hC 0 dX10_rings_5 rfl rfl ?_
    refine gf_X10_61 hC dX10_rings_6 ?_
    refine q_iload_n hC 1 dX10_rings_9 rfl rfl ?_
    obtain ⟨v7, q8, hx⟩ := gb_e hx
    refine q_kzp (q_rV (As := [.int p1]) (rest := []) hC mm_X1_isGuest wM_X10_95 (c_X1_isGuest (by decide) q8) ⟨rfl, rfl, Nat.le_of_ble_eq_true rfl, Nat.le_of_ble_eq_true rfl⟩ (gV_h (by decide) (by decide)) rfl rfl rfl rfl (Nat.le_of_ble_eq_true rfl) dX10_rings_10) (fun z9 => ?_)
    refine q_if_eq hC 27 dX10_rings_13 rfl (fun h10 => ?_) (fun h10 => ?_)
    · have hx := gi_p h10 hx
      refine q_aload_n hC 0 dX10_rings_27 rfl rfl ?_
      refine q_bipush hC (-10) dX10_rings_28 rfl ?_
      obtain ⟨v11, q12, hx⟩ := gb_e hx
      refine q_ki (q_rV (As := [.int (-10)]) (rest := []) hC mm_X10_refuseBad wM_X10_83 (c_X10_refuseBad q12) ⟨rfl, rfl, Nat.le_of_ble_eq_true rfl, Nat.le_of_ble_eq_true rfl⟩ (gV_t (by decide) (by decide)) rfl rfl rfl rfl (Nat.le_of_ble_eq_true rfl) dX10_rings_30) ?_
      exact q_iret hC hF dX10_rings_33 (Option.some.inj hx)
    · have hx := gi_n h10 hx
      refine q_aload_n hC 0 dX10_rings_16 rfl rfl ?_
      refine gf_X10_61 hC dX10_rings_17 ?_
      refine q_iload_n hC 1 dX10_rings_20 rfl rfl ?_
      obtain ⟨v13, q14, hx⟩ := gb_e hx
      refine q_kip (q_rV (As := [.int p1]) (rest := []) hC mm_X1_ringOf wM_X10_182 (c_X1_ringOf (by decide) q14) ⟨rfl, rfl, Nat.le_of_ble_eq_true rfl, Nat.le_of_ble_eq_true rfl⟩ (gV_h (by decide) (by decide)) rfl rfl rfl rfl (Nat.le_of_ble_eq_true rfl) dX10_rings_21) ?_
      refine q_goto hC 33 dX10_rings_24 rfl ?_
      exact q_iret hC hF dX10_rings_33 (Option.some.inj hx)

theorem dX10_closes_0 : decode cX10_closes 0 = .ok (.aload_n 0, 1) := by decide +kernel
theorem dX10_closes_1 : decode cX10_closes 1 = .ok (.getfield 23, 3) := by decide +kernel
theorem dX10_closes_4 : decode cX10_closes 4 = .ok (.aload_n 1, 1) := by decide +kernel
theorem dX10_closes_5 : decode cX10_closes 5 = .ok (.iload_n 2, 1) := by decide +kernel
theorem dX10_closes_6 : decode cX10_closes 6 = .ok (.iconst 0, 1) := by decide +kernel
theorem dX10_closes_7 : decode cX10_closes 7 = .ok (.invokevirtual 165, 3) := by decide +kernel
theorem dX10_closes_10 : decode cX10_closes 10 = .ok (.aload_n 0, 1) := by decide +kernel
theorem dX10_closes_11 : decode cX10_closes 11 = .ok (.getfield 23, 3) := by decide +kernel
theorem dX10_closes_14 : decode cX10_closes 14 = .ok (.invokevirtual 169, 3) := by decide +kernel
theorem dX10_closes_17 : decode cX10_closes 17 = .ok (.ifCond .le 7, 3) := by decide +kernel
theorem dX10_closes_20 : decode cX10_closes 20 = .ok (.iconst 1, 1) := by decide +kernel
theorem dX10_closes_21 : decode cX10_closes 21 = .ok (.goto 4, 3) := by decide +kernel
theorem dX10_closes_24 : decode cX10_closes 24 = .ok (.iconst 0, 1) := by decide +kernel
theorem dX10_closes_25 : decode cX10_closes 25 = .ok (.ireturn, 1) := by decide +kernel
def x_X10_closes (M : gMem) (d : Nat) (p2 : Int32) : Option (Int32 × gMem) := Option.bind (x_X7_gather M d p2 0) (fun v1 => Option.bind (x_X7_ways v1) (fun v3 => (if v3.1 ≤ 0 then some (0, v3.2) else some (1, v3.2))))
set_option maxRecDepth 100000 in
set_option maxHeartbeats 4000000 in
theorem c_X10_closes {l : Launch} {Y : gY} {M : gMem} {d : Nat} {p2 : Int32} {r : (Int32 × gMem)} (hd : d < 4) (hx : x_X10_closes M d p2 = some r) : Met l yX10_closes (gws yX10_closes cX10_closes 3 (some .boolean)) { frames := 7, cells := 0, slots := 0, locals := 158 } (va_Pc [.ref (gad Y 0 34), .ref (gad Y d 0), .int p2] (gS0 Y M)) (gQz Y r) 0 0 (gA Y) := by
  refine gmet (lv := [(0, .ref (gad Y 0 34)), (1, .ref (gad Y d 0)), (2, .int p2)]) "GuestStaff" (by decide) rfl (Nat.le_of_ble_eq_true rfl) rfl (fun X hC hF => ?_)
  unfold x_X10_closes at hx
  refine q_aload_n hC 0 dX10_closes_0 rfl rfl ?_
  refine gf_X10_23 hC dX10_closes_1 ?_
  refine q_aload_n hC 1 dX10_closes_4 rfl rfl ?_
  refine q_iload_n hC 2 dX10_closes_5 rfl rfl ?_
  refine q_iconst hC 0 dX10_closes_6 rfl ?_
  obtain ⟨v1, q2, hx⟩ := gb_e hx
  refine q_kv (q_rV (As := [.ref (gad Y d 0), .int p2, .int 0]) (rest := []) hC mm_X7_gather wM_X10_165 (c_X7_gather hd q2) ⟨rfl, rfl, Nat.le_of_ble_eq_true rfl, Nat.le_of_ble_eq_true rfl⟩ (gV_t (by decide) (by decide)) rfl rfl rfl rfl (Nat.le_of_ble_eq_true rfl) dX10_closes_7) ?_
  refine q_aload_n hC 0 dX10_closes_10 rfl rfl ?_
  refine gf_X10_23 hC dX10_closes_11 ?_
  obtain ⟨v3, q4, hx⟩ := gb_e hx
  refine q_ki (q_rV (As := []) (rest := []) hC mm_X7_ways wM_X10_169 (c_X7_ways q4) ⟨rfl, rfl, Nat.le_of_ble_eq_true rfl, Nat.le_of_ble_eq_true rfl⟩ (gV_t (by decide) (by decide)) rfl rfl rfl rfl (Nat.le_of_ble_eq_true rfl) dX10_closes_14) ?_
  refine q_if_le hC 24 dX10_closes_17 rfl (fun h5 => ?_) (fun h5 => ?_)
  · have hx := gi_p h5 hx
    refine q_iconst hC 0 dX10_closes_24 rfl ?_
    exact q_zret hC hF dX10_closes_25 (Or.inl rfl) (Option.some.inj hx)
  · have hx := gi_n h5 hx
    refine q_iconst hC 1 dX10_closes_20 rfl ?_
    refine q_goto hC 25 dX10_closes_21 rfl ?_
    exact q_zret hC hF dX10_closes_25 (Or.inr rfl) (Option.some.inj hx)

theorem dX10_smallest_0 : decode cX10_smallest 0 = .ok (.iconst (-1), 1) := by decide +kernel
theorem dX10_smallest_1 : decode cX10_smallest 1 = .ok (.istore_n 1, 1) := by decide +kernel
theorem dX10_smallest_2 : decode cX10_smallest 2 = .ok (.bipush 8, 2) := by decide +kernel
theorem dX10_smallest_4 : decode cX10_smallest 4 = .ok (.istore_n 2, 1) := by decide +kernel
theorem dX10_smallest_5 : decode cX10_smallest 5 = .ok (.iconst 0, 1) := by decide +kernel
theorem dX10_smallest_6 : decode cX10_smallest 6 = .ok (.istore_n 3, 1) := by decide +kernel
theorem dX10_smallest_7 : decode cX10_smallest 7 = .ok (.iload_n 3, 1) := by decide +kernel
theorem dX10_smallest_8 : decode cX10_smallest 8 = .ok (.iconst 1, 1) := by decide +kernel
theorem dX10_smallest_9 : decode cX10_smallest 9 = .ok (.aload_n 0, 1) := by decide +kernel
theorem dX10_smallest_10 : decode cX10_smallest 10 = .ok (.getfield 61, 3) := by decide +kernel
theorem dX10_smallest_13 : decode cX10_smallest 13 = .ok (.getfield 72, 3) := by decide +kernel
theorem dX10_smallest_16 : decode cX10_smallest 16 = .ok (.ishl, 1) := by decide +kernel
theorem dX10_smallest_17 : decode cX10_smallest 17 = .ok (.if_icmp .ge 44, 3) := by decide +kernel
theorem dX10_smallest_20 : decode cX10_smallest 20 = .ok (.iload_n 3, 1) := by decide +kernel
theorem dX10_smallest_21 : decode cX10_smallest 21 = .ok (.invokestatic 185, 3) := by decide +kernel
theorem dX10_smallest_24 : decode cX10_smallest 24 = .ok (.istore 4, 2) := by decide +kernel
theorem dX10_smallest_26 : decode cX10_smallest 26 = .ok (.iload 4, 2) := by decide +kernel
theorem dX10_smallest_28 : decode cX10_smallest 28 = .ok (.iconst 2, 1) := by decide +kernel
theorem dX10_smallest_29 : decode cX10_smallest 29 = .ok (.if_icmp .lt 26, 3) := by decide +kernel
theorem dX10_smallest_32 : decode cX10_smallest 32 = .ok (.iload 4, 2) := by decide +kernel
theorem dX10_smallest_34 : decode cX10_smallest 34 = .ok (.iload_n 2, 1) := by decide +kernel
theorem dX10_smallest_35 : decode cX10_smallest 35 = .ok (.if_icmp .ge 20, 3) := by decide +kernel
theorem dX10_smallest_38 : decode cX10_smallest 38 = .ok (.aload_n 0, 1) := by decide +kernel
theorem dX10_smallest_39 : decode cX10_smallest 39 = .ok (.aload_n 0, 1) := by decide +kernel
theorem dX10_smallest_40 : decode cX10_smallest 40 = .ok (.getfield 61, 3) := by decide +kernel
theorem dX10_smallest_43 : decode cX10_smallest 43 = .ok (.iload_n 3, 1) := by decide +kernel
theorem dX10_smallest_44 : decode cX10_smallest 44 = .ok (.invokevirtual 190, 3) := by decide +kernel
theorem dX10_smallest_47 : decode cX10_smallest 47 = .ok (.ifCond .eq 8, 3) := by decide +kernel
theorem dX10_smallest_50 : decode cX10_smallest 50 = .ok (.iload_n 3, 1) := by decide +kernel
theorem dX10_smallest_51 : decode cX10_smallest 51 = .ok (.istore_n 1, 1) := by decide +kernel
theorem dX10_smallest_52 : decode cX10_smallest 52 = .ok (.iload 4, 2) := by decide +kernel
theorem dX10_smallest_54 : decode cX10_smallest 54 = .ok (.istore_n 2, 1) := by decide +kernel
theorem dX10_smallest_55 : decode cX10_smallest 55 = .ok (.iinc 3 1, 3) := by decide +kernel
theorem dX10_smallest_58 : decode cX10_smallest 58 = .ok (.goto (-51), 3) := by decide +kernel
theorem dX10_smallest_61 : decode cX10_smallest 61 = .ok (.iload_n 1, 1) := by decide +kernel
theorem dX10_smallest_62 : decode cX10_smallest 62 = .ok (.ireturn, 1) := by decide +kernel
def j_X10_smallest_7_55 (N : gMem) (b1 : Int32) (b2 : Int32) (b3 : Int32) : Option ((Int32 × Int32 × Int32 × gMem) ⊕ (Int32 × Int32 × Int32 × gMem)) := some (.inl (b1, b2, b3 + 1, N))
def s_X10_smallest_7 (b1 : Int32) (b2 : Int32) (b3 : Int32) (N : gMem) : Option ((Int32 × Int32 × Int32 × gMem) ⊕ (Int32 × Int32 × Int32 × gMem)) := (if (1 <<< ((N.1 0 0 13) &&& 31)) ≤ b3 then some (.inr (b1, b2, b3, N)) else Option.bind (x_J6_bitCount_0f7a4 b3) (fun v2 => (if v2 < 2 then j_X10_smallest_7_55 N b1 b2 b3 else (if b2 ≤ v2 then j_X10_smallest_7_55 N b1 b2 b3 else Option.bind (x_X10_closes N 0 b3) (fun v6 => (if v6.1 = 0 then j_X10_smallest_7_55 v6.2 b1 b2 b3 else j_X10_smallest_7_55 v6.2 b3 v2 b3))))))
def x_X10_smallest (M : gMem) : Option (Int32 × gMem) := Option.bind (itr FU (fun s => s_X10_smallest_7 s.1 s.2.1 s.2.2.1 s.2.2.2) ((-1), 8, 0, M)) (fun e10 => some (e10.1, e10.2.2.2))
set_option maxRecDepth 100000 in
set_option maxHeartbeats 4000000 in
theorem w_X10_smallest_7 {X : gX} {Y : gY} {r : (Int32 × gMem)} (hC : gC X Y cX10_smallest "GuestStaff" 5 8 180) (hF : gF X Y (some .int) (gQi Y r)) {e : (Int32 × Int32 × Int32 × gMem)} (kE : ∀ s : (Int32 × Int32 × Int32 × gMem), e = s → gWW X Y 5 61 [(1, .int s.1)] [] s.2.2.2) : ∀ (F : Nat) (s : (Int32 × Int32 × Int32 × gMem)), itr F (fun s => s_X10_smallest_7 s.1 s.2.1 s.2.2.1 s.2.2.2) s = some e → gWW X Y 5 7 [(0, .ref (gad Y 0 34)), (1, .int s.1), (2, .int s.2.1), (3, .int s.2.2.1)] [] s.2.2.2 := by
  intro F s
  refine itr_w (P := fun s => gWW X Y 5 7 [(0, .ref (gad Y 0 34)), (1, .int s.1), (2, .int s.2.1), (3, .int s.2.2.1)] [] s.2.2.2) (fun s o hx kI kx => ?_) F s
  obtain ⟨b1, b2, b3, N⟩ := s
  have hx : s_X10_smallest_7 b1 b2 b3 N = some o := hx
  have kE : ∀ s : (Int32 × Int32 × Int32 × gMem), o = .inr s → gWW X Y 5 61 [(1, .int s.1)] [] s.2.2.2 := fun s q => kE s (kx _ q).symm
  have J55 : ∀ (N : gMem) (b1 : Int32) (b2 : Int32) (b3 : Int32) , j_X10_smallest_7_55 N b1 b2 b3 = some o → gWW X Y 5 55 [(0, .ref (gad Y 0 34)), (1, .int b1), (2, .int b2), (3, .int b3)] [] N := by
    intro N b1 b2 b3 hx
    unfold j_X10_smallest_7_55 at hx
    refine q_iinc hC 3 1 [(3, .int (b3 + 1)), (0, .ref (gad Y 0 34)), (1, .int b1), (2, .int b2)] dX10_smallest_55 rfl rfl (by decide) rfl ?_
    refine q_goto hC 7 dX10_smallest_58 rfl ?_
    exact q_sub [1, 2, 3, 0] rfl (kI (b1, b2, b3 + 1, N) (Option.some.inj hx).symm)
  unfold s_X10_smallest_7 at hx
  refine q_iload_n hC 3 dX10_smallest_7 rfl rfl ?_
  refine q_iconst hC 1 dX10_smallest_8 rfl ?_
  refine q_aload_n hC 0 dX10_smallest_9 rfl rfl ?_
  refine gf_X10_61 hC dX10_smallest_10 ?_
  refine gf_X10_72 hC (by decide) dX10_smallest_13 ?_
  refine q_ishl hC dX10_smallest_16 ?_
  refine q_ic_ge hC 61 dX10_smallest_17 rfl (fun h1 => ?_) (fun h1 => ?_)
  · have hx := gi_p h1 hx
    exact q_sub [1] rfl (kE (b1, b2, b3, N) (Option.some.inj hx).symm)
  · have hx := gi_n h1 hx
    refine q_iload_n hC 3 dX10_smallest_20 rfl rfl ?_
    obtain ⟨v2, q3, hx⟩ := gb_e hx
    refine q_kip (q_rS (As := [.int b3]) (rest := []) hC mm_J6_bitCount_0f7a4 wM_X10_185 (c_J6_bitCount_0f7a4 q3) ⟨rfl, rfl, Nat.le_of_ble_eq_true rfl, Nat.le_of_ble_eq_true rfl⟩ rfl rfl (Nat.le_of_ble_eq_true rfl) dX10_smallest_21) ?_
    refine q_istore hC [(4, .int v2), (0, .ref (gad Y 0 34)), (1, .int b1), (2, .int b2), (3, .int b3)] dX10_smallest_24 (by decide) rfl ?_
    refine q_iload hC 0 dX10_smallest_26 rfl ?_
    refine q_iconst hC 2 dX10_smallest_28 rfl ?_
    refine q_ic_lt hC 55 dX10_smallest_29 rfl (fun h4 => ?_) (fun h4 => ?_)
    · have hx := gi_p h4 hx
      exact q_sub [1, 2, 3, 4] rfl (J55 N b1 b2 b3 hx)
    · have hx := gi_n h4 hx
      refine q_iload hC 0 dX10_smallest_32 rfl ?_
      refine q_iload_n hC 3 dX10_smallest_34 rfl rfl ?_
      refine q_ic_ge hC 55 dX10_smallest_35 rfl (fun h5 => ?_) (fun h5 => ?_)
      · have hx := gi_p h5 hx
        exact q_sub [1, 2, 3, 4] rfl (J55 N b1 b2 b3 hx)
      · have hx := gi_n h5 hx
        refine q_aload_n hC 1 dX10_smallest_38 rfl rfl ?_
        refine q_aload_n hC 1 dX10_smallest_39 rfl rfl ?_
        refine gf_X10_61 hC dX10_smallest_40 ?_
        refine q_iload_n hC 4 dX10_smallest_43 rfl rfl ?_
        obtain ⟨v6, q7, hx⟩ := gb_e hx
        refine q_kz (q_rV (As := [.ref (gad Y 0 0), .int b3]) (rest := []) hC mm_X10_closes wM_X10_190 (c_X10_closes (by decide) q7) ⟨rfl, rfl, Nat.le_of_ble_eq_true rfl, Nat.le_of_ble_eq_true rfl⟩ (gV_t (by decide) (by decide)) rfl rfl rfl rfl (Nat.le_of_ble_eq_true rfl) dX10_smallest_44) (fun z8 => ?_)
        refine q_if_eq hC 55 dX10_smallest_47 rfl (fun h9 => ?_) (fun h9 => ?_)
        · have hx := gi_p h9 hx
          exact q_sub [1, 2, 3, 4] rfl (J55 v6.2 b1 b2 b3 hx)
        · have hx := gi_n h9 hx
          refine q_iload_n hC 4 dX10_smallest_50 rfl rfl ?_
          refine q_istore_n hC [(1, .int b3), (4, .int v2), (0, .ref (gad Y 0 34)), (2, .int b2), (3, .int b3)] dX10_smallest_51 rfl (by decide) rfl ?_
          refine q_iload hC 1 dX10_smallest_52 rfl ?_
          refine q_istore_n hC [(2, .int v2), (1, .int b3), (4, .int v2), (0, .ref (gad Y 0 34)), (3, .int b3)] dX10_smallest_54 rfl (by decide) rfl ?_
          exact q_sub [3, 1, 0, 4] rfl (J55 v6.2 b3 v2 b3 hx)
set_option maxRecDepth 100000 in
set_option maxHeartbeats 4000000 in
theorem c_X10_smallest {l : Launch} {Y : gY} {M : gMem} {r : (Int32 × gMem)} (hx : x_X10_smallest M = some r) : Met l yX10_smallest (gws yX10_smallest cX10_smallest 5 (some .int)) { frames := 8, cells := 0, slots := 0, locals := 180 } (va_Pc [.ref (gad Y 0 34)] (gS0 Y M)) (gQi Y r) 0 0 (gA Y) := by
  refine gmet (lv := [(0, .ref (gad Y 0 34))]) "GuestStaff" (by decide) rfl (Nat.le_of_ble_eq_true rfl) rfl (fun X hC hF => ?_)
  unfold x_X10_smallest at hx
  refine q_iconst hC (-1) dX10_smallest_0 rfl ?_
  refine q_istore_n hC [(1, .int (-1)), (0, .ref (gad Y 0 34))] dX10_smallest_1 rfl (by decide) rfl ?_
  refine q_bipush hC 8 dX10_smallest_2 rfl ?_
  refine q_istore_n hC [(2, .int 8), (1, .int (-1)), (0, .ref (gad Y 0 34))] dX10_smallest_4 rfl (by decide) rfl ?_
  refine q_iconst hC 0 dX10_smallest_5 rfl ?_
  refine q_istore_n hC [(3, .int 0), (2, .int 8), (1, .int (-1)), (0, .ref (gad Y 0 34))] dX10_smallest_6 rfl (by decide) rfl ?_
  obtain ⟨e10, qe10, hx⟩ := gb_e hx
  refine q_sub [3, 2, 1, 0] rfl (w_X10_smallest_7 hC hF (e := e10) (fun s q => ?_) _ _ qe10)
  · subst q
    refine q_iload_n hC 0 dX10_smallest_61 rfl rfl ?_
    exact q_iret hC hF dX10_smallest_62 (Option.some.inj hx)

theorem dX10_swap_0 : decode cX10_swap 0 = .ok (.iload_n 1, 1) := by decide +kernel
theorem dX10_swap_1 : decode cX10_swap 1 = .ok (.iconst (-1), 1) := by decide +kernel
theorem dX10_swap_2 : decode cX10_swap 2 = .ok (.if_icmp .ge 10, 3) := by decide +kernel
theorem dX10_swap_5 : decode cX10_swap 5 = .ok (.aload_n 0, 1) := by decide +kernel
theorem dX10_swap_6 : decode cX10_swap 6 = .ok (.bipush (-10), 2) := by decide +kernel
theorem dX10_swap_8 : decode cX10_swap 8 = .ok (.invokevirtual 83, 3) := by decide +kernel
theorem dX10_swap_11 : decode cX10_swap 11 = .ok (.ireturn, 1) := by decide +kernel
theorem dX10_swap_12 : decode cX10_swap 12 = .ok (.iconst 0, 1) := by decide +kernel
theorem dX10_swap_13 : decode cX10_swap 13 = .ok (.istore_n 2, 1) := by decide +kernel
theorem dX10_swap_14 : decode cX10_swap 14 = .ok (.iconst 0, 1) := by decide +kernel
theorem dX10_swap_15 : decode cX10_swap 15 = .ok (.istore_n 3, 1) := by decide +kernel
theorem dX10_swap_16 : decode cX10_swap 16 = .ok (.iload_n 3, 1) := by decide +kernel
theorem dX10_swap_17 : decode cX10_swap 17 = .ok (.aload_n 0, 1) := by decide +kernel
theorem dX10_swap_18 : decode cX10_swap 18 = .ok (.getfield 61, 3) := by decide +kernel
theorem dX10_swap_21 : decode cX10_swap 21 = .ok (.getfield 72, 3) := by decide +kernel
theorem dX10_swap_24 : decode cX10_swap 24 = .ok (.if_icmp .ge 61, 3) := by decide +kernel
theorem dX10_swap_27 : decode cX10_swap 27 = .ok (.iload_n 3, 1) := by decide +kernel
theorem dX10_swap_28 : decode cX10_swap 28 = .ok (.iconst 1, 1) := by decide +kernel
theorem dX10_swap_29 : decode cX10_swap 29 = .ok (.iadd, 1) := by decide +kernel
theorem dX10_swap_30 : decode cX10_swap 30 = .ok (.istore 4, 2) := by decide +kernel
theorem dX10_swap_32 : decode cX10_swap 32 = .ok (.iload 4, 2) := by decide +kernel
theorem dX10_swap_34 : decode cX10_swap 34 = .ok (.aload_n 0, 1) := by decide +kernel
theorem dX10_swap_35 : decode cX10_swap 35 = .ok (.getfield 61, 3) := by decide +kernel
theorem dX10_swap_38 : decode cX10_swap 38 = .ok (.getfield 72, 3) := by decide +kernel
theorem dX10_swap_41 : decode cX10_swap 41 = .ok (.if_icmp .ge 38, 3) := by decide +kernel
theorem dX10_swap_44 : decode cX10_swap 44 = .ok (.aload_n 0, 1) := by decide +kernel
theorem dX10_swap_45 : decode cX10_swap 45 = .ok (.getfield 61, 3) := by decide +kernel
theorem dX10_swap_48 : decode cX10_swap 48 = .ok (.iload_n 3, 1) := by decide +kernel
theorem dX10_swap_49 : decode cX10_swap 49 = .ok (.iload 4, 2) := by decide +kernel
theorem dX10_swap_51 : decode cX10_swap 51 = .ok (.invokevirtual 194, 3) := by decide +kernel
theorem dX10_swap_54 : decode cX10_swap 54 = .ok (.ifCond .eq 19, 3) := by decide +kernel
theorem dX10_swap_57 : decode cX10_swap 57 = .ok (.iload_n 2, 1) := by decide +kernel
theorem dX10_swap_58 : decode cX10_swap 58 = .ok (.iload_n 1, 1) := by decide +kernel
theorem dX10_swap_59 : decode cX10_swap 59 = .ok (.if_icmp .ne 11, 3) := by decide +kernel
theorem dX10_swap_62 : decode cX10_swap 62 = .ok (.bipush 10, 2) := by decide +kernel
theorem dX10_swap_64 : decode cX10_swap 64 = .ok (.iload_n 3, 1) := by decide +kernel
theorem dX10_swap_65 : decode cX10_swap 65 = .ok (.imul, 1) := by decide +kernel
theorem dX10_swap_66 : decode cX10_swap 66 = .ok (.iload 4, 2) := by decide +kernel
theorem dX10_swap_68 : decode cX10_swap 68 = .ok (.iadd, 1) := by decide +kernel
theorem dX10_swap_69 : decode cX10_swap 69 = .ok (.ireturn, 1) := by decide +kernel
theorem dX10_swap_70 : decode cX10_swap 70 = .ok (.iinc 2 1, 3) := by decide +kernel
theorem dX10_swap_73 : decode cX10_swap 73 = .ok (.iinc 4 1, 3) := by decide +kernel
theorem dX10_swap_76 : decode cX10_swap 76 = .ok (.goto (-44), 3) := by decide +kernel
theorem dX10_swap_79 : decode cX10_swap 79 = .ok (.iinc 3 1, 3) := by decide +kernel
theorem dX10_swap_82 : decode cX10_swap 82 = .ok (.goto (-66), 3) := by decide +kernel
theorem dX10_swap_85 : decode cX10_swap 85 = .ok (.iload_n 1, 1) := by decide +kernel
theorem dX10_swap_86 : decode cX10_swap 86 = .ok (.iconst (-1), 1) := by decide +kernel
theorem dX10_swap_87 : decode cX10_swap 87 = .ok (.if_icmp .ne 7, 3) := by decide +kernel
theorem dX10_swap_90 : decode cX10_swap 90 = .ok (.iload_n 2, 1) := by decide +kernel
theorem dX10_swap_91 : decode cX10_swap 91 = .ok (.goto 5, 3) := by decide +kernel
theorem dX10_swap_94 : decode cX10_swap 94 = .ok (.bipush (-5), 2) := by decide +kernel
theorem dX10_swap_96 : decode cX10_swap 96 = .ok (.ireturn, 1) := by decide +kernel
def j_X10_swap_32_73 (M : gMem) (a1 : Int32) (a3 : Int32) (b2 : Int32) (b4 : Int32) : Option ((Int32 × Int32) ⊕ ((Int32 × Int32) ⊕ (Int32 × gMem))) := some (.inl (b2, b4 + 1))
def s_X10_swap_32 (M : gMem) (a1 : Int32) (a3 : Int32) (b2 : Int32) (b4 : Int32) : Option ((Int32 × Int32) ⊕ ((Int32 × Int32) ⊕ (Int32 × gMem))) := (if (M.1 0 0 13) ≤ b4 then some (.inr (.inl (b2, b4))) else Option.bind (x_X1_wouldSwap M 0 a3 b4) (fun v4 => (if v4 = 0 then j_X10_swap_32_73 M a1 a3 b2 b4 else (if b2 = a1 then some (.inr (.inr ((10 * a3) + b4, M))) else j_X10_swap_32_73 M a1 a3 (b2 + 1) b4))))
def s_X10_swap_16 (M : gMem) (a1 : Int32) (b2 : Int32) (b3 : Int32) : Option ((Int32 × Int32) ⊕ ((Int32 × Int32) ⊕ (Int32 × gMem))) := (if (M.1 0 0 13) ≤ b3 then some (.inr (.inl (b2, b3))) else Option.bind (itr FU (fun s => s_X10_swap_32 M a1 b3 s.1 s.2) (b2, b3 + 1)) (fun e9 => Sum.elim (fun s10 => some (.inl (s10.1, b3 + 1))) (fun z11 => some (.inr (.inr z11))) e9))
def x_X10_swap (M : gMem) (p1 : Int32) : Option (Int32 × gMem) := (if (-1) ≤ p1 then Option.bind (itr FU (fun s => s_X10_swap_16 M p1 s.1 s.2) (0, 0)) (fun e12 => Sum.elim (fun s13 => (if p1 = (-1) then some (s13.1, M) else some ((-5), M))) (fun z15 => some z15) e12) else Option.bind (x_X10_refuseBad M (-10)) (fun v16 => some (v16.1, v16.2)))
set_option maxRecDepth 100000 in
set_option maxHeartbeats 4000000 in
theorem w_X10_swap_32 {X : gX} {Y : gY} {M : gMem} {a1 : Int32} {a3 : Int32} {r : (Int32 × gMem)} (hC : gC X Y cX10_swap "GuestStaff" 5 7 157) (hF : gF X Y (some .int) (gQi Y r)) {e : ((Int32 × Int32) ⊕ (Int32 × gMem))} (kE : ∀ s : (Int32 × Int32), e = .inl s → gWW X Y 5 79 [(0, .ref (gad Y 0 34)), (1, .int a1), (2, .int s.1), (3, .int a3)] [] M) (kR : ∀ z : (Int32 × gMem), e = .inr z → z = r) : ∀ (F : Nat) (s : (Int32 × Int32)), itr F (fun s => s_X10_swap_32 M a1 a3 s.1 s.2) s = some e → gWW X Y 5 32 [(0, .ref (gad Y 0 34)), (1, .int a1), (2, .int s.1), (3, .int a3), (4, .int s.2)] [] M := by
  intro F s
  refine itr_w (P := fun s => gWW X Y 5 32 [(0, .ref (gad Y 0 34)), (1, .int a1), (2, .int s.1), (3, .int a3), (4, .int s.2)] [] M) (fun s o hx kI kx => ?_) F s
  obtain ⟨b2, b4⟩ := s
  have hx : s_X10_swap_32 M a1 a3 b2 b4 = some o := hx
  have kE : ∀ s : (Int32 × Int32), o = .inr (.inl s) → gWW X Y 5 79 [(0, .ref (gad Y 0 34)), (1, .int a1), (2, .int s.1), (3, .int a3)] [] M := fun s q => kE s (kx _ q).symm
  have kR : ∀ z : (Int32 × gMem), o = .inr (.inr z) → z = r := fun z q => kR z (kx _ q).symm
  have J73 : ∀ (b2 : Int32) (b4 : Int32) , j_X10_swap_32_73 M a1 a3 b2 b4 = some o → gWW X Y 5 73 [(0, .ref (gad Y 0 34)), (1, .int a1), (2, .int b2), (3, .int a3), (4, .int b4)] [] M := by
    intro b2 b4 hx
    unfold j_X10_swap_32_73 at hx
    refine q_iinc hC 4 1 [(4, .int (b4 + 1)), (0, .ref (gad Y 0 34)), (1, .int a1), (2, .int b2), (3, .int a3)] dX10_swap_73 rfl rfl (by decide) rfl ?_
    refine q_goto hC 32 dX10_swap_76 rfl ?_
    exact q_sub [1, 2, 3, 4, 0] rfl (kI (b2, b4 + 1) (Option.some.inj hx).symm)
  unfold s_X10_swap_32 at hx
  refine q_iload hC 4 dX10_swap_32 rfl ?_
  refine q_aload_n hC 0 dX10_swap_34 rfl rfl ?_
  refine gf_X10_61 hC dX10_swap_35 ?_
  refine gf_X10_72 hC (by decide) dX10_swap_38 ?_
  refine q_ic_ge hC 79 dX10_swap_41 rfl (fun h3 => ?_) (fun h3 => ?_)
  · have hx := gi_p h3 hx
    exact q_sub [0, 1, 2, 3] rfl (kE (b2, b4) (Option.some.inj hx).symm)
  · have hx := gi_n h3 hx
    refine q_aload_n hC 0 dX10_swap_44 rfl rfl ?_
    refine gf_X10_61 hC dX10_swap_45 ?_
    refine q_iload_n hC 3 dX10_swap_48 rfl rfl ?_
    refine q_iload hC 4 dX10_swap_49 rfl ?_
    obtain ⟨v4, q5, hx⟩ := gb_e hx
    refine q_kzp (q_rV (As := [.int a3, .int b4]) (rest := []) hC mm_X1_wouldSwap wM_X10_194 (c_X1_wouldSwap (by decide) q5) ⟨rfl, rfl, Nat.le_of_ble_eq_true rfl, Nat.le_of_ble_eq_true rfl⟩ (gV_h (by decide) (by decide)) rfl rfl rfl rfl (Nat.le_of_ble_eq_true rfl) dX10_swap_51) (fun z6 => ?_)
    refine q_if_eq hC 73 dX10_swap_54 rfl (fun h7 => ?_) (fun h7 => ?_)
    · have hx := gi_p h7 hx
      exact q_sub [0, 1, 2, 3, 4] rfl (J73 b2 b4 hx)
    · have hx := gi_n h7 hx
      refine q_iload_n hC 2 dX10_swap_57 rfl rfl ?_
      refine q_iload_n hC 1 dX10_swap_58 rfl rfl ?_
      refine q_ic_ne hC 70 dX10_swap_59 rfl (fun h8 => ?_) (fun h8 => ?_)
      · have hx := gi_n h8 hx
        refine q_iinc hC 2 1 [(2, .int (b2 + 1)), (0, .ref (gad Y 0 34)), (1, .int a1), (3, .int a3), (4, .int b4)] dX10_swap_70 rfl rfl (by decide) rfl ?_
        exact q_sub [1, 2, 0, 3, 4] rfl (J73 (b2 + 1) b4 hx)
      · have hx := gi_p h8 hx
        refine q_bipush hC 10 dX10_swap_62 rfl ?_
        refine q_iload_n hC 3 dX10_swap_64 rfl rfl ?_
        refine q_imul hC dX10_swap_65 ?_
        refine q_iload hC 4 dX10_swap_66 rfl ?_
        refine q_iadd hC dX10_swap_68 ?_
        exact q_iret hC hF dX10_swap_69 (kR _ (Option.some.inj hx).symm)
set_option maxRecDepth 100000 in
set_option maxHeartbeats 4000000 in
theorem w_X10_swap_16 {X : gX} {Y : gY} {M : gMem} {a1 : Int32} {r : (Int32 × gMem)} (hC : gC X Y cX10_swap "GuestStaff" 5 7 157) (hF : gF X Y (some .int) (gQi Y r)) {e : ((Int32 × Int32) ⊕ (Int32 × gMem))} (kE : ∀ s : (Int32 × Int32), e = .inl s → gWW X Y 5 85 [(1, .int a1), (2, .int s.1)] [] M) (kR : ∀ z : (Int32 × gMem), e = .inr z → z = r) : ∀ (F : Nat) (s : (Int32 × Int32)), itr F (fun s => s_X10_swap_16 M a1 s.1 s.2) s = some e → gWW X Y 5 16 [(0, .ref (gad Y 0 34)), (1, .int a1), (2, .int s.1), (3, .int s.2)] [] M := by
  intro F s
  refine itr_w (P := fun s => gWW X Y 5 16 [(0, .ref (gad Y 0 34)), (1, .int a1), (2, .int s.1), (3, .int s.2)] [] M) (fun s o hx kI kx => ?_) F s
  obtain ⟨b2, b3⟩ := s
  have hx : s_X10_swap_16 M a1 b2 b3 = some o := hx
  have kE : ∀ s : (Int32 × Int32), o = .inr (.inl s) → gWW X Y 5 85 [(1, .int a1), (2, .int s.1)] [] M := fun s q => kE s (kx _ q).symm
  have kR : ∀ z : (Int32 × gMem), o = .inr (.inr z) → z = r := fun z q => kR z (kx _ q).symm
  unfold s_X10_swap_16 at hx
  refine q_iload_n hC 3 dX10_swap_16 rfl rfl ?_
  refine q_aload_n hC 0 dX10_swap_17 rfl rfl ?_
  refine gf_X10_61 hC dX10_swap_18 ?_
  refine gf_X10_72 hC (by decide) dX10_swap_21 ?_
  refine q_ic_ge hC 85 dX10_swap_24 rfl (fun h2 => ?_) (fun h2 => ?_)
  · have hx := gi_p h2 hx
    exact q_sub [1, 2] rfl (kE (b2, b3) (Option.some.inj hx).symm)
  · have hx := gi_n h2 hx
    refine q_iload_n hC 3 dX10_swap_27 rfl rfl ?_
    refine q_iconst hC 1 dX10_swap_28 rfl ?_
    refine q_iadd hC dX10_swap_29 ?_
    refine q_istore hC [(4, .int (b3 + 1)), (0, .ref (gad Y 0 34)), (1, .int a1), (2, .int b2), (3, .int b3)] dX10_swap_30 (by decide) rfl ?_
    obtain ⟨e9, qe9, hx⟩ := gb_e hx
    refine q_sub [1, 2, 3, 4, 0] rfl (w_X10_swap_32 hC hF (e := e9) (fun s10 qs10 => ?_) (fun z11 qz11 => ?_) _ _ qe9)
    · subst qs10
      refine q_iinc hC 3 1 [(3, .int (b3 + 1)), (0, .ref (gad Y 0 34)), (1, .int a1), (2, .int s10.1)] dX10_swap_79 rfl rfl (by decide) rfl ?_
      refine q_goto hC 16 dX10_swap_82 rfl ?_
      exact q_sub [1, 2, 3, 0] rfl (kI (s10.1, b3 + 1) (Option.some.inj hx).symm)
    · subst qz11
      exact kR _ (Option.some.inj hx).symm
set_option maxRecDepth 100000 in
set_option maxHeartbeats 4000000 in
theorem c_X10_swap {l : Launch} {Y : gY} {M : gMem} {p1 : Int32} {r : (Int32 × gMem)} (hx : x_X10_swap M p1 = some r) : Met l yX10_swap (gws yX10_swap cX10_swap 5 (some .int)) { frames := 7, cells := 0, slots := 0, locals := 157 } (va_Pc [.ref (gad Y 0 34), .int p1] (gS0 Y M)) (gQi Y r) 0 0 (gA Y) := by
  refine gmet (lv := [(0, .ref (gad Y 0 34)), (1, .int p1)]) "GuestStaff" (by decide) rfl (Nat.le_of_ble_eq_true rfl) rfl (fun X hC hF => ?_)
  unfold x_X10_swap at hx
  refine q_iload_n hC 1 dX10_swap_0 rfl rfl ?_
  refine q_iconst hC (-1) dX10_swap_1 rfl ?_
  refine q_ic_ge hC 12 dX10_swap_2 rfl (fun h1 => ?_) (fun h1 => ?_)
  · have hx := gi_p h1 hx
    refine q_iconst hC 0 dX10_swap_12 rfl ?_
    refine q_istore_n hC [(2, .int 0), (0, .ref (gad Y 0 34)), (1, .int p1)] dX10_swap_13 rfl (by decide) rfl ?_
    refine q_iconst hC 0 dX10_swap_14 rfl ?_
    refine q_istore_n hC [(3, .int 0), (2, .int 0), (0, .ref (gad Y 0 34)), (1, .int p1)] dX10_swap_15 rfl (by decide) rfl ?_
    obtain ⟨e12, qe12, hx⟩ := gb_e hx
    refine q_sub [2, 3, 1, 0] rfl (w_X10_swap_16 hC hF (e := e12) (fun s13 qs13 => ?_) (fun z15 qz15 => ?_) _ _ qe12)
    · subst qs13
      refine q_iload_n hC 0 dX10_swap_85 rfl rfl ?_
      refine q_iconst hC (-1) dX10_swap_86 rfl ?_
      refine q_ic_ne hC 94 dX10_swap_87 rfl (fun h14 => ?_) (fun h14 => ?_)
      · have hx := gi_n h14 hx
        refine q_bipush hC (-5) dX10_swap_94 rfl ?_
        exact q_iret hC hF dX10_swap_96 (Option.some.inj hx)
      · have hx := gi_p h14 hx
        refine q_iload_n hC 1 dX10_swap_90 rfl rfl ?_
        refine q_goto hC 96 dX10_swap_91 rfl ?_
        exact q_iret hC hF dX10_swap_96 (Option.some.inj hx)
    · subst qz15
      exact Option.some.inj hx
  · have hx := gi_n h1 hx
    refine q_aload_n hC 0 dX10_swap_5 rfl rfl ?_
    refine q_bipush hC (-10) dX10_swap_6 rfl ?_
    obtain ⟨v16, q17, hx⟩ := gb_e hx
    refine q_ki (q_rV (As := [.int (-10)]) (rest := []) hC mm_X10_refuseBad wM_X10_83 (c_X10_refuseBad q17) ⟨rfl, rfl, Nat.le_of_ble_eq_true rfl, Nat.le_of_ble_eq_true rfl⟩ (gV_t (by decide) (by decide)) rfl rfl rfl rfl (Nat.le_of_ble_eq_true rfl) dX10_swap_8) ?_
    exact q_iret hC hF dX10_swap_11 (Option.some.inj hx)

theorem dX10_takeIn_0 : decode cX10_takeIn 0 = .ok (.iload_n 1, 1) := by decide +kernel
theorem dX10_takeIn_1 : decode cX10_takeIn 1 = .ok (.sipush 256, 3) := by decide +kernel
theorem dX10_takeIn_4 : decode cX10_takeIn 4 = .ok (.invokestatic 79, 3) := by decide +kernel
theorem dX10_takeIn_7 : decode cX10_takeIn 7 = .ok (.ifCond .ne 10, 3) := by decide +kernel
theorem dX10_takeIn_10 : decode cX10_takeIn 10 = .ok (.aload_n 0, 1) := by decide +kernel
theorem dX10_takeIn_11 : decode cX10_takeIn 11 = .ok (.bipush (-2), 2) := by decide +kernel
theorem dX10_takeIn_13 : decode cX10_takeIn 13 = .ok (.invokevirtual 83, 3) := by decide +kernel
theorem dX10_takeIn_16 : decode cX10_takeIn 16 = .ok (.ireturn, 1) := by decide +kernel
theorem dX10_takeIn_17 : decode cX10_takeIn 17 = .ok (.aload_n 0, 1) := by decide +kernel
theorem dX10_takeIn_18 : decode cX10_takeIn 18 = .ok (.getfield 61, 3) := by decide +kernel
theorem dX10_takeIn_21 : decode cX10_takeIn 21 = .ok (.getfield 72, 3) := by decide +kernel
theorem dX10_takeIn_24 : decode cX10_takeIn 24 = .ok (.bipush 7, 2) := by decide +kernel
theorem dX10_takeIn_26 : decode cX10_takeIn 26 = .ok (.if_icmp .lt 8, 3) := by decide +kernel
theorem dX10_takeIn_29 : decode cX10_takeIn 29 = .ok (.aload_n 0, 1) := by decide +kernel
theorem dX10_takeIn_30 : decode cX10_takeIn 30 = .ok (.invokevirtual 131, 3) := by decide +kernel
theorem dX10_takeIn_33 : decode cX10_takeIn 33 = .ok (.ireturn, 1) := by decide +kernel
theorem dX10_takeIn_34 : decode cX10_takeIn 34 = .ok (.aload_n 0, 1) := by decide +kernel
theorem dX10_takeIn_35 : decode cX10_takeIn 35 = .ok (.getfield 65, 3) := by decide +kernel
theorem dX10_takeIn_38 : decode cX10_takeIn 38 = .ok (.aload_n 0, 1) := by decide +kernel
theorem dX10_takeIn_39 : decode cX10_takeIn 39 = .ok (.getfield 61, 3) := by decide +kernel
theorem dX10_takeIn_42 : decode cX10_takeIn 42 = .ok (.invokevirtual 118, 3) := by decide +kernel
theorem dX10_takeIn_45 : decode cX10_takeIn 45 = .ok (.aload_n 0, 1) := by decide +kernel
theorem dX10_takeIn_46 : decode cX10_takeIn 46 = .ok (.getfield 65, 3) := by decide +kernel
theorem dX10_takeIn_49 : decode cX10_takeIn 49 = .ok (.iconst 0, 1) := by decide +kernel
theorem dX10_takeIn_50 : decode cX10_takeIn 50 = .ok (.iconst 0, 1) := by decide +kernel
theorem dX10_takeIn_51 : decode cX10_takeIn 51 = .ok (.iload_n 1, 1) := by decide +kernel
theorem dX10_takeIn_52 : decode cX10_takeIn 52 = .ok (.invokevirtual 91, 3) := by decide +kernel
theorem dX10_takeIn_55 : decode cX10_takeIn 55 = .ok (.istore_n 2, 1) := by decide +kernel
theorem dX10_takeIn_56 : decode cX10_takeIn 56 = .ok (.iconst 0, 1) := by decide +kernel
theorem dX10_takeIn_57 : decode cX10_takeIn 57 = .ok (.istore_n 3, 1) := by decide +kernel
theorem dX10_takeIn_58 : decode cX10_takeIn 58 = .ok (.iconst 0, 1) := by decide +kernel
theorem dX10_takeIn_59 : decode cX10_takeIn 59 = .ok (.istore 4, 2) := by decide +kernel
theorem dX10_takeIn_61 : decode cX10_takeIn 61 = .ok (.iload 4, 2) := by decide +kernel
theorem dX10_takeIn_63 : decode cX10_takeIn 63 = .ok (.bipush 8, 2) := by decide +kernel
theorem dX10_takeIn_65 : decode cX10_takeIn 65 = .ok (.if_icmp .ge 40, 3) := by decide +kernel
theorem dX10_takeIn_68 : decode cX10_takeIn 68 = .ok (.aload_n 0, 1) := by decide +kernel
theorem dX10_takeIn_69 : decode cX10_takeIn 69 = .ok (.getfield 65, 3) := by decide +kernel
theorem dX10_takeIn_72 : decode cX10_takeIn 72 = .ok (.getfield 143, 3) := by decide +kernel
theorem dX10_takeIn_75 : decode cX10_takeIn 75 = .ok (.iload_n 2, 1) := by decide +kernel
theorem dX10_takeIn_76 : decode cX10_takeIn 76 = .ok (.iload 4, 2) := by decide +kernel
theorem dX10_takeIn_78 : decode cX10_takeIn 78 = .ok (.iastore, 1) := by decide +kernel
theorem dX10_takeIn_79 : decode cX10_takeIn 79 = .ok (.aload_n 0, 1) := by decide +kernel
theorem dX10_takeIn_80 : decode cX10_takeIn 80 = .ok (.aload_n 0, 1) := by decide +kernel
theorem dX10_takeIn_81 : decode cX10_takeIn 81 = .ok (.getfield 65, 3) := by decide +kernel
theorem dX10_takeIn_84 : decode cX10_takeIn 84 = .ok (.bipush 127, 2) := by decide +kernel
theorem dX10_takeIn_86 : decode cX10_takeIn 86 = .ok (.invokevirtual 190, 3) := by decide +kernel
theorem dX10_takeIn_89 : decode cX10_takeIn 89 = .ok (.ifCond .eq 10, 3) := by decide +kernel
theorem dX10_takeIn_92 : decode cX10_takeIn 92 = .ok (.iload_n 3, 1) := by decide +kernel
theorem dX10_takeIn_93 : decode cX10_takeIn 93 = .ok (.iconst 1, 1) := by decide +kernel
theorem dX10_takeIn_94 : decode cX10_takeIn 94 = .ok (.iload 4, 2) := by decide +kernel
theorem dX10_takeIn_96 : decode cX10_takeIn 96 = .ok (.ishl, 1) := by decide +kernel
theorem dX10_takeIn_97 : decode cX10_takeIn 97 = .ok (.ior, 1) := by decide +kernel
theorem dX10_takeIn_98 : decode cX10_takeIn 98 = .ok (.istore_n 3, 1) := by decide +kernel
theorem dX10_takeIn_99 : decode cX10_takeIn 99 = .ok (.iinc 4 1, 3) := by decide +kernel
theorem dX10_takeIn_102 : decode cX10_takeIn 102 = .ok (.goto (-41), 3) := by decide +kernel
theorem dX10_takeIn_105 : decode cX10_takeIn 105 = .ok (.iload_n 3, 1) := by decide +kernel
theorem dX10_takeIn_106 : decode cX10_takeIn 106 = .ok (.ireturn, 1) := by decide +kernel
def j_X10_takeIn_61_99 (a2 : Int32) (N : gMem) (b3 : Int32) (b4 : Int32) : Option ((Int32 × Int32 × gMem) ⊕ (Int32 × Int32 × gMem)) := some (.inl (b3, b4 + 1, N))
def s_X10_takeIn_61 (a2 : Int32) (b3 : Int32) (b4 : Int32) (N : gMem) : Option ((Int32 × Int32 × gMem) ⊕ (Int32 × Int32 × gMem)) := (if 8 ≤ b4 then some (.inr (b3, b4, N)) else gd (gin a2 7) (Option.bind (x_X10_closes (gwr N 1 2 (a2).toNatClampNeg b4) 1 127) (fun v12 => (if v12.1 = 0 then j_X10_takeIn_61_99 a2 v12.2 b3 b4 else j_X10_takeIn_61_99 a2 v12.2 (b3 ||| (1 <<< (b4 &&& 31))) b4))))
def x_X10_takeIn (M : gMem) (p1 : Int32) : Option (Int32 × gMem) := Option.bind (x_X10_isBelow p1 256) (fun v1 => (if v1 = 0 then Option.bind (x_X10_refuseBad M (-2)) (fun v19 => some (v19.1, v19.2)) else (if (M.1 0 0 13) < 7 then Option.bind (x_X1_copy M 1 0) (fun v6 => Option.bind (x_X1_admit v6 1 0 0 p1) (fun v8 => Option.bind (itr FU (fun s => s_X10_takeIn_61 v8.1 s.1 s.2.1 s.2.2) (0, 0, v8.2)) (fun e16 => some (e16.1, e16.2.2)))) else Option.bind (x_X10_refuseNo M) (fun v17 => some (v17.1, v17.2)))))
set_option maxRecDepth 100000 in
set_option maxHeartbeats 4000000 in
theorem w_X10_takeIn_61 {X : gX} {Y : gY} {a2 : Int32} {r : (Int32 × gMem)} (hC : gC X Y cX10_takeIn "GuestStaff" 5 8 180) (hF : gF X Y (some .int) (gQi Y r)) {e : (Int32 × Int32 × gMem)} (kE : ∀ s : (Int32 × Int32 × gMem), e = s → gWW X Y 5 105 [(3, .int s.1)] [] s.2.2) : ∀ (F : Nat) (s : (Int32 × Int32 × gMem)), itr F (fun s => s_X10_takeIn_61 a2 s.1 s.2.1 s.2.2) s = some e → gWW X Y 5 61 [(0, .ref (gad Y 0 34)), (2, .int a2), (3, .int s.1), (4, .int s.2.1)] [] s.2.2 := by
  intro F s
  refine itr_w (P := fun s => gWW X Y 5 61 [(0, .ref (gad Y 0 34)), (2, .int a2), (3, .int s.1), (4, .int s.2.1)] [] s.2.2) (fun s o hx kI kx => ?_) F s
  obtain ⟨b3, b4, N⟩ := s
  have hx : s_X10_takeIn_61 a2 b3 b4 N = some o := hx
  have kE : ∀ s : (Int32 × Int32 × gMem), o = .inr s → gWW X Y 5 105 [(3, .int s.1)] [] s.2.2 := fun s q => kE s (kx _ q).symm
  have J99 : ∀ (N : gMem) (b3 : Int32) (b4 : Int32) , j_X10_takeIn_61_99 a2 N b3 b4 = some o → gWW X Y 5 99 [(0, .ref (gad Y 0 34)), (2, .int a2), (3, .int b3), (4, .int b4)] [] N := by
    intro N b3 b4 hx
    unfold j_X10_takeIn_61_99 at hx
    refine q_iinc hC 3 1 [(4, .int (b4 + 1)), (0, .ref (gad Y 0 34)), (2, .int a2), (3, .int b3)] dX10_takeIn_99 rfl rfl (by decide) rfl ?_
    refine q_goto hC 61 dX10_takeIn_102 rfl ?_
    exact q_sub [1, 2, 3, 0] rfl (kI (b3, b4 + 1, N) (Option.some.inj hx).symm)
  unfold s_X10_takeIn_61 at hx
  refine q_iload hC 3 dX10_takeIn_61 rfl ?_
  refine q_bipush hC 8 dX10_takeIn_63 rfl ?_
  refine q_ic_ge hC 105 dX10_takeIn_65 rfl (fun h10 => ?_) (fun h10 => ?_)
  · have hx := gi_p h10 hx
    exact q_sub [2] rfl (kE (b3, b4, N) (Option.some.inj hx).symm)
  · have hx := gi_n h10 hx
    refine q_aload_n hC 0 dX10_takeIn_68 rfl rfl ?_
    refine gf_X10_65 hC dX10_takeIn_69 ?_
    refine gf_X10_143 hC (by decide) dX10_takeIn_72 ?_
    refine q_iload_n hC 1 dX10_takeIn_75 rfl rfl ?_
    refine q_iload hC 3 dX10_takeIn_76 rfl ?_
    have g11 := (gd_e hx).1
    have hx := (gd_e hx).2
    refine q_iast hC 6 (gV_h (by decide) (by decide)) rfl g11 dX10_takeIn_78 ?_
    refine q_aload_n hC 0 dX10_takeIn_79 rfl rfl ?_
    refine q_aload_n hC 0 dX10_takeIn_80 rfl rfl ?_
    refine gf_X10_65 hC dX10_takeIn_81 ?_
    refine q_bipush hC 127 dX10_takeIn_84 rfl ?_
    obtain ⟨v12, q13, hx⟩ := gb_e hx
    refine q_kz (q_rV (As := [.ref (gad Y 1 0), .int 127]) (rest := []) hC mm_X10_closes wM_X10_190 (c_X10_closes (by decide) q13) ⟨rfl, rfl, Nat.le_of_ble_eq_true rfl, Nat.le_of_ble_eq_true rfl⟩ (gV_t (by decide) (by decide)) rfl rfl rfl rfl (Nat.le_of_ble_eq_true rfl) dX10_takeIn_86) (fun z14 => ?_)
    refine q_if_eq hC 99 dX10_takeIn_89 rfl (fun h15 => ?_) (fun h15 => ?_)
    · have hx := gi_p h15 hx
      exact q_sub [0, 1, 2, 3] rfl (J99 v12.2 b3 b4 hx)
    · have hx := gi_n h15 hx
      refine q_iload_n hC 2 dX10_takeIn_92 rfl rfl ?_
      refine q_iconst hC 1 dX10_takeIn_93 rfl ?_
      refine q_iload hC 3 dX10_takeIn_94 rfl ?_
      refine q_ishl hC dX10_takeIn_96 ?_
      refine q_ior hC dX10_takeIn_97 ?_
      refine q_istore_n hC [(3, .int (b3 ||| (1 <<< (b4 &&& 31)))), (0, .ref (gad Y 0 34)), (2, .int a2), (4, .int b4)] dX10_takeIn_98 rfl (by decide) rfl ?_
      exact q_sub [1, 2, 0, 3] rfl (J99 v12.2 (b3 ||| (1 <<< (b4 &&& 31))) b4 hx)
set_option maxRecDepth 100000 in
set_option maxHeartbeats 4000000 in
theorem c_X10_takeIn {l : Launch} {Y : gY} {M : gMem} {p1 : Int32} {r : (Int32 × gMem)} (hx : x_X10_takeIn M p1 = some r) : Met l yX10_takeIn (gws yX10_takeIn cX10_takeIn 5 (some .int)) { frames := 8, cells := 0, slots := 0, locals := 180 } (va_Pc [.ref (gad Y 0 34), .int p1] (gS0 Y M)) (gQi Y r) 0 0 (gA Y) := by
  refine gmet (lv := [(0, .ref (gad Y 0 34)), (1, .int p1)]) "GuestStaff" (by decide) rfl (Nat.le_of_ble_eq_true rfl) rfl (fun X hC hF => ?_)
  unfold x_X10_takeIn at hx
  refine q_iload_n hC 1 dX10_takeIn_0 rfl rfl ?_
  refine q_sipush hC 256 dX10_takeIn_1 rfl ?_
  obtain ⟨v1, q2, hx⟩ := gb_e hx
  refine q_kzp (q_rS (As := [.int p1, .int 256]) (rest := []) hC mm_X10_isBelow wM_X10_79 (c_X10_isBelow q2) ⟨rfl, rfl, Nat.le_of_ble_eq_true rfl, Nat.le_of_ble_eq_true rfl⟩ rfl rfl (Nat.le_of_ble_eq_true rfl) dX10_takeIn_4) (fun z3 => ?_)
  refine q_if_ne hC 17 dX10_takeIn_7 rfl (fun h4 => ?_) (fun h4 => ?_)
  · have hx := gi_n h4 hx
    refine q_aload_n hC 0 dX10_takeIn_17 rfl rfl ?_
    refine gf_X10_61 hC dX10_takeIn_18 ?_
    refine gf_X10_72 hC (by decide) dX10_takeIn_21 ?_
    refine q_bipush hC 7 dX10_takeIn_24 rfl ?_
    refine q_ic_lt hC 34 dX10_takeIn_26 rfl (fun h5 => ?_) (fun h5 => ?_)
    · have hx := gi_p h5 hx
      refine q_aload_n hC 0 dX10_takeIn_34 rfl rfl ?_
      refine gf_X10_65 hC dX10_takeIn_35 ?_
      refine q_aload_n hC 0 dX10_takeIn_38 rfl rfl ?_
      refine gf_X10_61 hC dX10_takeIn_39 ?_
      obtain ⟨v6, q7, hx⟩ := gb_e hx
      refine q_kv (q_rV (As := [.ref (gad Y 0 0)]) (rest := []) hC mm_X1_copy wM_X10_118 (c_X1_copy (by decide) (by decide) q7) ⟨rfl, rfl, Nat.le_of_ble_eq_true rfl, Nat.le_of_ble_eq_true rfl⟩ (gV_h (by decide) (by decide)) rfl rfl rfl rfl (Nat.le_of_ble_eq_true rfl) dX10_takeIn_42) ?_
      refine q_aload_n hC 0 dX10_takeIn_45 rfl rfl ?_
      refine gf_X10_65 hC dX10_takeIn_46 ?_
      refine q_iconst hC 0 dX10_takeIn_49 rfl ?_
      refine q_iconst hC 0 dX10_takeIn_50 rfl ?_
      refine q_iload_n hC 1 dX10_takeIn_51 rfl rfl ?_
      obtain ⟨v8, q9, hx⟩ := gb_e hx
      refine q_ki (q_rV (As := [.int 0, .int 0, .int p1]) (rest := []) hC mm_X1_admit wM_X10_91 (c_X1_admit (by decide) q9) ⟨rfl, rfl, Nat.le_of_ble_eq_true rfl, Nat.le_of_ble_eq_true rfl⟩ (gV_h (by decide) (by decide)) rfl rfl rfl rfl (Nat.le_of_ble_eq_true rfl) dX10_takeIn_52) ?_
      refine q_istore_n hC [(2, .int v8.1), (0, .ref (gad Y 0 34)), (1, .int p1)] dX10_takeIn_55 rfl (by decide) rfl ?_
      refine q_iconst hC 0 dX10_takeIn_56 rfl ?_
      refine q_istore_n hC [(3, .int 0), (2, .int v8.1), (0, .ref (gad Y 0 34)), (1, .int p1)] dX10_takeIn_57 rfl (by decide) rfl ?_
      refine q_iconst hC 0 dX10_takeIn_58 rfl ?_
      refine q_istore hC [(4, .int 0), (3, .int 0), (2, .int v8.1), (0, .ref (gad Y 0 34)), (1, .int p1)] dX10_takeIn_59 (by decide) rfl ?_
      obtain ⟨e16, qe16, hx⟩ := gb_e hx
      refine q_sub [3, 2, 1, 0] rfl (w_X10_takeIn_61 hC hF (e := e16) (fun s q => ?_) _ _ qe16)
      · subst q
        refine q_iload_n hC 0 dX10_takeIn_105 rfl rfl ?_
        exact q_iret hC hF dX10_takeIn_106 (Option.some.inj hx)
    · have hx := gi_n h5 hx
      refine q_aload_n hC 0 dX10_takeIn_29 rfl rfl ?_
      obtain ⟨v17, q18, hx⟩ := gb_e hx
      refine q_ki (q_rV (As := []) (rest := []) hC mm_X10_refuseNo wM_X10_131 (c_X10_refuseNo q18) ⟨rfl, rfl, Nat.le_of_ble_eq_true rfl, Nat.le_of_ble_eq_true rfl⟩ (gV_t (by decide) (by decide)) rfl rfl rfl rfl (Nat.le_of_ble_eq_true rfl) dX10_takeIn_30) ?_
      exact q_iret hC hF dX10_takeIn_33 (Option.some.inj hx)
  · have hx := gi_p h4 hx
    refine q_aload_n hC 0 dX10_takeIn_10 rfl rfl ?_
    refine q_bipush hC (-2) dX10_takeIn_11 rfl ?_
    obtain ⟨v19, q20, hx⟩ := gb_e hx
    refine q_ki (q_rV (As := [.int (-2)]) (rest := []) hC mm_X10_refuseBad wM_X10_83 (c_X10_refuseBad q20) ⟨rfl, rfl, Nat.le_of_ble_eq_true rfl, Nat.le_of_ble_eq_true rfl⟩ (gV_t (by decide) (by decide)) rfl rfl rfl rfl (Nat.le_of_ble_eq_true rfl) dX10_takeIn_13) ?_
    exact q_iret hC hF dX10_takeIn_16 (Option.some.inj hx)

theorem dX10_note_0 : decode cX10_note 0 = .ok (.aload_n 0, 1) := by decide +kernel
theorem dX10_note_1 : decode cX10_note 1 = .ok (.getfield 61, 3) := by decide +kernel
theorem dX10_note_4 : decode cX10_note 4 = .ok (.iload_n 1, 1) := by decide +kernel
theorem dX10_note_5 : decode cX10_note 5 = .ok (.invokevirtual 95, 3) := by decide +kernel
theorem dX10_note_8 : decode cX10_note 8 = .ok (.ifCond .eq 25, 3) := by decide +kernel
theorem dX10_note_11 : decode cX10_note 11 = .ok (.iload_n 2, 1) := by decide +kernel
theorem dX10_note_12 : decode cX10_note 12 = .ok (.bipush 6, 2) := by decide +kernel
theorem dX10_note_14 : decode cX10_note 14 = .ok (.invokestatic 79, 3) := by decide +kernel
theorem dX10_note_17 : decode cX10_note 17 = .ok (.ifCond .eq 16, 3) := by decide +kernel
theorem dX10_note_20 : decode cX10_note 20 = .ok (.iload_n 3, 1) := by decide +kernel
theorem dX10_note_21 : decode cX10_note 21 = .ok (.bipush 8, 2) := by decide +kernel
theorem dX10_note_23 : decode cX10_note 23 = .ok (.invokestatic 79, 3) := by decide +kernel
theorem dX10_note_26 : decode cX10_note 26 = .ok (.ifCond .eq 7, 3) := by decide +kernel
theorem dX10_note_29 : decode cX10_note 29 = .ok (.iconst 1, 1) := by decide +kernel
theorem dX10_note_30 : decode cX10_note 30 = .ok (.goto 4, 3) := by decide +kernel
theorem dX10_note_33 : decode cX10_note 33 = .ok (.iconst 0, 1) := by decide +kernel
theorem dX10_note_34 : decode cX10_note 34 = .ok (.istore 6, 2) := by decide +kernel
theorem dX10_note_36 : decode cX10_note 36 = .ok (.iload 6, 2) := by decide +kernel
theorem dX10_note_38 : decode cX10_note 38 = .ok (.ifCond .eq 23, 3) := by decide +kernel
theorem dX10_note_41 : decode cX10_note 41 = .ok (.iload 4, 2) := by decide +kernel
theorem dX10_note_43 : decode cX10_note 43 = .ok (.bipush 100, 2) := by decide +kernel
theorem dX10_note_45 : decode cX10_note 45 = .ok (.invokestatic 79, 3) := by decide +kernel
theorem dX10_note_48 : decode cX10_note 48 = .ok (.ifCond .eq 13, 3) := by decide +kernel
theorem dX10_note_51 : decode cX10_note 51 = .ok (.iload 5, 2) := by decide +kernel
theorem dX10_note_53 : decode cX10_note 53 = .ok (.bipush 31, 2) := by decide +kernel
theorem dX10_note_55 : decode cX10_note 55 = .ok (.invokestatic 79, 3) := by decide +kernel
theorem dX10_note_58 : decode cX10_note 58 = .ok (.ifCond .ne 10, 3) := by decide +kernel
theorem dX10_note_61 : decode cX10_note 61 = .ok (.aload_n 0, 1) := by decide +kernel
theorem dX10_note_62 : decode cX10_note 62 = .ok (.bipush (-2), 2) := by decide +kernel
theorem dX10_note_64 : decode cX10_note 64 = .ok (.invokevirtual 83, 3) := by decide +kernel
theorem dX10_note_67 : decode cX10_note 67 = .ok (.ireturn, 1) := by decide +kernel
theorem dX10_note_68 : decode cX10_note 68 = .ok (.aload_n 0, 1) := by decide +kernel
theorem dX10_note_69 : decode cX10_note 69 = .ok (.getfield 61, 3) := by decide +kernel
theorem dX10_note_72 : decode cX10_note 72 = .ok (.getfield 197, 3) := by decide +kernel
theorem dX10_note_75 : decode cX10_note 75 = .ok (.getfield 201, 3) := by decide +kernel
theorem dX10_note_78 : decode cX10_note 78 = .ok (.bipush 6, 2) := by decide +kernel
theorem dX10_note_80 : decode cX10_note 80 = .ok (.if_icmp .lt 8, 3) := by decide +kernel
theorem dX10_note_83 : decode cX10_note 83 = .ok (.aload_n 0, 1) := by decide +kernel
theorem dX10_note_84 : decode cX10_note 84 = .ok (.invokevirtual 87, 3) := by decide +kernel
theorem dX10_note_87 : decode cX10_note 87 = .ok (.ireturn, 1) := by decide +kernel
theorem dX10_note_88 : decode cX10_note 88 = .ok (.aload_n 0, 1) := by decide +kernel
theorem dX10_note_89 : decode cX10_note 89 = .ok (.getfield 61, 3) := by decide +kernel
theorem dX10_note_92 : decode cX10_note 92 = .ok (.getfield 197, 3) := by decide +kernel
theorem dX10_note_95 : decode cX10_note 95 = .ok (.iload_n 1, 1) := by decide +kernel
theorem dX10_note_96 : decode cX10_note 96 = .ok (.iload_n 2, 1) := by decide +kernel
theorem dX10_note_97 : decode cX10_note 97 = .ok (.iload_n 3, 1) := by decide +kernel
theorem dX10_note_98 : decode cX10_note 98 = .ok (.iload 4, 2) := by decide +kernel
theorem dX10_note_100 : decode cX10_note 100 = .ok (.iload 5, 2) := by decide +kernel
theorem dX10_note_102 : decode cX10_note 102 = .ok (.invokevirtual 204, 3) := by decide +kernel
theorem dX10_note_105 : decode cX10_note 105 = .ok (.ireturn, 1) := by decide +kernel
def j_X10_note_61 (M : gMem) (p1 : Int32) (p2 : Int32) (p3 : Int32) (p4 : Int32) (p5 : Int32) (N : gMem) : Option (Int32 × gMem) := Option.bind (x_X10_refuseBad N (-2)) (fun v6 => some (v6.1, v6.2))
def j_X10_note_34 (M : gMem) (p1 : Int32) (p2 : Int32) (p3 : Int32) (p4 : Int32) (p5 : Int32) (N : gMem) (t0 : Int32) : Option (Int32 × gMem) := (if t0 = 0 then j_X10_note_61 M p1 p2 p3 p4 p5 N else Option.bind (x_X10_isBelow p4 100) (fun v8 => (if v8 = 0 then j_X10_note_61 M p1 p2 p3 p4 p5 N else Option.bind (x_X10_isBelow p5 31) (fun v12 => (if v12 = 0 then j_X10_note_61 M p1 p2 p3 p4 p5 N else (if (N.1 0 6 1) < 6 then Option.bind (x_X3_add N 0 p1 p2 p3 p4 p5) (fun v17 => some (v17.1, v17.2)) else Option.bind (x_X10_refuseFull N) (fun v19 => some (v19.1, v19.2))))))))
def j_X10_note_33 (M : gMem) (p1 : Int32) (p2 : Int32) (p3 : Int32) (p4 : Int32) (p5 : Int32) (N : gMem) : Option (Int32 × gMem) := j_X10_note_34 M p1 p2 p3 p4 p5 N 0
def x_X10_note (M : gMem) (p1 : Int32) (p2 : Int32) (p3 : Int32) (p4 : Int32) (p5 : Int32) : Option (Int32 × gMem) := Option.bind (x_X1_isGuest M 0 p1) (fun v1 => (if v1 = 0 then j_X10_note_33 M p1 p2 p3 p4 p5 M else Option.bind (x_X10_isBelow p2 6) (fun v21 => (if v21 = 0 then j_X10_note_33 M p1 p2 p3 p4 p5 M else Option.bind (x_X10_isBelow p3 8) (fun v25 => (if v25 = 0 then j_X10_note_33 M p1 p2 p3 p4 p5 M else j_X10_note_34 M p1 p2 p3 p4 p5 M 1))))))
set_option maxRecDepth 100000 in
set_option maxHeartbeats 4000000 in
theorem c_X10_note {l : Launch} {Y : gY} {M : gMem} {p1 : Int32} {p2 : Int32} {p3 : Int32} {p4 : Int32} {p5 : Int32} {r : (Int32 × gMem)} (hx : x_X10_note M p1 p2 p3 p4 p5 = some r) : Met l yX10_note (gws yX10_note cX10_note 7 (some .int)) { frames := 1, cells := 0, slots := 0, locals := 26 } (va_Pc [.ref (gad Y 0 34), .int p1, .int p2, .int p3, .int p4, .int p5] (gS0 Y M)) (gQi Y r) 0 0 (gA Y) := by
  refine gmet (lv := [(0, .ref (gad Y 0 34)), (1, .int p1), (2, .int p2), (3, .int p3), (4, .int p4), (5, .int p5)]) "GuestStaff" (by decide) rfl (Nat.le_of_ble_eq_true rfl) rfl (fun X hC hF => ?_)
  have J61 : ∀ (N : gMem) , j_X10_note_61 M p1 p2 p3 p4 p5 N = some r → gWW X Y 7 61 [(0, .ref (gad Y 0 34))] [] N := by
    intro N hx
    unfold j_X10_note_61 at hx
    refine q_aload_n hC 0 dX10_note_61 rfl rfl ?_
    refine q_bipush hC (-2) dX10_note_62 rfl ?_
    obtain ⟨v6, q7, hx⟩ := gb_e hx
    refine q_ki (q_rV (As := [.int (-2)]) (rest := []) hC mm_X10_refuseBad wM_X10_83 (c_X10_refuseBad q7) ⟨rfl, rfl, Nat.le_of_ble_eq_true rfl, Nat.le_of_ble_eq_true rfl⟩ (gV_t (by decide) (by decide)) rfl rfl rfl rfl (Nat.le_of_ble_eq_true rfl) dX10_note_64) ?_
    exact q_iret hC hF dX10_note_67 (Option.some.inj hx)
  have J34 : ∀ (N : gMem) (t0 : Int32) , j_X10_note_34 M p1 p2 p3 p4 p5 N t0 = some r → gWW X Y 7 34 [(0, .ref (gad Y 0 34)), (1, .int p1), (2, .int p2), (3, .int p3), (4, .int p4), (5, .int p5)] [.int t0] N := by
    intro N t0 hx
    unfold j_X10_note_34 at hx
    refine q_istore hC [(6, .int t0), (0, .ref (gad Y 0 34)), (1, .int p1), (2, .int p2), (3, .int p3), (4, .int p4), (5, .int p5)] dX10_note_34 (by decide) rfl ?_
    refine q_iload hC 0 dX10_note_36 rfl ?_
    refine q_if_eq hC 61 dX10_note_38 rfl (fun h5 => ?_) (fun h5 => ?_)
    · have hx := gi_p h5 hx
      exact q_sub [1] rfl (J61 N hx)
    · have hx := gi_n h5 hx
      refine q_iload hC 5 dX10_note_41 rfl ?_
      refine q_bipush hC 100 dX10_note_43 rfl ?_
      obtain ⟨v8, q9, hx⟩ := gb_e hx
      refine q_kzp (q_rS (As := [.int p4, .int 100]) (rest := []) hC mm_X10_isBelow wM_X10_79 (c_X10_isBelow q9) ⟨rfl, rfl, Nat.le_of_ble_eq_true rfl, Nat.le_of_ble_eq_true rfl⟩ rfl rfl (Nat.le_of_ble_eq_true rfl) dX10_note_45) (fun z10 => ?_)
      refine q_if_eq hC 61 dX10_note_48 rfl (fun h11 => ?_) (fun h11 => ?_)
      · have hx := gi_p h11 hx
        exact q_sub [1] rfl (J61 N hx)
      · have hx := gi_n h11 hx
        refine q_iload hC 6 dX10_note_51 rfl ?_
        refine q_bipush hC 31 dX10_note_53 rfl ?_
        obtain ⟨v12, q13, hx⟩ := gb_e hx
        refine q_kzp (q_rS (As := [.int p5, .int 31]) (rest := []) hC mm_X10_isBelow wM_X10_79 (c_X10_isBelow q13) ⟨rfl, rfl, Nat.le_of_ble_eq_true rfl, Nat.le_of_ble_eq_true rfl⟩ rfl rfl (Nat.le_of_ble_eq_true rfl) dX10_note_55) (fun z14 => ?_)
        refine q_if_ne hC 68 dX10_note_58 rfl (fun h15 => ?_) (fun h15 => ?_)
        · have hx := gi_n h15 hx
          refine q_aload_n hC 1 dX10_note_68 rfl rfl ?_
          refine gf_X10_61 hC dX10_note_69 ?_
          refine gf_X10_197 hC (by decide) dX10_note_72 ?_
          refine gf_X10_201 hC (by decide) dX10_note_75 ?_
          refine q_bipush hC 6 dX10_note_78 rfl ?_
          refine q_ic_lt hC 88 dX10_note_80 rfl (fun h16 => ?_) (fun h16 => ?_)
          · have hx := gi_p h16 hx
            refine q_aload_n hC 1 dX10_note_88 rfl rfl ?_
            refine gf_X10_61 hC dX10_note_89 ?_
            refine gf_X10_197 hC (by decide) dX10_note_92 ?_
            refine q_iload_n hC 2 dX10_note_95 rfl rfl ?_
            refine q_iload_n hC 3 dX10_note_96 rfl rfl ?_
            refine q_iload_n hC 4 dX10_note_97 rfl rfl ?_
            refine q_iload hC 5 dX10_note_98 rfl ?_
            refine q_iload hC 6 dX10_note_100 rfl ?_
            obtain ⟨v17, q18, hx⟩ := gb_e hx
            refine q_ki (q_rV (As := [.int p1, .int p2, .int p3, .int p4, .int p5]) (rest := []) hC mm_X3_add wM_X10_204 (c_X3_add (by decide) q18) ⟨rfl, rfl, Nat.le_of_ble_eq_true rfl, Nat.le_of_ble_eq_true rfl⟩ (gV_h (by decide) (by decide)) rfl rfl rfl rfl (Nat.le_of_ble_eq_true rfl) dX10_note_102) ?_
            exact q_iret hC hF dX10_note_105 (Option.some.inj hx)
          · have hx := gi_n h16 hx
            refine q_aload_n hC 1 dX10_note_83 rfl rfl ?_
            obtain ⟨v19, q20, hx⟩ := gb_e hx
            refine q_ki (q_rV (As := []) (rest := []) hC mm_X10_refuseFull wM_X10_87 (c_X10_refuseFull q20) ⟨rfl, rfl, Nat.le_of_ble_eq_true rfl, Nat.le_of_ble_eq_true rfl⟩ (gV_t (by decide) (by decide)) rfl rfl rfl rfl (Nat.le_of_ble_eq_true rfl) dX10_note_84) ?_
            exact q_iret hC hF dX10_note_87 (Option.some.inj hx)
        · have hx := gi_p h15 hx
          exact q_sub [1] rfl (J61 N hx)
  have J33 : ∀ (N : gMem) , j_X10_note_33 M p1 p2 p3 p4 p5 N = some r → gWW X Y 7 33 [(0, .ref (gad Y 0 34)), (1, .int p1), (2, .int p2), (3, .int p3), (4, .int p4), (5, .int p5)] [] N := by
    intro N hx
    unfold j_X10_note_33 at hx
    refine q_iconst hC 0 dX10_note_33 rfl ?_
    exact q_sub [0, 1, 2, 3, 4, 5] rfl (J34 N 0 hx)
  unfold x_X10_note at hx
  refine q_aload_n hC 0 dX10_note_0 rfl rfl ?_
  refine gf_X10_61 hC dX10_note_1 ?_
  refine q_iload_n hC 1 dX10_note_4 rfl rfl ?_
  obtain ⟨v1, q2, hx⟩ := gb_e hx
  refine q_kzp (q_rV (As := [.int p1]) (rest := []) hC mm_X1_isGuest wM_X10_95 (c_X1_isGuest (by decide) q2) ⟨rfl, rfl, Nat.le_of_ble_eq_true rfl, Nat.le_of_ble_eq_true rfl⟩ (gV_h (by decide) (by decide)) rfl rfl rfl rfl (Nat.le_of_ble_eq_true rfl) dX10_note_5) (fun z3 => ?_)
  refine q_if_eq hC 33 dX10_note_8 rfl (fun h4 => ?_) (fun h4 => ?_)
  · have hx := gi_p h4 hx
    exact q_sub [0, 1, 2, 3, 4, 5] rfl (J33 M hx)
  · have hx := gi_n h4 hx
    refine q_iload_n hC 2 dX10_note_11 rfl rfl ?_
    refine q_bipush hC 6 dX10_note_12 rfl ?_
    obtain ⟨v21, q22, hx⟩ := gb_e hx
    refine q_kzp (q_rS (As := [.int p2, .int 6]) (rest := []) hC mm_X10_isBelow wM_X10_79 (c_X10_isBelow q22) ⟨rfl, rfl, Nat.le_of_ble_eq_true rfl, Nat.le_of_ble_eq_true rfl⟩ rfl rfl (Nat.le_of_ble_eq_true rfl) dX10_note_14) (fun z23 => ?_)
    refine q_if_eq hC 33 dX10_note_17 rfl (fun h24 => ?_) (fun h24 => ?_)
    · have hx := gi_p h24 hx
      exact q_sub [0, 1, 2, 3, 4, 5] rfl (J33 M hx)
    · have hx := gi_n h24 hx
      refine q_iload_n hC 3 dX10_note_20 rfl rfl ?_
      refine q_bipush hC 8 dX10_note_21 rfl ?_
      obtain ⟨v25, q26, hx⟩ := gb_e hx
      refine q_kzp (q_rS (As := [.int p3, .int 8]) (rest := []) hC mm_X10_isBelow wM_X10_79 (c_X10_isBelow q26) ⟨rfl, rfl, Nat.le_of_ble_eq_true rfl, Nat.le_of_ble_eq_true rfl⟩ rfl rfl (Nat.le_of_ble_eq_true rfl) dX10_note_23) (fun z27 => ?_)
      refine q_if_eq hC 33 dX10_note_26 rfl (fun h28 => ?_) (fun h28 => ?_)
      · have hx := gi_p h28 hx
        exact q_sub [0, 1, 2, 3, 4, 5] rfl (J33 M hx)
      · have hx := gi_n h28 hx
        refine q_iconst hC 1 dX10_note_29 rfl ?_
        refine q_goto hC 34 dX10_note_30 rfl ?_
        exact q_sub [0, 1, 2, 3, 4, 5] rfl (J34 M 1 hx)

theorem dX10_forget_0 : decode cX10_forget 0 = .ok (.aload_n 0, 1) := by decide +kernel
theorem dX10_forget_1 : decode cX10_forget 1 = .ok (.getfield 61, 3) := by decide +kernel
theorem dX10_forget_4 : decode cX10_forget 4 = .ok (.getfield 197, 3) := by decide +kernel
theorem dX10_forget_7 : decode cX10_forget 7 = .ok (.getfield 201, 3) := by decide +kernel
theorem dX10_forget_10 : decode cX10_forget 10 = .ok (.istore_n 1, 1) := by decide +kernel
theorem dX10_forget_11 : decode cX10_forget 11 = .ok (.aload_n 0, 1) := by decide +kernel
theorem dX10_forget_12 : decode cX10_forget 12 = .ok (.getfield 61, 3) := by decide +kernel
theorem dX10_forget_15 : decode cX10_forget 15 = .ok (.getfield 197, 3) := by decide +kernel
theorem dX10_forget_18 : decode cX10_forget 18 = .ok (.iconst 0, 1) := by decide +kernel
theorem dX10_forget_19 : decode cX10_forget 19 = .ok (.putfield 201, 3) := by decide +kernel
theorem dX10_forget_22 : decode cX10_forget 22 = .ok (.iload_n 1, 1) := by decide +kernel
theorem dX10_forget_23 : decode cX10_forget 23 = .ok (.ireturn, 1) := by decide +kernel
def x_X10_forget (M : gMem) : Option (Int32 × gMem) := some (M.1 0 6 1, gwr M 0 6 1 0)
set_option maxRecDepth 100000 in
set_option maxHeartbeats 4000000 in
theorem c_X10_forget {l : Launch} {Y : gY} {M : gMem} {r : (Int32 × gMem)} (hx : x_X10_forget M = some r) : Met l yX10_forget (gws yX10_forget cX10_forget 2 (some .int)) { frames := 0, cells := 0, slots := 0, locals := 0 } (va_Pc [.ref (gad Y 0 34)] (gS0 Y M)) (gQi Y r) 0 0 (gA Y) := by
  refine gmet (lv := [(0, .ref (gad Y 0 34))]) "GuestStaff" (by decide) rfl (Nat.le_of_ble_eq_true rfl) rfl (fun X hC hF => ?_)
  unfold x_X10_forget at hx
  refine q_aload_n hC 0 dX10_forget_0 rfl rfl ?_
  refine gf_X10_61 hC dX10_forget_1 ?_
  refine gf_X10_197 hC (by decide) dX10_forget_4 ?_
  refine gf_X10_201 hC (by decide) dX10_forget_7 ?_
  refine q_istore_n hC [(1, .int (M.1 0 6 1)), (0, .ref (gad Y 0 34))] dX10_forget_10 rfl (by decide) rfl ?_
  refine q_aload_n hC 1 dX10_forget_11 rfl rfl ?_
  refine gf_X10_61 hC dX10_forget_12 ?_
  refine gf_X10_197 hC (by decide) dX10_forget_15 ?_
  refine q_iconst hC 0 dX10_forget_18 rfl ?_
  refine pf_X10_201 hC (by decide) dX10_forget_19 ?_
  refine q_iload_n hC 0 dX10_forget_22 rfl rfl ?_
  exact q_iret hC hF dX10_forget_23 (Option.some.inj hx)

theorem dX10_wants_0 : decode cX10_wants 0 = .ok (.aload_n 0, 1) := by decide +kernel
theorem dX10_wants_1 : decode cX10_wants 1 = .ok (.getfield 61, 3) := by decide +kernel
theorem dX10_wants_4 : decode cX10_wants 4 = .ok (.iload_n 1, 1) := by decide +kernel
theorem dX10_wants_5 : decode cX10_wants 5 = .ok (.invokevirtual 95, 3) := by decide +kernel
theorem dX10_wants_8 : decode cX10_wants 8 = .ok (.ifCond .ne 10, 3) := by decide +kernel
theorem dX10_wants_11 : decode cX10_wants 11 = .ok (.aload_n 0, 1) := by decide +kernel
theorem dX10_wants_12 : decode cX10_wants 12 = .ok (.bipush (-2), 2) := by decide +kernel
theorem dX10_wants_14 : decode cX10_wants 14 = .ok (.invokevirtual 83, 3) := by decide +kernel
theorem dX10_wants_17 : decode cX10_wants 17 = .ok (.ireturn, 1) := by decide +kernel
theorem dX10_wants_18 : decode cX10_wants 18 = .ok (.aload_n 0, 1) := by decide +kernel
theorem dX10_wants_19 : decode cX10_wants 19 = .ok (.getfield 61, 3) := by decide +kernel
theorem dX10_wants_22 : decode cX10_wants 22 = .ok (.iload_n 1, 1) := by decide +kernel
theorem dX10_wants_23 : decode cX10_wants 23 = .ok (.aload_n 0, 1) := by decide +kernel
theorem dX10_wants_24 : decode cX10_wants 24 = .ok (.getfield 61, 3) := by decide +kernel
theorem dX10_wants_27 : decode cX10_wants 27 = .ok (.getfield 140, 3) := by decide +kernel
theorem dX10_wants_30 : decode cX10_wants 30 = .ok (.iload_n 1, 1) := by decide +kernel
theorem dX10_wants_31 : decode cX10_wants 31 = .ok (.iaload, 1) := by decide +kernel
theorem dX10_wants_32 : decode cX10_wants 32 = .ok (.invokevirtual 208, 3) := by decide +kernel
theorem dX10_wants_35 : decode cX10_wants 35 = .ok (.ireturn, 1) := by decide +kernel
def x_X10_wants (M : gMem) (p1 : Int32) : Option (Int32 × gMem) := Option.bind (x_X1_isGuest M 0 p1) (fun v1 => (if v1 = 0 then Option.bind (x_X10_refuseBad M (-2)) (fun v8 => some (v8.1, v8.2)) else gd (gin p1 7) (Option.bind (x_X1_wantsThatFit M 0 p1 (M.1 0 1 (p1).toNatClampNeg)) (fun v6 => some (v6, M)))))
set_option maxRecDepth 100000 in
set_option maxHeartbeats 4000000 in
theorem c_X10_wants {l : Launch} {Y : gY} {M : gMem} {p1 : Int32} {r : (Int32 × gMem)} (hx : x_X10_wants M p1 = some r) : Met l yX10_wants (gws yX10_wants cX10_wants 2 (some .int)) { frames := 7, cells := 0, slots := 0, locals := 160 } (va_Pc [.ref (gad Y 0 34), .int p1] (gS0 Y M)) (gQi Y r) 0 0 (gA Y) := by
  refine gmet (lv := [(0, .ref (gad Y 0 34)), (1, .int p1)]) "GuestStaff" (by decide) rfl (Nat.le_of_ble_eq_true rfl) rfl (fun X hC hF => ?_)
  unfold x_X10_wants at hx
  refine q_aload_n hC 0 dX10_wants_0 rfl rfl ?_
  refine gf_X10_61 hC dX10_wants_1 ?_
  refine q_iload_n hC 1 dX10_wants_4 rfl rfl ?_
  obtain ⟨v1, q2, hx⟩ := gb_e hx
  refine q_kzp (q_rV (As := [.int p1]) (rest := []) hC mm_X1_isGuest wM_X10_95 (c_X1_isGuest (by decide) q2) ⟨rfl, rfl, Nat.le_of_ble_eq_true rfl, Nat.le_of_ble_eq_true rfl⟩ (gV_h (by decide) (by decide)) rfl rfl rfl rfl (Nat.le_of_ble_eq_true rfl) dX10_wants_5) (fun z3 => ?_)
  refine q_if_ne hC 18 dX10_wants_8 rfl (fun h4 => ?_) (fun h4 => ?_)
  · have hx := gi_n h4 hx
    refine q_aload_n hC 0 dX10_wants_18 rfl rfl ?_
    refine gf_X10_61 hC dX10_wants_19 ?_
    refine q_iload_n hC 1 dX10_wants_22 rfl rfl ?_
    refine q_aload_n hC 0 dX10_wants_23 rfl rfl ?_
    refine gf_X10_61 hC dX10_wants_24 ?_
    refine gf_X10_140 hC (by decide) dX10_wants_27 ?_
    refine q_iload_n hC 1 dX10_wants_30 rfl rfl ?_
    have g5 := (gd_e hx).1
    have hx := (gd_e hx).2
    refine q_iald hC 6 (gV_h (by decide) (by decide)) rfl g5 dX10_wants_31 ?_
    obtain ⟨v6, q7, hx⟩ := gb_e hx
    refine q_kip (q_rV (As := [.int p1, .int (M.1 0 1 (p1).toNatClampNeg)]) (rest := []) hC mm_X1_wantsThatFit wM_X10_208 (c_X1_wantsThatFit (by decide) q7) ⟨rfl, rfl, Nat.le_of_ble_eq_true rfl, Nat.le_of_ble_eq_true rfl⟩ (gV_h (by decide) (by decide)) rfl rfl rfl rfl (Nat.le_of_ble_eq_true rfl) dX10_wants_32) ?_
    exact q_iret hC hF dX10_wants_35 (Option.some.inj hx)
  · have hx := gi_p h4 hx
    refine q_aload_n hC 0 dX10_wants_11 rfl rfl ?_
    refine q_bipush hC (-2) dX10_wants_12 rfl ?_
    obtain ⟨v8, q9, hx⟩ := gb_e hx
    refine q_ki (q_rV (As := [.int (-2)]) (rest := []) hC mm_X10_refuseBad wM_X10_83 (c_X10_refuseBad q9) ⟨rfl, rfl, Nat.le_of_ble_eq_true rfl, Nat.le_of_ble_eq_true rfl⟩ (gV_t (by decide) (by decide)) rfl rfl rfl rfl (Nat.le_of_ble_eq_true rfl) dX10_wants_14) ?_
    exact q_iret hC hF dX10_wants_17 (Option.some.inj hx)

theorem dX10_is_0 : decode cX10_is 0 = .ok (.aload_n 0, 1) := by decide +kernel
theorem dX10_is_1 : decode cX10_is 1 = .ok (.getfield 61, 3) := by decide +kernel
theorem dX10_is_4 : decode cX10_is 4 = .ok (.iload_n 1, 1) := by decide +kernel
theorem dX10_is_5 : decode cX10_is 5 = .ok (.invokevirtual 95, 3) := by decide +kernel
theorem dX10_is_8 : decode cX10_is 8 = .ok (.ifCond .ne 10, 3) := by decide +kernel
theorem dX10_is_11 : decode cX10_is 11 = .ok (.aload_n 0, 1) := by decide +kernel
theorem dX10_is_12 : decode cX10_is 12 = .ok (.bipush (-2), 2) := by decide +kernel
theorem dX10_is_14 : decode cX10_is 14 = .ok (.invokevirtual 83, 3) := by decide +kernel
theorem dX10_is_17 : decode cX10_is 17 = .ok (.ireturn, 1) := by decide +kernel
theorem dX10_is_18 : decode cX10_is 18 = .ok (.iconst 0, 1) := by decide +kernel
theorem dX10_is_19 : decode cX10_is 19 = .ok (.istore_n 2, 1) := by decide +kernel
theorem dX10_is_20 : decode cX10_is 20 = .ok (.iconst 0, 1) := by decide +kernel
theorem dX10_is_21 : decode cX10_is 21 = .ok (.istore_n 3, 1) := by decide +kernel
theorem dX10_is_22 : decode cX10_is 22 = .ok (.iload_n 3, 1) := by decide +kernel
theorem dX10_is_23 : decode cX10_is 23 = .ok (.bipush 6, 2) := by decide +kernel
theorem dX10_is_25 : decode cX10_is 25 = .ok (.if_icmp .ge 27, 3) := by decide +kernel
theorem dX10_is_28 : decode cX10_is 28 = .ok (.aload_n 0, 1) := by decide +kernel
theorem dX10_is_29 : decode cX10_is 29 = .ok (.getfield 61, 3) := by decide +kernel
theorem dX10_is_32 : decode cX10_is 32 = .ok (.iload_n 1, 1) := by decide +kernel
theorem dX10_is_33 : decode cX10_is 33 = .ok (.iload_n 3, 1) := by decide +kernel
theorem dX10_is_34 : decode cX10_is 34 = .ok (.invokevirtual 208, 3) := by decide +kernel
theorem dX10_is_37 : decode cX10_is 37 = .ok (.ifCond .eq 9, 3) := by decide +kernel
theorem dX10_is_40 : decode cX10_is 40 = .ok (.iload_n 2, 1) := by decide +kernel
theorem dX10_is_41 : decode cX10_is 41 = .ok (.iconst 1, 1) := by decide +kernel
theorem dX10_is_42 : decode cX10_is 42 = .ok (.iload_n 3, 1) := by decide +kernel
theorem dX10_is_43 : decode cX10_is 43 = .ok (.ishl, 1) := by decide +kernel
theorem dX10_is_44 : decode cX10_is 44 = .ok (.ior, 1) := by decide +kernel
theorem dX10_is_45 : decode cX10_is 45 = .ok (.istore_n 2, 1) := by decide +kernel
theorem dX10_is_46 : decode cX10_is 46 = .ok (.iinc 3 1, 3) := by decide +kernel
theorem dX10_is_49 : decode cX10_is 49 = .ok (.goto (-27), 3) := by decide +kernel
theorem dX10_is_52 : decode cX10_is 52 = .ok (.iload_n 2, 1) := by decide +kernel
theorem dX10_is_53 : decode cX10_is 53 = .ok (.ireturn, 1) := by decide +kernel
def j_X10_is_22_46 (M : gMem) (a1 : Int32) (b2 : Int32) (b3 : Int32) : Option ((Int32 × Int32) ⊕ (Int32 × Int32)) := some (.inl (b2, b3 + 1))
def s_X10_is_22 (M : gMem) (a1 : Int32) (b2 : Int32) (b3 : Int32) : Option ((Int32 × Int32) ⊕ (Int32 × Int32)) := (if 6 ≤ b3 then some (.inr (b2, b3)) else Option.bind (x_X1_wantsThatFit M 0 a1 b3) (fun v6 => (if v6 = 0 then j_X10_is_22_46 M a1 b2 b3 else j_X10_is_22_46 M a1 (b2 ||| (1 <<< (b3 &&& 31))) b3)))
def x_X10_is (M : gMem) (p1 : Int32) : Option (Int32 × gMem) := Option.bind (x_X1_isGuest M 0 p1) (fun v1 => (if v1 = 0 then Option.bind (x_X10_refuseBad M (-2)) (fun v10 => some (v10.1, v10.2)) else Option.bind (itr FU (fun s => s_X10_is_22 M p1 s.1 s.2) (0, 0)) (fun e9 => some (e9.1, M))))
set_option maxRecDepth 100000 in
set_option maxHeartbeats 4000000 in
theorem w_X10_is_22 {X : gX} {Y : gY} {M : gMem} {a1 : Int32} {r : (Int32 × gMem)} (hC : gC X Y cX10_is "GuestStaff" 4 7 160) (hF : gF X Y (some .int) (gQi Y r)) {e : (Int32 × Int32)} (kE : ∀ s : (Int32 × Int32), e = s → gWW X Y 4 52 [(2, .int s.1)] [] M) : ∀ (F : Nat) (s : (Int32 × Int32)), itr F (fun s => s_X10_is_22 M a1 s.1 s.2) s = some e → gWW X Y 4 22 [(0, .ref (gad Y 0 34)), (1, .int a1), (2, .int s.1), (3, .int s.2)] [] M := by
  intro F s
  refine itr_w (P := fun s => gWW X Y 4 22 [(0, .ref (gad Y 0 34)), (1, .int a1), (2, .int s.1), (3, .int s.2)] [] M) (fun s o hx kI kx => ?_) F s
  obtain ⟨b2, b3⟩ := s
  have hx : s_X10_is_22 M a1 b2 b3 = some o := hx
  have kE : ∀ s : (Int32 × Int32), o = .inr s → gWW X Y 4 52 [(2, .int s.1)] [] M := fun s q => kE s (kx _ q).symm
  have J46 : ∀ (b2 : Int32) (b3 : Int32) , j_X10_is_22_46 M a1 b2 b3 = some o → gWW X Y 4 46 [(0, .ref (gad Y 0 34)), (1, .int a1), (2, .int b2), (3, .int b3)] [] M := by
    intro b2 b3 hx
    unfold j_X10_is_22_46 at hx
    refine q_iinc hC 3 1 [(3, .int (b3 + 1)), (0, .ref (gad Y 0 34)), (1, .int a1), (2, .int b2)] dX10_is_46 rfl rfl (by decide) rfl ?_
    refine q_goto hC 22 dX10_is_49 rfl ?_
    exact q_sub [1, 2, 3, 0] rfl (kI (b2, b3 + 1) (Option.some.inj hx).symm)
  unfold s_X10_is_22 at hx
  refine q_iload_n hC 3 dX10_is_22 rfl rfl ?_
  refine q_bipush hC 6 dX10_is_23 rfl ?_
  refine q_ic_ge hC 52 dX10_is_25 rfl (fun h5 => ?_) (fun h5 => ?_)
  · have hx := gi_p h5 hx
    exact q_sub [2] rfl (kE (b2, b3) (Option.some.inj hx).symm)
  · have hx := gi_n h5 hx
    refine q_aload_n hC 0 dX10_is_28 rfl rfl ?_
    refine gf_X10_61 hC dX10_is_29 ?_
    refine q_iload_n hC 1 dX10_is_32 rfl rfl ?_
    refine q_iload_n hC 3 dX10_is_33 rfl rfl ?_
    obtain ⟨v6, q7, hx⟩ := gb_e hx
    refine q_kip (q_rV (As := [.int a1, .int b3]) (rest := []) hC mm_X1_wantsThatFit wM_X10_208 (c_X1_wantsThatFit (by decide) q7) ⟨rfl, rfl, Nat.le_of_ble_eq_true rfl, Nat.le_of_ble_eq_true rfl⟩ (gV_h (by decide) (by decide)) rfl rfl rfl rfl (Nat.le_of_ble_eq_true rfl) dX10_is_34) ?_
    refine q_if_eq hC 46 dX10_is_37 rfl (fun h8 => ?_) (fun h8 => ?_)
    · have hx := gi_p h8 hx
      exact q_sub [0, 1, 2, 3] rfl (J46 b2 b3 hx)
    · have hx := gi_n h8 hx
      refine q_iload_n hC 2 dX10_is_40 rfl rfl ?_
      refine q_iconst hC 1 dX10_is_41 rfl ?_
      refine q_iload_n hC 3 dX10_is_42 rfl rfl ?_
      refine q_ishl hC dX10_is_43 ?_
      refine q_ior hC dX10_is_44 ?_
      refine q_istore_n hC [(2, .int (b2 ||| (1 <<< (b3 &&& 31)))), (0, .ref (gad Y 0 34)), (1, .int a1), (3, .int b3)] dX10_is_45 rfl (by decide) rfl ?_
      exact q_sub [1, 2, 0, 3] rfl (J46 (b2 ||| (1 <<< (b3 &&& 31))) b3 hx)
set_option maxRecDepth 100000 in
set_option maxHeartbeats 4000000 in
theorem c_X10_is {l : Launch} {Y : gY} {M : gMem} {p1 : Int32} {r : (Int32 × gMem)} (hx : x_X10_is M p1 = some r) : Met l yX10_is (gws yX10_is cX10_is 4 (some .int)) { frames := 7, cells := 0, slots := 0, locals := 160 } (va_Pc [.ref (gad Y 0 34), .int p1] (gS0 Y M)) (gQi Y r) 0 0 (gA Y) := by
  refine gmet (lv := [(0, .ref (gad Y 0 34)), (1, .int p1)]) "GuestStaff" (by decide) rfl (Nat.le_of_ble_eq_true rfl) rfl (fun X hC hF => ?_)
  unfold x_X10_is at hx
  refine q_aload_n hC 0 dX10_is_0 rfl rfl ?_
  refine gf_X10_61 hC dX10_is_1 ?_
  refine q_iload_n hC 1 dX10_is_4 rfl rfl ?_
  obtain ⟨v1, q2, hx⟩ := gb_e hx
  refine q_kzp (q_rV (As := [.int p1]) (rest := []) hC mm_X1_isGuest wM_X10_95 (c_X1_isGuest (by decide) q2) ⟨rfl, rfl, Nat.le_of_ble_eq_true rfl, Nat.le_of_ble_eq_true rfl⟩ (gV_h (by decide) (by decide)) rfl rfl rfl rfl (Nat.le_of_ble_eq_true rfl) dX10_is_5) (fun z3 => ?_)
  refine q_if_ne hC 18 dX10_is_8 rfl (fun h4 => ?_) (fun h4 => ?_)
  · have hx := gi_n h4 hx
    refine q_iconst hC 0 dX10_is_18 rfl ?_
    refine q_istore_n hC [(2, .int 0), (0, .ref (gad Y 0 34)), (1, .int p1)] dX10_is_19 rfl (by decide) rfl ?_
    refine q_iconst hC 0 dX10_is_20 rfl ?_
    refine q_istore_n hC [(3, .int 0), (2, .int 0), (0, .ref (gad Y 0 34)), (1, .int p1)] dX10_is_21 rfl (by decide) rfl ?_
    obtain ⟨e9, qe9, hx⟩ := gb_e hx
    refine q_sub [2, 3, 1, 0] rfl (w_X10_is_22 hC hF (e := e9) (fun s q => ?_) _ _ qe9)
    · subst q
      refine q_iload_n hC 0 dX10_is_52 rfl rfl ?_
      exact q_iret hC hF dX10_is_53 (Option.some.inj hx)
  · have hx := gi_p h4 hx
    refine q_aload_n hC 0 dX10_is_11 rfl rfl ?_
    refine q_bipush hC (-2) dX10_is_12 rfl ?_
    obtain ⟨v10, q11, hx⟩ := gb_e hx
    refine q_ki (q_rV (As := [.int (-2)]) (rest := []) hC mm_X10_refuseBad wM_X10_83 (c_X10_refuseBad q11) ⟨rfl, rfl, Nat.le_of_ble_eq_true rfl, Nat.le_of_ble_eq_true rfl⟩ (gV_t (by decide) (by decide)) rfl rfl rfl rfl (Nat.le_of_ble_eq_true rfl) dX10_is_14) ?_
    exact q_iret hC hF dX10_is_17 (Option.some.inj hx)

theorem dX10_next_0 : decode cX10_next 0 = .ok (.aload_n 0, 1) := by decide +kernel
theorem dX10_next_1 : decode cX10_next 1 = .ok (.getfield 61, 3) := by decide +kernel
theorem dX10_next_4 : decode cX10_next 4 = .ok (.iload_n 1, 1) := by decide +kernel
theorem dX10_next_5 : decode cX10_next 5 = .ok (.invokevirtual 95, 3) := by decide +kernel
theorem dX10_next_8 : decode cX10_next 8 = .ok (.ifCond .ne 10, 3) := by decide +kernel
theorem dX10_next_11 : decode cX10_next 11 = .ok (.aload_n 0, 1) := by decide +kernel
theorem dX10_next_12 : decode cX10_next 12 = .ok (.bipush (-2), 2) := by decide +kernel
theorem dX10_next_14 : decode cX10_next 14 = .ok (.invokevirtual 83, 3) := by decide +kernel
theorem dX10_next_17 : decode cX10_next 17 = .ok (.ireturn, 1) := by decide +kernel
theorem dX10_next_18 : decode cX10_next 18 = .ok (.aload_n 0, 1) := by decide +kernel
theorem dX10_next_19 : decode cX10_next 19 = .ok (.getfield 61, 3) := by decide +kernel
theorem dX10_next_22 : decode cX10_next 22 = .ok (.iload_n 1, 1) := by decide +kernel
theorem dX10_next_23 : decode cX10_next 23 = .ok (.aload_n 0, 1) := by decide +kernel
theorem dX10_next_24 : decode cX10_next 24 = .ok (.getfield 61, 3) := by decide +kernel
theorem dX10_next_27 : decode cX10_next 27 = .ok (.getfield 140, 3) := by decide +kernel
theorem dX10_next_30 : decode cX10_next 30 = .ok (.iload_n 1, 1) := by decide +kernel
theorem dX10_next_31 : decode cX10_next 31 = .ok (.iaload, 1) := by decide +kernel
theorem dX10_next_32 : decode cX10_next 32 = .ok (.invokevirtual 208, 3) := by decide +kernel
theorem dX10_next_35 : decode cX10_next 35 = .ok (.istore_n 2, 1) := by decide +kernel
theorem dX10_next_36 : decode cX10_next 36 = .ok (.iconst (-1), 1) := by decide +kernel
theorem dX10_next_37 : decode cX10_next 37 = .ok (.istore_n 3, 1) := by decide +kernel
theorem dX10_next_38 : decode cX10_next 38 = .ok (.bipush 9, 2) := by decide +kernel
theorem dX10_next_40 : decode cX10_next 40 = .ok (.istore 4, 2) := by decide +kernel
theorem dX10_next_42 : decode cX10_next 42 = .ok (.iconst 0, 1) := by decide +kernel
theorem dX10_next_43 : decode cX10_next 43 = .ok (.istore 5, 2) := by decide +kernel
theorem dX10_next_45 : decode cX10_next 45 = .ok (.iload 5, 2) := by decide +kernel
theorem dX10_next_47 : decode cX10_next 47 = .ok (.bipush 8, 2) := by decide +kernel
theorem dX10_next_49 : decode cX10_next 49 = .ok (.if_icmp .ge 52, 3) := by decide +kernel
theorem dX10_next_52 : decode cX10_next 52 = .ok (.iload_n 2, 1) := by decide +kernel
theorem dX10_next_53 : decode cX10_next 53 = .ok (.ifCond .eq 48, 3) := by decide +kernel
theorem dX10_next_56 : decode cX10_next 56 = .ok (.iload_n 2, 1) := by decide +kernel
theorem dX10_next_57 : decode cX10_next 57 = .ok (.iconst 1, 1) := by decide +kernel
theorem dX10_next_58 : decode cX10_next 58 = .ok (.iload 5, 2) := by decide +kernel
theorem dX10_next_60 : decode cX10_next 60 = .ok (.ishl, 1) := by decide +kernel
theorem dX10_next_61 : decode cX10_next 61 = .ok (.iand, 1) := by decide +kernel
theorem dX10_next_62 : decode cX10_next 62 = .ok (.invokestatic 185, 3) := by decide +kernel
theorem dX10_next_65 : decode cX10_next 65 = .ok (.istore 6, 2) := by decide +kernel
theorem dX10_next_67 : decode cX10_next 67 = .ok (.iload 6, 2) := by decide +kernel
theorem dX10_next_69 : decode cX10_next 69 = .ok (.iload_n 2, 1) := by decide +kernel
theorem dX10_next_70 : decode cX10_next 70 = .ok (.invokestatic 185, 3) := by decide +kernel
theorem dX10_next_73 : decode cX10_next 73 = .ok (.iload 6, 2) := by decide +kernel
theorem dX10_next_75 : decode cX10_next 75 = .ok (.isub, 1) := by decide +kernel
theorem dX10_next_76 : decode cX10_next 76 = .ok (.invokestatic 211, 3) := by decide +kernel
theorem dX10_next_79 : decode cX10_next 79 = .ok (.istore 7, 2) := by decide +kernel
theorem dX10_next_81 : decode cX10_next 81 = .ok (.iload 7, 2) := by decide +kernel
theorem dX10_next_83 : decode cX10_next 83 = .ok (.iload 4, 2) := by decide +kernel
theorem dX10_next_85 : decode cX10_next 85 = .ok (.if_icmp .ge 10, 3) := by decide +kernel
theorem dX10_next_88 : decode cX10_next 88 = .ok (.iload 5, 2) := by decide +kernel
theorem dX10_next_90 : decode cX10_next 90 = .ok (.istore_n 3, 1) := by decide +kernel
theorem dX10_next_91 : decode cX10_next 91 = .ok (.iload 7, 2) := by decide +kernel
theorem dX10_next_93 : decode cX10_next 93 = .ok (.istore 4, 2) := by decide +kernel
theorem dX10_next_95 : decode cX10_next 95 = .ok (.iinc 5 1, 3) := by decide +kernel
theorem dX10_next_98 : decode cX10_next 98 = .ok (.goto (-53), 3) := by decide +kernel
theorem dX10_next_101 : decode cX10_next 101 = .ok (.iload_n 3, 1) := by decide +kernel
theorem dX10_next_102 : decode cX10_next 102 = .ok (.ireturn, 1) := by decide +kernel
def j_X10_next_45_95 (M : gMem) (a2 : Int32) (b3 : Int32) (b4 : Int32) (b5 : Int32) : Option ((Int32 × Int32 × Int32) ⊕ (Int32 × Int32 × Int32)) := some (.inl (b3, b4, b5 + 1))
def s_X10_next_45 (M : gMem) (a2 : Int32) (b3 : Int32) (b4 : Int32) (b5 : Int32) : Option ((Int32 × Int32 × Int32) ⊕ (Int32 × Int32 × Int32)) := (if 8 ≤ b5 then some (.inr (b3, b4, b5)) else (if a2 = 0 then some (.inr (b3, b4, b5)) else Option.bind (x_J6_bitCount_0f7a4 (a2 &&& (1 <<< (b5 &&& 31)))) (fun v10 => Option.bind (x_J6_bitCount_0f7a4 a2) (fun v12 => (if b4 ≤ (if v10 < (v12 - v10) then (v12 - v10) else v10) then j_X10_next_45_95 M a2 b3 b4 b5 else j_X10_next_45_95 M a2 b5 (if v10 < (v12 - v10) then (v12 - v10) else v10) b5)))))
def x_X10_next (M : gMem) (p1 : Int32) : Option (Int32 × gMem) := Option.bind (x_X1_isGuest M 0 p1) (fun v1 => (if v1 = 0 then Option.bind (x_X10_refuseBad M (-2)) (fun v16 => some (v16.1, v16.2)) else gd (gin p1 7) (Option.bind (x_X1_wantsThatFit M 0 p1 (M.1 0 1 (p1).toNatClampNeg)) (fun v6 => Option.bind (itr FU (fun s => s_X10_next_45 M v6 s.1 s.2.1 s.2.2) ((-1), 9, 0)) (fun e15 => some (e15.1, M))))))
set_option maxRecDepth 100000 in
set_option maxHeartbeats 4000000 in
theorem w_X10_next_45 {X : gX} {Y : gY} {M : gMem} {a2 : Int32} {r : (Int32 × gMem)} (hC : gC X Y cX10_next "GuestStaff" 8 7 160) (hF : gF X Y (some .int) (gQi Y r)) {e : (Int32 × Int32 × Int32)} (kE : ∀ s : (Int32 × Int32 × Int32), e = s → gWW X Y 8 101 [(3, .int s.1)] [] M) : ∀ (F : Nat) (s : (Int32 × Int32 × Int32)), itr F (fun s => s_X10_next_45 M a2 s.1 s.2.1 s.2.2) s = some e → gWW X Y 8 45 [(2, .int a2), (3, .int s.1), (4, .int s.2.1), (5, .int s.2.2)] [] M := by
  intro F s
  refine itr_w (P := fun s => gWW X Y 8 45 [(2, .int a2), (3, .int s.1), (4, .int s.2.1), (5, .int s.2.2)] [] M) (fun s o hx kI kx => ?_) F s
  obtain ⟨b3, b4, b5⟩ := s
  have hx : s_X10_next_45 M a2 b3 b4 b5 = some o := hx
  have kE : ∀ s : (Int32 × Int32 × Int32), o = .inr s → gWW X Y 8 101 [(3, .int s.1)] [] M := fun s q => kE s (kx _ q).symm
  have J95 : ∀ (b3 : Int32) (b4 : Int32) (b5 : Int32) , j_X10_next_45_95 M a2 b3 b4 b5 = some o → gWW X Y 8 95 [(2, .int a2), (3, .int b3), (4, .int b4), (5, .int b5)] [] M := by
    intro b3 b4 b5 hx
    unfold j_X10_next_45_95 at hx
    refine q_iinc hC 3 1 [(5, .int (b5 + 1)), (2, .int a2), (3, .int b3), (4, .int b4)] dX10_next_95 rfl rfl (by decide) rfl ?_
    refine q_goto hC 45 dX10_next_98 rfl ?_
    exact q_sub [1, 2, 3, 0] rfl (kI (b3, b4, b5 + 1) (Option.some.inj hx).symm)
  unfold s_X10_next_45 at hx
  refine q_iload hC 3 dX10_next_45 rfl ?_
  refine q_bipush hC 8 dX10_next_47 rfl ?_
  refine q_ic_ge hC 101 dX10_next_49 rfl (fun h8 => ?_) (fun h8 => ?_)
  · have hx := gi_p h8 hx
    exact q_sub [1] rfl (kE (b3, b4, b5) (Option.some.inj hx).symm)
  · have hx := gi_n h8 hx
    refine q_iload_n hC 0 dX10_next_52 rfl rfl ?_
    refine q_if_eq hC 101 dX10_next_53 rfl (fun h9 => ?_) (fun h9 => ?_)
    · have hx := gi_p h9 hx
      exact q_sub [1] rfl (kE (b3, b4, b5) (Option.some.inj hx).symm)
    · have hx := gi_n h9 hx
      refine q_iload_n hC 0 dX10_next_56 rfl rfl ?_
      refine q_iconst hC 1 dX10_next_57 rfl ?_
      refine q_iload hC 3 dX10_next_58 rfl ?_
      refine q_ishl hC dX10_next_60 ?_
      refine q_iand hC dX10_next_61 ?_
      obtain ⟨v10, q11, hx⟩ := gb_e hx
      refine q_kip (q_rS (As := [.int (a2 &&& (1 <<< (b5 &&& 31)))]) (rest := []) hC mm_J6_bitCount_0f7a4 wM_X10_185 (c_J6_bitCount_0f7a4 q11) ⟨rfl, rfl, Nat.le_of_ble_eq_true rfl, Nat.le_of_ble_eq_true rfl⟩ rfl rfl (Nat.le_of_ble_eq_true rfl) dX10_next_62) ?_
      refine q_istore hC [(6, .int v10), (2, .int a2), (3, .int b3), (4, .int b4), (5, .int b5)] dX10_next_65 (by decide) rfl ?_
      refine q_iload hC 0 dX10_next_67 rfl ?_
      refine q_iload_n hC 1 dX10_next_69 rfl rfl ?_
      obtain ⟨v12, q13, hx⟩ := gb_e hx
      refine q_kip (q_rS (As := [.int a2]) (rest := [.int v10]) hC mm_J6_bitCount_0f7a4 wM_X10_185 (c_J6_bitCount_0f7a4 q13) ⟨rfl, rfl, Nat.le_of_ble_eq_true rfl, Nat.le_of_ble_eq_true rfl⟩ rfl rfl (Nat.le_of_ble_eq_true rfl) dX10_next_70) ?_
      refine q_iload hC 0 dX10_next_73 rfl ?_
      refine q_isub hC dX10_next_75 ?_
      refine q_max hC wM_X10_211 (by decide) (Nat.le_of_ble_eq_true rfl) dX10_next_76 ?_
      refine q_istore hC [(7, .int (if v10 < (v12 - v10) then (v12 - v10) else v10)), (6, .int v10), (2, .int a2), (3, .int b3), (4, .int b4), (5, .int b5)] dX10_next_79 (by decide) rfl ?_
      refine q_iload hC 0 dX10_next_81 rfl ?_
      refine q_iload hC 4 dX10_next_83 rfl ?_
      refine q_ic_ge hC 95 dX10_next_85 rfl (fun h14 => ?_) (fun h14 => ?_)
      · have hx := gi_p h14 hx
        exact q_sub [2, 3, 4, 5] rfl (J95 b3 b4 b5 hx)
      · have hx := gi_n h14 hx
        refine q_iload hC 5 dX10_next_88 rfl ?_
        refine q_istore_n hC [(3, .int b5), (7, .int (if v10 < (v12 - v10) then (v12 - v10) else v10)), (6, .int v10), (2, .int a2), (4, .int b4), (5, .int b5)] dX10_next_90 rfl (by decide) rfl ?_
        refine q_iload hC 1 dX10_next_91 rfl ?_
        refine q_istore hC [(4, .int (if v10 < (v12 - v10) then (v12 - v10) else v10)), (3, .int b5), (7, .int (if v10 < (v12 - v10) then (v12 - v10) else v10)), (6, .int v10), (2, .int a2), (5, .int b5)] dX10_next_93 (by decide) rfl ?_
        exact q_sub [4, 1, 0, 5] rfl (J95 b5 (if v10 < (v12 - v10) then (v12 - v10) else v10) b5 hx)
set_option maxRecDepth 100000 in
set_option maxHeartbeats 4000000 in
theorem c_X10_next {l : Launch} {Y : gY} {M : gMem} {p1 : Int32} {r : (Int32 × gMem)} (hx : x_X10_next M p1 = some r) : Met l yX10_next (gws yX10_next cX10_next 8 (some .int)) { frames := 7, cells := 0, slots := 0, locals := 160 } (va_Pc [.ref (gad Y 0 34), .int p1] (gS0 Y M)) (gQi Y r) 0 0 (gA Y) := by
  refine gmet (lv := [(0, .ref (gad Y 0 34)), (1, .int p1)]) "GuestStaff" (by decide) rfl (Nat.le_of_ble_eq_true rfl) rfl (fun X hC hF => ?_)
  unfold x_X10_next at hx
  refine q_aload_n hC 0 dX10_next_0 rfl rfl ?_
  refine gf_X10_61 hC dX10_next_1 ?_
  refine q_iload_n hC 1 dX10_next_4 rfl rfl ?_
  obtain ⟨v1, q2, hx⟩ := gb_e hx
  refine q_kzp (q_rV (As := [.int p1]) (rest := []) hC mm_X1_isGuest wM_X10_95 (c_X1_isGuest (by decide) q2) ⟨rfl, rfl, Nat.le_of_ble_eq_true rfl, Nat.le_of_ble_eq_true rfl⟩ (gV_h (by decide) (by decide)) rfl rfl rfl rfl (Nat.le_of_ble_eq_true rfl) dX10_next_5) (fun z3 => ?_)
  refine q_if_ne hC 18 dX10_next_8 rfl (fun h4 => ?_) (fun h4 => ?_)
  · have hx := gi_n h4 hx
    refine q_aload_n hC 0 dX10_next_18 rfl rfl ?_
    refine gf_X10_61 hC dX10_next_19 ?_
    refine q_iload_n hC 1 dX10_next_22 rfl rfl ?_
    refine q_aload_n hC 0 dX10_next_23 rfl rfl ?_
    refine gf_X10_61 hC dX10_next_24 ?_
    refine gf_X10_140 hC (by decide) dX10_next_27 ?_
    refine q_iload_n hC 1 dX10_next_30 rfl rfl ?_
    have g5 := (gd_e hx).1
    have hx := (gd_e hx).2
    refine q_iald hC 6 (gV_h (by decide) (by decide)) rfl g5 dX10_next_31 ?_
    obtain ⟨v6, q7, hx⟩ := gb_e hx
    refine q_kip (q_rV (As := [.int p1, .int (M.1 0 1 (p1).toNatClampNeg)]) (rest := []) hC mm_X1_wantsThatFit wM_X10_208 (c_X1_wantsThatFit (by decide) q7) ⟨rfl, rfl, Nat.le_of_ble_eq_true rfl, Nat.le_of_ble_eq_true rfl⟩ (gV_h (by decide) (by decide)) rfl rfl rfl rfl (Nat.le_of_ble_eq_true rfl) dX10_next_32) ?_
    refine q_istore_n hC [(2, .int v6), (0, .ref (gad Y 0 34)), (1, .int p1)] dX10_next_35 rfl (by decide) rfl ?_
    refine q_iconst hC (-1) dX10_next_36 rfl ?_
    refine q_istore_n hC [(3, .int (-1)), (2, .int v6), (0, .ref (gad Y 0 34)), (1, .int p1)] dX10_next_37 rfl (by decide) rfl ?_
    refine q_bipush hC 9 dX10_next_38 rfl ?_
    refine q_istore hC [(4, .int 9), (3, .int (-1)), (2, .int v6), (0, .ref (gad Y 0 34)), (1, .int p1)] dX10_next_40 (by decide) rfl ?_
    refine q_iconst hC 0 dX10_next_42 rfl ?_
    refine q_istore hC [(5, .int 0), (4, .int 9), (3, .int (-1)), (2, .int v6), (0, .ref (gad Y 0 34)), (1, .int p1)] dX10_next_43 (by decide) rfl ?_
    obtain ⟨e15, qe15, hx⟩ := gb_e hx
    refine q_sub [3, 2, 1, 0] rfl (w_X10_next_45 hC hF (e := e15) (fun s q => ?_) _ _ qe15)
    · subst q
      refine q_iload_n hC 0 dX10_next_101 rfl rfl ?_
      exact q_iret hC hF dX10_next_102 (Option.some.inj hx)
  · have hx := gi_p h4 hx
    refine q_aload_n hC 0 dX10_next_11 rfl rfl ?_
    refine q_bipush hC (-2) dX10_next_12 rfl ?_
    obtain ⟨v16, q17, hx⟩ := gb_e hx
    refine q_ki (q_rV (As := [.int (-2)]) (rest := []) hC mm_X10_refuseBad wM_X10_83 (c_X10_refuseBad q17) ⟨rfl, rfl, Nat.le_of_ble_eq_true rfl, Nat.le_of_ble_eq_true rfl⟩ (gV_t (by decide) (by decide)) rfl rfl rfl rfl (Nat.le_of_ble_eq_true rfl) dX10_next_14) ?_
    exact q_iret hC hF dX10_next_17 (Option.some.inj hx)

theorem dX10_tips_0 : decode cX10_tips 0 = .ok (.aload_n 0, 1) := by decide +kernel
theorem dX10_tips_1 : decode cX10_tips 1 = .ok (.getfield 61, 3) := by decide +kernel
theorem dX10_tips_4 : decode cX10_tips 4 = .ok (.iload_n 1, 1) := by decide +kernel
theorem dX10_tips_5 : decode cX10_tips 5 = .ok (.invokevirtual 95, 3) := by decide +kernel
theorem dX10_tips_8 : decode cX10_tips 8 = .ok (.ifCond .eq 12, 3) := by decide +kernel
theorem dX10_tips_11 : decode cX10_tips 11 = .ok (.iload_n 2, 1) := by decide +kernel
theorem dX10_tips_12 : decode cX10_tips 12 = .ok (.bipush 61, 2) := by decide +kernel
theorem dX10_tips_14 : decode cX10_tips 14 = .ok (.invokestatic 79, 3) := by decide +kernel
theorem dX10_tips_17 : decode cX10_tips 17 = .ok (.ifCond .ne 10, 3) := by decide +kernel
theorem dX10_tips_20 : decode cX10_tips 20 = .ok (.aload_n 0, 1) := by decide +kernel
theorem dX10_tips_21 : decode cX10_tips 21 = .ok (.bipush (-2), 2) := by decide +kernel
theorem dX10_tips_23 : decode cX10_tips 23 = .ok (.invokevirtual 83, 3) := by decide +kernel
theorem dX10_tips_26 : decode cX10_tips 26 = .ok (.ireturn, 1) := by decide +kernel
theorem dX10_tips_27 : decode cX10_tips 27 = .ok (.aload_n 0, 1) := by decide +kernel
theorem dX10_tips_28 : decode cX10_tips 28 = .ok (.getfield 65, 3) := by decide +kernel
theorem dX10_tips_31 : decode cX10_tips 31 = .ok (.aload_n 0, 1) := by decide +kernel
theorem dX10_tips_32 : decode cX10_tips 32 = .ok (.getfield 61, 3) := by decide +kernel
theorem dX10_tips_35 : decode cX10_tips 35 = .ok (.invokevirtual 118, 3) := by decide +kernel
theorem dX10_tips_38 : decode cX10_tips 38 = .ok (.iconst 0, 1) := by decide +kernel
theorem dX10_tips_39 : decode cX10_tips 39 = .ok (.istore_n 3, 1) := by decide +kernel
theorem dX10_tips_40 : decode cX10_tips 40 = .ok (.iload_n 3, 1) := by decide +kernel
theorem dX10_tips_41 : decode cX10_tips 41 = .ok (.iload_n 2, 1) := by decide +kernel
theorem dX10_tips_42 : decode cX10_tips 42 = .ok (.if_icmp .ge 16, 3) := by decide +kernel
theorem dX10_tips_45 : decode cX10_tips 45 = .ok (.aload_n 0, 1) := by decide +kernel
theorem dX10_tips_46 : decode cX10_tips 46 = .ok (.getfield 65, 3) := by decide +kernel
theorem dX10_tips_49 : decode cX10_tips 49 = .ok (.invokevirtual 122, 3) := by decide +kernel
theorem dX10_tips_52 : decode cX10_tips 52 = .ok (.iinc 3 1, 3) := by decide +kernel
theorem dX10_tips_55 : decode cX10_tips 55 = .ok (.goto (-15), 3) := by decide +kernel
theorem dX10_tips_58 : decode cX10_tips 58 = .ok (.aload_n 0, 1) := by decide +kernel
theorem dX10_tips_59 : decode cX10_tips 59 = .ok (.getfield 65, 3) := by decide +kernel
theorem dX10_tips_62 : decode cX10_tips 62 = .ok (.getfield 149, 3) := by decide +kernel
theorem dX10_tips_65 : decode cX10_tips 65 = .ok (.iload_n 1, 1) := by decide +kernel
theorem dX10_tips_66 : decode cX10_tips 66 = .ok (.iaload, 1) := by decide +kernel
theorem dX10_tips_67 : decode cX10_tips 67 = .ok (.ireturn, 1) := by decide +kernel
def j_X10_tips_20 (M : gMem) (p1 : Int32) (p2 : Int32) (N : gMem) : Option (Int32 × gMem) := Option.bind (x_X10_refuseBad N (-2)) (fun v5 => some (v5.1, v5.2))
def s_X10_tips_40 (a1 : Int32) (a2 : Int32) (b3 : Int32) (N : gMem) : Option ((Int32 × gMem) ⊕ (Int32 × gMem)) := (if a2 ≤ b3 then some (.inr (b3, N)) else Option.bind (x_X1_passHour N 1) (fun v14 => some (.inl (b3 + 1, v14))))
def x_X10_tips (M : gMem) (p1 : Int32) (p2 : Int32) : Option (Int32 × gMem) := Option.bind (x_X1_isGuest M 0 p1) (fun v1 => (if v1 = 0 then j_X10_tips_20 M p1 p2 M else Option.bind (x_X10_isBelow p2 61) (fun v7 => (if v7 = 0 then j_X10_tips_20 M p1 p2 M else Option.bind (x_X1_copy M 1 0) (fun v11 => Option.bind (itr FU (fun s => s_X10_tips_40 p1 p2 s.1 s.2) (0, v11)) (fun e16 => gd (gin p1 7) (some (e16.2.1 1 5 (p1).toNatClampNeg, e16.2))))))))
set_option maxRecDepth 100000 in
set_option maxHeartbeats 4000000 in
theorem w_X10_tips_40 {X : gX} {Y : gY} {a1 : Int32} {a2 : Int32} {r : (Int32 × gMem)} (hC : gC X Y cX10_tips "GuestStaff" 4 7 154) (hF : gF X Y (some .int) (gQi Y r)) {e : (Int32 × gMem)} (kE : ∀ s : (Int32 × gMem), e = s → gWW X Y 4 58 [(0, .ref (gad Y 0 34)), (1, .int a1)] [] s.2) : ∀ (F : Nat) (s : (Int32 × gMem)), itr F (fun s => s_X10_tips_40 a1 a2 s.1 s.2) s = some e → gWW X Y 4 40 [(0, .ref (gad Y 0 34)), (1, .int a1), (2, .int a2), (3, .int s.1)] [] s.2 := by
  intro F s
  refine itr_w (P := fun s => gWW X Y 4 40 [(0, .ref (gad Y 0 34)), (1, .int a1), (2, .int a2), (3, .int s.1)] [] s.2) (fun s o hx kI kx => ?_) F s
  obtain ⟨b3, N⟩ := s
  have hx : s_X10_tips_40 a1 a2 b3 N = some o := hx
  have kE : ∀ s : (Int32 × gMem), o = .inr s → gWW X Y 4 58 [(0, .ref (gad Y 0 34)), (1, .int a1)] [] s.2 := fun s q => kE s (kx _ q).symm
  unfold s_X10_tips_40 at hx
  refine q_iload_n hC 3 dX10_tips_40 rfl rfl ?_
  refine q_iload_n hC 2 dX10_tips_41 rfl rfl ?_
  refine q_ic_ge hC 58 dX10_tips_42 rfl (fun h13 => ?_) (fun h13 => ?_)
  · have hx := gi_p h13 hx
    exact q_sub [0, 1] rfl (kE (b3, N) (Option.some.inj hx).symm)
  · have hx := gi_n h13 hx
    refine q_aload_n hC 0 dX10_tips_45 rfl rfl ?_
    refine gf_X10_65 hC dX10_tips_46 ?_
    obtain ⟨v14, q15, hx⟩ := gb_e hx
    refine q_kv (q_rV (As := []) (rest := []) hC mm_X1_passHour wM_X10_122 (c_X1_passHour (by decide) q15) ⟨rfl, rfl, Nat.le_of_ble_eq_true rfl, Nat.le_of_ble_eq_true rfl⟩ (gV_h (by decide) (by decide)) rfl rfl rfl rfl (Nat.le_of_ble_eq_true rfl) dX10_tips_49) ?_
    refine q_iinc hC 3 1 [(3, .int (b3 + 1)), (0, .ref (gad Y 0 34)), (1, .int a1), (2, .int a2)] dX10_tips_52 rfl rfl (by decide) rfl ?_
    refine q_goto hC 40 dX10_tips_55 rfl ?_
    exact q_sub [1, 2, 3, 0] rfl (kI (b3 + 1, v14) (Option.some.inj hx).symm)
set_option maxRecDepth 100000 in
set_option maxHeartbeats 4000000 in
theorem c_X10_tips {l : Launch} {Y : gY} {M : gMem} {p1 : Int32} {p2 : Int32} {r : (Int32 × gMem)} (hx : x_X10_tips M p1 p2 = some r) : Met l yX10_tips (gws yX10_tips cX10_tips 4 (some .int)) { frames := 7, cells := 0, slots := 0, locals := 154 } (va_Pc [.ref (gad Y 0 34), .int p1, .int p2] (gS0 Y M)) (gQi Y r) 0 0 (gA Y) := by
  refine gmet (lv := [(0, .ref (gad Y 0 34)), (1, .int p1), (2, .int p2)]) "GuestStaff" (by decide) rfl (Nat.le_of_ble_eq_true rfl) rfl (fun X hC hF => ?_)
  have J20 : ∀ (N : gMem) , j_X10_tips_20 M p1 p2 N = some r → gWW X Y 4 20 [(0, .ref (gad Y 0 34))] [] N := by
    intro N hx
    unfold j_X10_tips_20 at hx
    refine q_aload_n hC 0 dX10_tips_20 rfl rfl ?_
    refine q_bipush hC (-2) dX10_tips_21 rfl ?_
    obtain ⟨v5, q6, hx⟩ := gb_e hx
    refine q_ki (q_rV (As := [.int (-2)]) (rest := []) hC mm_X10_refuseBad wM_X10_83 (c_X10_refuseBad q6) ⟨rfl, rfl, Nat.le_of_ble_eq_true rfl, Nat.le_of_ble_eq_true rfl⟩ (gV_t (by decide) (by decide)) rfl rfl rfl rfl (Nat.le_of_ble_eq_true rfl) dX10_tips_23) ?_
    exact q_iret hC hF dX10_tips_26 (Option.some.inj hx)
  unfold x_X10_tips at hx
  refine q_aload_n hC 0 dX10_tips_0 rfl rfl ?_
  refine gf_X10_61 hC dX10_tips_1 ?_
  refine q_iload_n hC 1 dX10_tips_4 rfl rfl ?_
  obtain ⟨v1, q2, hx⟩ := gb_e hx
  refine q_kzp (q_rV (As := [.int p1]) (rest := []) hC mm_X1_isGuest wM_X10_95 (c_X1_isGuest (by decide) q2) ⟨rfl, rfl, Nat.le_of_ble_eq_true rfl, Nat.le_of_ble_eq_true rfl⟩ (gV_h (by decide) (by decide)) rfl rfl rfl rfl (Nat.le_of_ble_eq_true rfl) dX10_tips_5) (fun z3 => ?_)
  refine q_if_eq hC 20 dX10_tips_8 rfl (fun h4 => ?_) (fun h4 => ?_)
  · have hx := gi_p h4 hx
    exact q_sub [0] rfl (J20 M hx)
  · have hx := gi_n h4 hx
    refine q_iload_n hC 2 dX10_tips_11 rfl rfl ?_
    refine q_bipush hC 61 dX10_tips_12 rfl ?_
    obtain ⟨v7, q8, hx⟩ := gb_e hx
    refine q_kzp (q_rS (As := [.int p2, .int 61]) (rest := []) hC mm_X10_isBelow wM_X10_79 (c_X10_isBelow q8) ⟨rfl, rfl, Nat.le_of_ble_eq_true rfl, Nat.le_of_ble_eq_true rfl⟩ rfl rfl (Nat.le_of_ble_eq_true rfl) dX10_tips_14) (fun z9 => ?_)
    refine q_if_ne hC 27 dX10_tips_17 rfl (fun h10 => ?_) (fun h10 => ?_)
    · have hx := gi_n h10 hx
      refine q_aload_n hC 0 dX10_tips_27 rfl rfl ?_
      refine gf_X10_65 hC dX10_tips_28 ?_
      refine q_aload_n hC 0 dX10_tips_31 rfl rfl ?_
      refine gf_X10_61 hC dX10_tips_32 ?_
      obtain ⟨v11, q12, hx⟩ := gb_e hx
      refine q_kv (q_rV (As := [.ref (gad Y 0 0)]) (rest := []) hC mm_X1_copy wM_X10_118 (c_X1_copy (by decide) (by decide) q12) ⟨rfl, rfl, Nat.le_of_ble_eq_true rfl, Nat.le_of_ble_eq_true rfl⟩ (gV_h (by decide) (by decide)) rfl rfl rfl rfl (Nat.le_of_ble_eq_true rfl) dX10_tips_35) ?_
      refine q_iconst hC 0 dX10_tips_38 rfl ?_
      refine q_istore_n hC [(3, .int 0), (0, .ref (gad Y 0 34)), (1, .int p1), (2, .int p2)] dX10_tips_39 rfl (by decide) rfl ?_
      obtain ⟨e16, qe16, hx⟩ := gb_e hx
      refine q_sub [1, 2, 3, 0] rfl (w_X10_tips_40 hC hF (e := e16) (fun s q => ?_) _ _ qe16)
      · subst q
        refine q_aload_n hC 0 dX10_tips_58 rfl rfl ?_
        refine gf_X10_65 hC dX10_tips_59 ?_
        refine gf_X10_149 hC (by decide) dX10_tips_62 ?_
        refine q_iload_n hC 1 dX10_tips_65 rfl rfl ?_
        have g17 := (gd_e hx).1
        have hx := (gd_e hx).2
        refine q_iald hC 6 (gV_h (by decide) (by decide)) rfl g17 dX10_tips_66 ?_
        exact q_iret hC hF dX10_tips_67 (Option.some.inj hx)
    · have hx := gi_p h10 hx
      exact q_sub [0] rfl (J20 M hx)

theorem dX10_keepFraction_0 : decode cX10_keepFraction 0 = .ok (.iload_n 1, 1) := by decide +kernel
theorem dX10_keepFraction_1 : decode cX10_keepFraction 1 = .ok (.istore_n 3, 1) := by decide +kernel
theorem dX10_keepFraction_2 : decode cX10_keepFraction 2 = .ok (.iload_n 2, 1) := by decide +kernel
theorem dX10_keepFraction_3 : decode cX10_keepFraction 3 = .ok (.istore 4, 2) := by decide +kernel
theorem dX10_keepFraction_5 : decode cX10_keepFraction 5 = .ok (.iconst 0, 1) := by decide +kernel
theorem dX10_keepFraction_6 : decode cX10_keepFraction 6 = .ok (.istore 5, 2) := by decide +kernel
theorem dX10_keepFraction_8 : decode cX10_keepFraction 8 = .ok (.iload 5, 2) := by decide +kernel
theorem dX10_keepFraction_10 : decode cX10_keepFraction 10 = .ok (.bipush 64, 2) := by decide +kernel
theorem dX10_keepFraction_12 : decode cX10_keepFraction 12 = .ok (.if_icmp .ge 27, 3) := by decide +kernel
theorem dX10_keepFraction_15 : decode cX10_keepFraction 15 = .ok (.iload 4, 2) := by decide +kernel
theorem dX10_keepFraction_17 : decode cX10_keepFraction 17 = .ok (.ifCond .eq 22, 3) := by decide +kernel
theorem dX10_keepFraction_20 : decode cX10_keepFraction 20 = .ok (.iload_n 3, 1) := by decide +kernel
theorem dX10_keepFraction_21 : decode cX10_keepFraction 21 = .ok (.iload 4, 2) := by decide +kernel
theorem dX10_keepFraction_23 : decode cX10_keepFraction 23 = .ok (.irem, 1) := by decide +kernel
theorem dX10_keepFraction_24 : decode cX10_keepFraction 24 = .ok (.istore 6, 2) := by decide +kernel
theorem dX10_keepFraction_26 : decode cX10_keepFraction 26 = .ok (.iload 4, 2) := by decide +kernel
theorem dX10_keepFraction_28 : decode cX10_keepFraction 28 = .ok (.istore_n 3, 1) := by decide +kernel
theorem dX10_keepFraction_29 : decode cX10_keepFraction 29 = .ok (.iload 6, 2) := by decide +kernel
theorem dX10_keepFraction_31 : decode cX10_keepFraction 31 = .ok (.istore 4, 2) := by decide +kernel
theorem dX10_keepFraction_33 : decode cX10_keepFraction 33 = .ok (.iinc 5 1, 3) := by decide +kernel
theorem dX10_keepFraction_36 : decode cX10_keepFraction 36 = .ok (.goto (-28), 3) := by decide +kernel
theorem dX10_keepFraction_39 : decode cX10_keepFraction 39 = .ok (.iload_n 3, 1) := by decide +kernel
theorem dX10_keepFraction_40 : decode cX10_keepFraction 40 = .ok (.ifCond .le 19, 3) := by decide +kernel
theorem dX10_keepFraction_43 : decode cX10_keepFraction 43 = .ok (.aload_n 0, 1) := by decide +kernel
theorem dX10_keepFraction_44 : decode cX10_keepFraction 44 = .ok (.iload_n 1, 1) := by decide +kernel
theorem dX10_keepFraction_45 : decode cX10_keepFraction 45 = .ok (.iload_n 3, 1) := by decide +kernel
theorem dX10_keepFraction_46 : decode cX10_keepFraction 46 = .ok (.idiv, 1) := by decide +kernel
theorem dX10_keepFraction_47 : decode cX10_keepFraction 47 = .ok (.i2l, 1) := by decide +kernel
theorem dX10_keepFraction_48 : decode cX10_keepFraction 48 = .ok (.putfield 31, 3) := by decide +kernel
theorem dX10_keepFraction_51 : decode cX10_keepFraction 51 = .ok (.aload_n 0, 1) := by decide +kernel
theorem dX10_keepFraction_52 : decode cX10_keepFraction 52 = .ok (.iload_n 2, 1) := by decide +kernel
theorem dX10_keepFraction_53 : decode cX10_keepFraction 53 = .ok (.iload_n 3, 1) := by decide +kernel
theorem dX10_keepFraction_54 : decode cX10_keepFraction 54 = .ok (.idiv, 1) := by decide +kernel
theorem dX10_keepFraction_55 : decode cX10_keepFraction 55 = .ok (.i2l, 1) := by decide +kernel
theorem dX10_keepFraction_56 : decode cX10_keepFraction 56 = .ok (.putfield 35, 3) := by decide +kernel
theorem dX10_keepFraction_59 : decode cX10_keepFraction 59 = .ok (.return_, 1) := by decide +kernel
def s_X10_keepFraction_8 (M : gMem) (a1 : Int32) (a2 : Int32) (b3 : Int32) (b4 : Int32) (b5 : Int32) : Option ((Int32 × Int32 × Int32) ⊕ (Int32 × Int32 × Int32)) := (if 64 ≤ b5 then some (.inr (b3, b4, b5)) else (if b4 = 0 then some (.inr (b3, b4, b5)) else gd (¬ b4 = 0) (some (.inl (b4, b3 - b3 / b4 * b4, b5 + 1)))))
def x_X10_keepFraction (M : gMem) (p1 : Int32) (p2 : Int32) : Option gMem := Option.bind (itr FU (fun s => s_X10_keepFraction_8 M p1 p2 s.1 s.2.1 s.2.2) (p1, p2, 0)) (fun e4 => (if e4.1 ≤ 0 then some M else gd (¬ e4.1 = 0) (gd (¬ e4.1 = 0) (some (gwl (gwl M 34 7 (Int32.toInt64 (p1 / e4.1))) 34 8 (Int32.toInt64 (p2 / e4.1)))))))
set_option maxRecDepth 100000 in
set_option maxHeartbeats 4000000 in
theorem w_X10_keepFraction_8 {X : gX} {Y : gY} {M : gMem} {a1 : Int32} {a2 : Int32} {r : gMem} (hC : gC X Y cX10_keepFraction "GuestStaff" 7 0 0) (hF : gF X Y none (gQv Y r)) {e : (Int32 × Int32 × Int32)} (kE : ∀ s : (Int32 × Int32 × Int32), e = s → gWW X Y 7 39 [(0, .ref (gad Y 0 34)), (1, .int a1), (2, .int a2), (3, .int s.1)] [] M) : ∀ (F : Nat) (s : (Int32 × Int32 × Int32)), itr F (fun s => s_X10_keepFraction_8 M a1 a2 s.1 s.2.1 s.2.2) s = some e → gWW X Y 7 8 [(0, .ref (gad Y 0 34)), (1, .int a1), (2, .int a2), (3, .int s.1), (4, .int s.2.1), (5, .int s.2.2)] [] M := by
  intro F s
  refine itr_w (P := fun s => gWW X Y 7 8 [(0, .ref (gad Y 0 34)), (1, .int a1), (2, .int a2), (3, .int s.1), (4, .int s.2.1), (5, .int s.2.2)] [] M) (fun s o hx kI kx => ?_) F s
  obtain ⟨b3, b4, b5⟩ := s
  have hx : s_X10_keepFraction_8 M a1 a2 b3 b4 b5 = some o := hx
  have kE : ∀ s : (Int32 × Int32 × Int32), o = .inr s → gWW X Y 7 39 [(0, .ref (gad Y 0 34)), (1, .int a1), (2, .int a2), (3, .int s.1)] [] M := fun s q => kE s (kx _ q).symm
  unfold s_X10_keepFraction_8 at hx
  refine q_iload hC 5 dX10_keepFraction_8 rfl ?_
  refine q_bipush hC 64 dX10_keepFraction_10 rfl ?_
  refine q_ic_ge hC 39 dX10_keepFraction_12 rfl (fun h1 => ?_) (fun h1 => ?_)
  · have hx := gi_p h1 hx
    exact q_sub [0, 1, 2, 3] rfl (kE (b3, b4, b5) (Option.some.inj hx).symm)
  · have hx := gi_n h1 hx
    refine q_iload hC 4 dX10_keepFraction_15 rfl ?_
    refine q_if_eq hC 39 dX10_keepFraction_17 rfl (fun h2 => ?_) (fun h2 => ?_)
    · have hx := gi_p h2 hx
      exact q_sub [0, 1, 2, 3] rfl (kE (b3, b4, b5) (Option.some.inj hx).symm)
    · have hx := gi_n h2 hx
      refine q_iload_n hC 3 dX10_keepFraction_20 rfl rfl ?_
      refine q_iload hC 4 dX10_keepFraction_21 rfl ?_
      have g3 := (gd_e hx).1
      have hx := (gd_e hx).2
      refine q_irem hC dX10_keepFraction_23 g3 ?_
      refine q_istore hC [(6, .int (b3 - b3 / b4 * b4)), (0, .ref (gad Y 0 34)), (1, .int a1), (2, .int a2), (3, .int b3), (4, .int b4), (5, .int b5)] dX10_keepFraction_24 (by decide) rfl ?_
      refine q_iload hC 5 dX10_keepFraction_26 rfl ?_
      refine q_istore_n hC [(3, .int b4), (6, .int (b3 - b3 / b4 * b4)), (0, .ref (gad Y 0 34)), (1, .int a1), (2, .int a2), (4, .int b4), (5, .int b5)] dX10_keepFraction_28 rfl (by decide) rfl ?_
      refine q_iload hC 1 dX10_keepFraction_29 rfl ?_
      refine q_istore hC [(4, .int (b3 - b3 / b4 * b4)), (3, .int b4), (6, .int (b3 - b3 / b4 * b4)), (0, .ref (gad Y 0 34)), (1, .int a1), (2, .int a2), (5, .int b5)] dX10_keepFraction_31 (by decide) rfl ?_
      refine q_iinc hC 6 1 [(5, .int (b5 + 1)), (4, .int (b3 - b3 / b4 * b4)), (3, .int b4), (6, .int (b3 - b3 / b4 * b4)), (0, .ref (gad Y 0 34)), (1, .int a1), (2, .int a2)] dX10_keepFraction_33 rfl rfl (by decide) rfl ?_
      refine q_goto hC 8 dX10_keepFraction_36 rfl ?_
      exact q_sub [4, 5, 6, 2, 1, 0] rfl (kI (b4, b3 - b3 / b4 * b4, b5 + 1) (Option.some.inj hx).symm)
set_option maxRecDepth 100000 in
set_option maxHeartbeats 4000000 in
theorem c_X10_keepFraction {l : Launch} {Y : gY} {M : gMem} {p1 : Int32} {p2 : Int32} {r : gMem} (hx : x_X10_keepFraction M p1 p2 = some r) : Met l yX10_keepFraction (gws yX10_keepFraction cX10_keepFraction 7 none) { frames := 0, cells := 0, slots := 0, locals := 0 } (va_Pc [.ref (gad Y 0 34), .int p1, .int p2] (gS0 Y M)) (gQv Y r) 0 0 (gA Y) := by
  refine gmet (lv := [(0, .ref (gad Y 0 34)), (1, .int p1), (2, .int p2)]) "GuestStaff" (by decide) rfl (Nat.le_of_ble_eq_true rfl) rfl (fun X hC hF => ?_)
  unfold x_X10_keepFraction at hx
  refine q_iload_n hC 1 dX10_keepFraction_0 rfl rfl ?_
  refine q_istore_n hC [(3, .int p1), (0, .ref (gad Y 0 34)), (1, .int p1), (2, .int p2)] dX10_keepFraction_1 rfl (by decide) rfl ?_
  refine q_iload_n hC 3 dX10_keepFraction_2 rfl rfl ?_
  refine q_istore hC [(4, .int p2), (3, .int p1), (0, .ref (gad Y 0 34)), (1, .int p1), (2, .int p2)] dX10_keepFraction_3 (by decide) rfl ?_
  refine q_iconst hC 0 dX10_keepFraction_5 rfl ?_
  refine q_istore hC [(5, .int 0), (4, .int p2), (3, .int p1), (0, .ref (gad Y 0 34)), (1, .int p1), (2, .int p2)] dX10_keepFraction_6 (by decide) rfl ?_
  obtain ⟨e4, qe4, hx⟩ := gb_e hx
  refine q_sub [3, 4, 5, 2, 1, 0] rfl (w_X10_keepFraction_8 hC hF (e := e4) (fun s q => ?_) _ _ qe4)
  · subst q
    refine q_iload_n hC 3 dX10_keepFraction_39 rfl rfl ?_
    refine q_if_le hC 59 dX10_keepFraction_40 rfl (fun h5 => ?_) (fun h5 => ?_)
    · have hx := gi_p h5 hx
      exact q_vret hC hF dX10_keepFraction_59 (Option.some.inj hx)
    · have hx := gi_n h5 hx
      refine q_aload_n hC 0 dX10_keepFraction_43 rfl rfl ?_
      refine q_iload_n hC 1 dX10_keepFraction_44 rfl rfl ?_
      refine q_iload_n hC 3 dX10_keepFraction_45 rfl rfl ?_
      have g6 := (gd_e hx).1
      have hx := (gd_e hx).2
      refine q_idiv hC dX10_keepFraction_46 g6 ?_
      refine q_i2l hC dX10_keepFraction_47 ?_
      refine pf_X10_31 hC dX10_keepFraction_48 ?_
      refine q_aload_n hC 0 dX10_keepFraction_51 rfl rfl ?_
      refine q_iload_n hC 2 dX10_keepFraction_52 rfl rfl ?_
      refine q_iload_n hC 3 dX10_keepFraction_53 rfl rfl ?_
      have g7 := (gd_e hx).1
      have hx := (gd_e hx).2
      refine q_idiv hC dX10_keepFraction_54 g7 ?_
      refine q_i2l hC dX10_keepFraction_55 ?_
      refine pf_X10_35 hC dX10_keepFraction_56 ?_
      exact q_vret hC hF dX10_keepFraction_59 (Option.some.inj hx)

theorem dX10_oddsOfNone_0 : decode cX10_oddsOfNone 0 = .ok (.ldc 178, 2) := by decide +kernel
theorem dX10_oddsOfNone_2 : decode cX10_oddsOfNone 2 = .ok (.istore_n 2, 1) := by decide +kernel
theorem dX10_oddsOfNone_3 : decode cX10_oddsOfNone 3 = .ok (.iconst 0, 1) := by decide +kernel
theorem dX10_oddsOfNone_4 : decode cX10_oddsOfNone 4 = .ok (.istore_n 3, 1) := by decide +kernel
theorem dX10_oddsOfNone_5 : decode cX10_oddsOfNone 5 = .ok (.iload_n 3, 1) := by decide +kernel
theorem dX10_oddsOfNone_6 : decode cX10_oddsOfNone 6 = .ok (.iload_n 0, 1) := by decide +kernel
theorem dX10_oddsOfNone_7 : decode cX10_oddsOfNone 7 = .ok (.if_icmp .ge 19, 3) := by decide +kernel
theorem dX10_oddsOfNone_10 : decode cX10_oddsOfNone 10 = .ok (.iload_n 2, 1) := by decide +kernel
theorem dX10_oddsOfNone_11 : decode cX10_oddsOfNone 11 = .ok (.bipush 10, 2) := by decide +kernel
theorem dX10_oddsOfNone_13 : decode cX10_oddsOfNone 13 = .ok (.idiv, 1) := by decide +kernel
theorem dX10_oddsOfNone_14 : decode cX10_oddsOfNone 14 = .ok (.bipush 10, 2) := by decide +kernel
theorem dX10_oddsOfNone_16 : decode cX10_oddsOfNone 16 = .ok (.iload_n 1, 1) := by decide +kernel
theorem dX10_oddsOfNone_17 : decode cX10_oddsOfNone 17 = .ok (.isub, 1) := by decide +kernel
theorem dX10_oddsOfNone_18 : decode cX10_oddsOfNone 18 = .ok (.imul, 1) := by decide +kernel
theorem dX10_oddsOfNone_19 : decode cX10_oddsOfNone 19 = .ok (.istore_n 2, 1) := by decide +kernel
theorem dX10_oddsOfNone_20 : decode cX10_oddsOfNone 20 = .ok (.iinc 3 1, 3) := by decide +kernel
theorem dX10_oddsOfNone_23 : decode cX10_oddsOfNone 23 = .ok (.goto (-18), 3) := by decide +kernel
theorem dX10_oddsOfNone_26 : decode cX10_oddsOfNone 26 = .ok (.iload_n 2, 1) := by decide +kernel
theorem dX10_oddsOfNone_27 : decode cX10_oddsOfNone 27 = .ok (.ireturn, 1) := by decide +kernel
def s_X10_oddsOfNone_5 (a0 : Int32) (a1 : Int32) (b2 : Int32) (b3 : Int32) : Option ((Int32 × Int32) ⊕ (Int32 × Int32)) := (if a0 ≤ b3 then some (.inr (b2, b3)) else some (.inl ((b2 / 10) * (10 - a1), b3 + 1)))
def x_X10_oddsOfNone (p0 : Int32) (p1 : Int32) : Option Int32 := Option.bind (itr FU (fun s => s_X10_oddsOfNone_5 p0 p1 s.1 s.2) (1000000, 0)) (fun e2 => some e2.1)
set_option maxRecDepth 100000 in
set_option maxHeartbeats 4000000 in
theorem w_X10_oddsOfNone_5 {X : gX} {Y : gY} {M : gMem} {a0 : Int32} {a1 : Int32} {r : Int32} (hC : gC X Y cX10_oddsOfNone "GuestStaff" 4 0 0) (hF : gF X Y (some .int) (gQi Y (r, M))) {e : (Int32 × Int32)} (kE : ∀ s : (Int32 × Int32), e = s → gWW X Y 4 26 [(2, .int s.1)] [] M) : ∀ (F : Nat) (s : (Int32 × Int32)), itr F (fun s => s_X10_oddsOfNone_5 a0 a1 s.1 s.2) s = some e → gWW X Y 4 5 [(0, .int a0), (1, .int a1), (2, .int s.1), (3, .int s.2)] [] M := by
  intro F s
  refine itr_w (P := fun s => gWW X Y 4 5 [(0, .int a0), (1, .int a1), (2, .int s.1), (3, .int s.2)] [] M) (fun s o hx kI kx => ?_) F s
  obtain ⟨b2, b3⟩ := s
  have hx : s_X10_oddsOfNone_5 a0 a1 b2 b3 = some o := hx
  have kE : ∀ s : (Int32 × Int32), o = .inr s → gWW X Y 4 26 [(2, .int s.1)] [] M := fun s q => kE s (kx _ q).symm
  unfold s_X10_oddsOfNone_5 at hx
  refine q_iload_n hC 3 dX10_oddsOfNone_5 rfl rfl ?_
  refine q_iload_n hC 0 dX10_oddsOfNone_6 rfl rfl ?_
  refine q_ic_ge hC 26 dX10_oddsOfNone_7 rfl (fun h1 => ?_) (fun h1 => ?_)
  · have hx := gi_p h1 hx
    exact q_sub [2] rfl (kE (b2, b3) (Option.some.inj hx).symm)
  · have hx := gi_n h1 hx
    refine q_iload_n hC 2 dX10_oddsOfNone_10 rfl rfl ?_
    refine q_bipush hC 10 dX10_oddsOfNone_11 rfl ?_
    refine q_idiv hC dX10_oddsOfNone_13 (by decide) ?_
    refine q_bipush hC 10 dX10_oddsOfNone_14 rfl ?_
    refine q_iload_n hC 1 dX10_oddsOfNone_16 rfl rfl ?_
    refine q_isub hC dX10_oddsOfNone_17 ?_
    refine q_imul hC dX10_oddsOfNone_18 ?_
    refine q_istore_n hC [(2, .int ((b2 / 10) * (10 - a1))), (0, .int a0), (1, .int a1), (3, .int b3)] dX10_oddsOfNone_19 rfl (by decide) rfl ?_
    refine q_iinc hC 3 1 [(3, .int (b3 + 1)), (2, .int ((b2 / 10) * (10 - a1))), (0, .int a0), (1, .int a1)] dX10_oddsOfNone_20 rfl rfl (by decide) rfl ?_
    refine q_goto hC 5 dX10_oddsOfNone_23 rfl ?_
    exact q_sub [2, 3, 1, 0] rfl (kI ((b2 / 10) * (10 - a1), b3 + 1) (Option.some.inj hx).symm)
set_option maxRecDepth 100000 in
set_option maxHeartbeats 4000000 in
theorem c_X10_oddsOfNone {l : Launch} {Y : gY} {M : gMem} {p0 : Int32} {p1 : Int32} {r : Int32} (hx : x_X10_oddsOfNone p0 p1 = some r) : Met l yX10_oddsOfNone (gws yX10_oddsOfNone cX10_oddsOfNone 4 (some .int)) { frames := 0, cells := 0, slots := 0, locals := 0 } (va_Pc [.int p0, .int p1] (gS0 Y M)) (gQi Y (r, M)) 0 0 (gA Y) := by
  refine gmet (lv := [(0, .int p0), (1, .int p1)]) "GuestStaff" (by decide) rfl (Nat.le_of_ble_eq_true rfl) rfl (fun X hC hF => ?_)
  unfold x_X10_oddsOfNone at hx
  refine q_ldc hC 1000000 dX10_oddsOfNone_0 wC_X10_178 ?_
  refine q_istore_n hC [(2, .int 1000000), (0, .int p0), (1, .int p1)] dX10_oddsOfNone_2 rfl (by decide) rfl ?_
  refine q_iconst hC 0 dX10_oddsOfNone_3 rfl ?_
  refine q_istore_n hC [(3, .int 0), (2, .int 1000000), (0, .int p0), (1, .int p1)] dX10_oddsOfNone_4 rfl (by decide) rfl ?_
  obtain ⟨e2, qe2, hx⟩ := gb_e hx
  refine q_sub [2, 3, 1, 0] rfl (w_X10_oddsOfNone_5 hC hF (e := e2) (fun s q => ?_) _ _ qe2)
  · subst q
    refine q_iload_n hC 0 dX10_oddsOfNone_26 rfl rfl ?_
    exact q_iret hC hF dX10_oddsOfNone_27 (congrArg (fun z => (z, M)) (Option.some.inj hx))

theorem dX10_moods_0 : decode cX10_moods 0 = .ok (.iload_n 1, 1) := by decide +kernel
theorem dX10_moods_1 : decode cX10_moods 1 = .ok (.bipush 11, 2) := by decide +kernel
theorem dX10_moods_3 : decode cX10_moods 3 = .ok (.invokestatic 79, 3) := by decide +kernel
theorem dX10_moods_6 : decode cX10_moods 6 = .ok (.ifCond .ne 10, 3) := by decide +kernel
theorem dX10_moods_9 : decode cX10_moods 9 = .ok (.aload_n 0, 1) := by decide +kernel
theorem dX10_moods_10 : decode cX10_moods 10 = .ok (.bipush (-2), 2) := by decide +kernel
theorem dX10_moods_12 : decode cX10_moods 12 = .ok (.invokevirtual 83, 3) := by decide +kernel
theorem dX10_moods_15 : decode cX10_moods 15 = .ok (.ireturn, 1) := by decide +kernel
theorem dX10_moods_16 : decode cX10_moods 16 = .ok (.iconst 0, 1) := by decide +kernel
theorem dX10_moods_17 : decode cX10_moods 17 = .ok (.istore_n 2, 1) := by decide +kernel
theorem dX10_moods_18 : decode cX10_moods 18 = .ok (.iconst 0, 1) := by decide +kernel
theorem dX10_moods_19 : decode cX10_moods 19 = .ok (.istore_n 3, 1) := by decide +kernel
theorem dX10_moods_20 : decode cX10_moods 20 = .ok (.iload_n 3, 1) := by decide +kernel
theorem dX10_moods_21 : decode cX10_moods 21 = .ok (.aload_n 0, 1) := by decide +kernel
theorem dX10_moods_22 : decode cX10_moods 22 = .ok (.getfield 61, 3) := by decide +kernel
theorem dX10_moods_25 : decode cX10_moods 25 = .ok (.getfield 72, 3) := by decide +kernel
theorem dX10_moods_28 : decode cX10_moods 28 = .ok (.if_icmp .ge 27, 3) := by decide +kernel
theorem dX10_moods_31 : decode cX10_moods 31 = .ok (.iload_n 2, 1) := by decide +kernel
theorem dX10_moods_32 : decode cX10_moods 32 = .ok (.ldc 178, 2) := by decide +kernel
theorem dX10_moods_34 : decode cX10_moods 34 = .ok (.aload_n 0, 1) := by decide +kernel
theorem dX10_moods_35 : decode cX10_moods 35 = .ok (.getfield 61, 3) := by decide +kernel
theorem dX10_moods_38 : decode cX10_moods 38 = .ok (.iload_n 3, 1) := by decide +kernel
theorem dX10_moods_39 : decode cX10_moods 39 = .ok (.invokevirtual 216, 3) := by decide +kernel
theorem dX10_moods_42 : decode cX10_moods 42 = .ok (.iload_n 1, 1) := by decide +kernel
theorem dX10_moods_43 : decode cX10_moods 43 = .ok (.invokestatic 219, 3) := by decide +kernel
theorem dX10_moods_46 : decode cX10_moods 46 = .ok (.isub, 1) := by decide +kernel
theorem dX10_moods_47 : decode cX10_moods 47 = .ok (.iadd, 1) := by decide +kernel
theorem dX10_moods_48 : decode cX10_moods 48 = .ok (.istore_n 2, 1) := by decide +kernel
theorem dX10_moods_49 : decode cX10_moods 49 = .ok (.iinc 3 1, 3) := by decide +kernel
theorem dX10_moods_52 : decode cX10_moods 52 = .ok (.goto (-32), 3) := by decide +kernel
theorem dX10_moods_55 : decode cX10_moods 55 = .ok (.aload_n 0, 1) := by decide +kernel
theorem dX10_moods_56 : decode cX10_moods 56 = .ok (.iload_n 2, 1) := by decide +kernel
theorem dX10_moods_57 : decode cX10_moods 57 = .ok (.ldc 178, 2) := by decide +kernel
theorem dX10_moods_59 : decode cX10_moods 59 = .ok (.invokevirtual 222, 3) := by decide +kernel
theorem dX10_moods_62 : decode cX10_moods 62 = .ok (.iconst 1, 1) := by decide +kernel
theorem dX10_moods_63 : decode cX10_moods 63 = .ok (.ireturn, 1) := by decide +kernel
def s_X10_moods_20 (M : gMem) (a1 : Int32) (b2 : Int32) (b3 : Int32) : Option ((Int32 × Int32) ⊕ (Int32 × Int32)) := (if (M.1 0 0 13) ≤ b3 then some (.inr (b2, b3)) else Option.bind (x_X1_serversOf M 0 b3) (fun v6 => Option.bind (x_X10_oddsOfNone v6 a1) (fun v8 => some (.inl (b2 + (1000000 - v8), b3 + 1)))))
def x_X10_moods (M : gMem) (p1 : Int32) : Option (Int32 × gMem) := Option.bind (x_X10_isBelow p1 11) (fun v1 => (if v1 = 0 then Option.bind (x_X10_refuseBad M (-2)) (fun v13 => some (v13.1, v13.2)) else Option.bind (itr FU (fun s => s_X10_moods_20 M p1 s.1 s.2) (0, 0)) (fun e10 => Option.bind (x_X10_keepFraction M e10.1 1000000) (fun v11 => some (1, v11)))))
set_option maxRecDepth 100000 in
set_option maxHeartbeats 4000000 in
theorem w_X10_moods_20 {X : gX} {Y : gY} {M : gMem} {a1 : Int32} {r : (Int32 × gMem)} (hC : gC X Y cX10_moods "GuestStaff" 4 3 67) (hF : gF X Y (some .int) (gQi Y r)) {e : (Int32 × Int32)} (kE : ∀ s : (Int32 × Int32), e = s → gWW X Y 4 55 [(0, .ref (gad Y 0 34)), (2, .int s.1)] [] M) : ∀ (F : Nat) (s : (Int32 × Int32)), itr F (fun s => s_X10_moods_20 M a1 s.1 s.2) s = some e → gWW X Y 4 20 [(0, .ref (gad Y 0 34)), (1, .int a1), (2, .int s.1), (3, .int s.2)] [] M := by
  intro F s
  refine itr_w (P := fun s => gWW X Y 4 20 [(0, .ref (gad Y 0 34)), (1, .int a1), (2, .int s.1), (3, .int s.2)] [] M) (fun s o hx kI kx => ?_) F s
  obtain ⟨b2, b3⟩ := s
  have hx : s_X10_moods_20 M a1 b2 b3 = some o := hx
  have kE : ∀ s : (Int32 × Int32), o = .inr s → gWW X Y 4 55 [(0, .ref (gad Y 0 34)), (2, .int s.1)] [] M := fun s q => kE s (kx _ q).symm
  unfold s_X10_moods_20 at hx
  refine q_iload_n hC 3 dX10_moods_20 rfl rfl ?_
  refine q_aload_n hC 0 dX10_moods_21 rfl rfl ?_
  refine gf_X10_61 hC dX10_moods_22 ?_
  refine gf_X10_72 hC (by decide) dX10_moods_25 ?_
  refine q_ic_ge hC 55 dX10_moods_28 rfl (fun h5 => ?_) (fun h5 => ?_)
  · have hx := gi_p h5 hx
    exact q_sub [0, 2] rfl (kE (b2, b3) (Option.some.inj hx).symm)
  · have hx := gi_n h5 hx
    refine q_iload_n hC 2 dX10_moods_31 rfl rfl ?_
    refine q_ldc hC 1000000 dX10_moods_32 wC_X10_178 ?_
    refine q_aload_n hC 0 dX10_moods_34 rfl rfl ?_
    refine gf_X10_61 hC dX10_moods_35 ?_
    refine q_iload_n hC 3 dX10_moods_38 rfl rfl ?_
    obtain ⟨v6, q7, hx⟩ := gb_e hx
    refine q_kip (q_rV (As := [.int b3]) (rest := [.int 1000000, .int b2]) hC mm_X1_serversOf wM_X10_216 (c_X1_serversOf (by decide) q7) ⟨rfl, rfl, Nat.le_of_ble_eq_true rfl, Nat.le_of_ble_eq_true rfl⟩ (gV_h (by decide) (by decide)) rfl rfl rfl rfl (Nat.le_of_ble_eq_true rfl) dX10_moods_39) ?_
    refine q_iload_n hC 1 dX10_moods_42 rfl rfl ?_
    obtain ⟨v8, q9, hx⟩ := gb_e hx
    refine q_kip (q_rS (As := [.int v6, .int a1]) (rest := [.int 1000000, .int b2]) hC mm_X10_oddsOfNone wM_X10_219 (c_X10_oddsOfNone q9) ⟨rfl, rfl, Nat.le_of_ble_eq_true rfl, Nat.le_of_ble_eq_true rfl⟩ rfl rfl (Nat.le_of_ble_eq_true rfl) dX10_moods_43) ?_
    refine q_isub hC dX10_moods_46 ?_
    refine q_iadd hC dX10_moods_47 ?_
    refine q_istore_n hC [(2, .int (b2 + (1000000 - v8))), (0, .ref (gad Y 0 34)), (1, .int a1), (3, .int b3)] dX10_moods_48 rfl (by decide) rfl ?_
    refine q_iinc hC 3 1 [(3, .int (b3 + 1)), (2, .int (b2 + (1000000 - v8))), (0, .ref (gad Y 0 34)), (1, .int a1)] dX10_moods_49 rfl rfl (by decide) rfl ?_
    refine q_goto hC 20 dX10_moods_52 rfl ?_
    exact q_sub [2, 3, 1, 0] rfl (kI (b2 + (1000000 - v8), b3 + 1) (Option.some.inj hx).symm)
set_option maxRecDepth 100000 in
set_option maxHeartbeats 4000000 in
theorem c_X10_moods {l : Launch} {Y : gY} {M : gMem} {p1 : Int32} {r : (Int32 × gMem)} (hx : x_X10_moods M p1 = some r) : Met l yX10_moods (gws yX10_moods cX10_moods 4 (some .int)) { frames := 3, cells := 0, slots := 0, locals := 67 } (va_Pc [.ref (gad Y 0 34), .int p1] (gS0 Y M)) (gQi Y r) 0 0 (gA Y) := by
  refine gmet (lv := [(0, .ref (gad Y 0 34)), (1, .int p1)]) "GuestStaff" (by decide) rfl (Nat.le_of_ble_eq_true rfl) rfl (fun X hC hF => ?_)
  unfold x_X10_moods at hx
  refine q_iload_n hC 1 dX10_moods_0 rfl rfl ?_
  refine q_bipush hC 11 dX10_moods_1 rfl ?_
  obtain ⟨v1, q2, hx⟩ := gb_e hx
  refine q_kzp (q_rS (As := [.int p1, .int 11]) (rest := []) hC mm_X10_isBelow wM_X10_79 (c_X10_isBelow q2) ⟨rfl, rfl, Nat.le_of_ble_eq_true rfl, Nat.le_of_ble_eq_true rfl⟩ rfl rfl (Nat.le_of_ble_eq_true rfl) dX10_moods_3) (fun z3 => ?_)
  refine q_if_ne hC 16 dX10_moods_6 rfl (fun h4 => ?_) (fun h4 => ?_)
  · have hx := gi_n h4 hx
    refine q_iconst hC 0 dX10_moods_16 rfl ?_
    refine q_istore_n hC [(2, .int 0), (0, .ref (gad Y 0 34)), (1, .int p1)] dX10_moods_17 rfl (by decide) rfl ?_
    refine q_iconst hC 0 dX10_moods_18 rfl ?_
    refine q_istore_n hC [(3, .int 0), (2, .int 0), (0, .ref (gad Y 0 34)), (1, .int p1)] dX10_moods_19 rfl (by decide) rfl ?_
    obtain ⟨e10, qe10, hx⟩ := gb_e hx
    refine q_sub [2, 3, 1, 0] rfl (w_X10_moods_20 hC hF (e := e10) (fun s q => ?_) _ _ qe10)
    · subst q
      refine q_aload_n hC 0 dX10_moods_55 rfl rfl ?_
      refine q_iload_n hC 1 dX10_moods_56 rfl rfl ?_
      refine q_ldc hC 1000000 dX10_moods_57 wC_X10_178 ?_
      obtain ⟨v11, q12, hx⟩ := gb_e hx
      refine q_kv (q_rV (As := [.int e10.1, .int 1000000]) (rest := []) hC mm_X10_keepFraction wM_X10_222 (c_X10_keepFraction q12) ⟨rfl, rfl, Nat.le_of_ble_eq_true rfl, Nat.le_of_ble_eq_true rfl⟩ (gV_t (by decide) (by decide)) rfl rfl rfl rfl (Nat.le_of_ble_eq_true rfl) dX10_moods_59) ?_
      refine q_iconst hC 1 dX10_moods_62 rfl ?_
      exact q_iret hC hF dX10_moods_63 (Option.some.inj hx)
  · have hx := gi_p h4 hx
    refine q_aload_n hC 0 dX10_moods_9 rfl rfl ?_
    refine q_bipush hC (-2) dX10_moods_10 rfl ?_
    obtain ⟨v13, q14, hx⟩ := gb_e hx
    refine q_ki (q_rV (As := [.int (-2)]) (rest := []) hC mm_X10_refuseBad wM_X10_83 (c_X10_refuseBad q14) ⟨rfl, rfl, Nat.le_of_ble_eq_true rfl, Nat.le_of_ble_eq_true rfl⟩ (gV_t (by decide) (by decide)) rfl rfl rfl rfl (Nat.le_of_ble_eq_true rfl) dX10_moods_12) ?_
    exact q_iret hC hF dX10_moods_15 (Option.some.inj hx)

theorem dX10_hours_0 : decode cX10_hours 0 = .ok (.iload_n 1, 1) := by decide +kernel
theorem dX10_hours_1 : decode cX10_hours 1 = .ok (.ldc 178, 2) := by decide +kernel
theorem dX10_hours_3 : decode cX10_hours 3 = .ok (.invokestatic 79, 3) := by decide +kernel
theorem dX10_hours_6 : decode cX10_hours 6 = .ok (.ifCond .eq 12, 3) := by decide +kernel
theorem dX10_hours_9 : decode cX10_hours 9 = .ok (.iload_n 2, 1) := by decide +kernel
theorem dX10_hours_10 : decode cX10_hours 10 = .ok (.bipush 61, 2) := by decide +kernel
theorem dX10_hours_12 : decode cX10_hours 12 = .ok (.invokestatic 79, 3) := by decide +kernel
theorem dX10_hours_15 : decode cX10_hours 15 = .ok (.ifCond .ne 10, 3) := by decide +kernel
theorem dX10_hours_18 : decode cX10_hours 18 = .ok (.aload_n 0, 1) := by decide +kernel
theorem dX10_hours_19 : decode cX10_hours 19 = .ok (.bipush (-2), 2) := by decide +kernel
theorem dX10_hours_21 : decode cX10_hours 21 = .ok (.invokevirtual 83, 3) := by decide +kernel
theorem dX10_hours_24 : decode cX10_hours 24 = .ok (.ireturn, 1) := by decide +kernel
theorem dX10_hours_25 : decode cX10_hours 25 = .ok (.aload_n 0, 1) := by decide +kernel
theorem dX10_hours_26 : decode cX10_hours 26 = .ok (.getfield 65, 3) := by decide +kernel
theorem dX10_hours_29 : decode cX10_hours 29 = .ok (.aload_n 0, 1) := by decide +kernel
theorem dX10_hours_30 : decode cX10_hours 30 = .ok (.getfield 61, 3) := by decide +kernel
theorem dX10_hours_33 : decode cX10_hours 33 = .ok (.invokevirtual 118, 3) := by decide +kernel
theorem dX10_hours_36 : decode cX10_hours 36 = .ok (.iload_n 1, 1) := by decide +kernel
theorem dX10_hours_37 : decode cX10_hours 37 = .ok (.i2l, 1) := by decide +kernel
theorem dX10_hours_38 : decode cX10_hours 38 = .ok (.lstore_n 3, 1) := by decide +kernel
theorem dX10_hours_39 : decode cX10_hours 39 = .ok (.iconst 0, 1) := by decide +kernel
theorem dX10_hours_40 : decode cX10_hours 40 = .ok (.istore 5, 2) := by decide +kernel
theorem dX10_hours_42 : decode cX10_hours 42 = .ok (.iload 5, 2) := by decide +kernel
theorem dX10_hours_44 : decode cX10_hours 44 = .ok (.iload_n 2, 1) := by decide +kernel
theorem dX10_hours_45 : decode cX10_hours 45 = .ok (.if_icmp .ge 98, 3) := by decide +kernel
theorem dX10_hours_48 : decode cX10_hours 48 = .ok (.iconst 0, 1) := by decide +kernel
theorem dX10_hours_49 : decode cX10_hours 49 = .ok (.istore 6, 2) := by decide +kernel
theorem dX10_hours_51 : decode cX10_hours 51 = .ok (.iload 6, 2) := by decide +kernel
theorem dX10_hours_53 : decode cX10_hours 53 = .ok (.aload_n 0, 1) := by decide +kernel
theorem dX10_hours_54 : decode cX10_hours 54 = .ok (.getfield 65, 3) := by decide +kernel
theorem dX10_hours_57 : decode cX10_hours 57 = .ok (.getfield 72, 3) := by decide +kernel
theorem dX10_hours_60 : decode cX10_hours 60 = .ok (.if_icmp .ge 70, 3) := by decide +kernel
theorem dX10_hours_63 : decode cX10_hours 63 = .ok (.lload_n 3, 1) := by decide +kernel
theorem dX10_hours_64 : decode cX10_hours 64 = .ok (.ldc2_w 226, 3) := by decide +kernel
theorem dX10_hours_67 : decode cX10_hours 67 = .ok (.lmul, 1) := by decide +kernel
theorem dX10_hours_68 : decode cX10_hours 68 = .ok (.ldc2_w 228, 3) := by decide +kernel
theorem dX10_hours_71 : decode cX10_hours 71 = .ok (.ladd, 1) := by decide +kernel
theorem dX10_hours_72 : decode cX10_hours 72 = .ok (.ldc2_w 230, 3) := by decide +kernel
theorem dX10_hours_75 : decode cX10_hours 75 = .ok (.lrem, 1) := by decide +kernel
theorem dX10_hours_76 : decode cX10_hours 76 = .ok (.lstore_n 3, 1) := by decide +kernel
theorem dX10_hours_77 : decode cX10_hours 77 = .ok (.lload_n 3, 1) := by decide +kernel
theorem dX10_hours_78 : decode cX10_hours 78 = .ok (.ldc2_w 232, 3) := by decide +kernel
theorem dX10_hours_81 : decode cX10_hours 81 = .ok (.ldiv, 1) := by decide +kernel
theorem dX10_hours_82 : decode cX10_hours 82 = .ok (.ldc2_w 234, 3) := by decide +kernel
theorem dX10_hours_85 : decode cX10_hours 85 = .ok (.lrem, 1) := by decide +kernel
theorem dX10_hours_86 : decode cX10_hours 86 = .ok (.l2i, 1) := by decide +kernel
theorem dX10_hours_87 : decode cX10_hours 87 = .ok (.istore 7, 2) := by decide +kernel
theorem dX10_hours_89 : decode cX10_hours 89 = .ok (.aload_n 0, 1) := by decide +kernel
theorem dX10_hours_90 : decode cX10_hours 90 = .ok (.getfield 65, 3) := by decide +kernel
theorem dX10_hours_93 : decode cX10_hours 93 = .ok (.getfield 99, 3) := by decide +kernel
theorem dX10_hours_96 : decode cX10_hours 96 = .ok (.iload 6, 2) := by decide +kernel
theorem dX10_hours_98 : decode cX10_hours 98 = .ok (.iload 7, 2) := by decide +kernel
theorem dX10_hours_100 : decode cX10_hours 100 = .ok (.iload 6, 2) := by decide +kernel
theorem dX10_hours_102 : decode cX10_hours 102 = .ok (.if_icmp .eq 20, 3) := by decide +kernel
theorem dX10_hours_105 : decode cX10_hours 105 = .ok (.aload_n 0, 1) := by decide +kernel
theorem dX10_hours_106 : decode cX10_hours 106 = .ok (.getfield 65, 3) := by decide +kernel
theorem dX10_hours_109 : decode cX10_hours 109 = .ok (.iload 7, 2) := by decide +kernel
theorem dX10_hours_111 : decode cX10_hours 111 = .ok (.invokevirtual 95, 3) := by decide +kernel
theorem dX10_hours_114 : decode cX10_hours 114 = .ok (.ifCond .eq 8, 3) := by decide +kernel
theorem dX10_hours_117 : decode cX10_hours 117 = .ok (.iload 7, 2) := by decide +kernel
theorem dX10_hours_119 : decode cX10_hours 119 = .ok (.goto 4, 3) := by decide +kernel
theorem dX10_hours_122 : decode cX10_hours 122 = .ok (.iconst (-1), 1) := by decide +kernel
theorem dX10_hours_123 : decode cX10_hours 123 = .ok (.iastore, 1) := by decide +kernel
theorem dX10_hours_124 : decode cX10_hours 124 = .ok (.iinc 6 1, 3) := by decide +kernel
theorem dX10_hours_127 : decode cX10_hours 127 = .ok (.goto (-76), 3) := by decide +kernel
theorem dX10_hours_130 : decode cX10_hours 130 = .ok (.aload_n 0, 1) := by decide +kernel
theorem dX10_hours_131 : decode cX10_hours 131 = .ok (.getfield 65, 3) := by decide +kernel
theorem dX10_hours_134 : decode cX10_hours 134 = .ok (.invokevirtual 122, 3) := by decide +kernel
theorem dX10_hours_137 : decode cX10_hours 137 = .ok (.iinc 5 1, 3) := by decide +kernel
theorem dX10_hours_140 : decode cX10_hours 140 = .ok (.goto (-98), 3) := by decide +kernel
theorem dX10_hours_143 : decode cX10_hours 143 = .ok (.aload_n 0, 1) := by decide +kernel
theorem dX10_hours_144 : decode cX10_hours 144 = .ok (.getfield 65, 3) := by decide +kernel
theorem dX10_hours_147 : decode cX10_hours 147 = .ok (.getfield 125, 3) := by decide +kernel
theorem dX10_hours_150 : decode cX10_hours 150 = .ok (.aload_n 0, 1) := by decide +kernel
theorem dX10_hours_151 : decode cX10_hours 151 = .ok (.getfield 61, 3) := by decide +kernel
theorem dX10_hours_154 : decode cX10_hours 154 = .ok (.getfield 125, 3) := by decide +kernel
theorem dX10_hours_157 : decode cX10_hours 157 = .ok (.isub, 1) := by decide +kernel
theorem dX10_hours_158 : decode cX10_hours 158 = .ok (.ireturn, 1) := by decide +kernel
def j_X10_hours_18 (M : gMem) (p1 : Int32) (p2 : Int32) (N : gMem) : Option (Int32 × gMem) := Option.bind (x_X10_refuseBad N (-2)) (fun v5 => some (v5.1, v5.2))
def j_X10_hours_51_123 (a2 : Int32) (a5 : Int32) (N : gMem) (b3 : Int64) (b6 : Int32) (t0 : Int32) (t1 : Int32) : Option ((Int64 × Int32 × gMem) ⊕ (Int64 × Int32 × gMem)) := gd (gin t1 7) (some (.inl (b3, b6 + 1, gwr N 1 4 (t1).toNatClampNeg t0)))
def j_X10_hours_51_122 (a2 : Int32) (a5 : Int32) (N : gMem) (b3 : Int64) (b6 : Int32) (t0 : Int32) : Option ((Int64 × Int32 × gMem) ⊕ (Int64 × Int32 × gMem)) := j_X10_hours_51_123 a2 a5 N b3 b6 (-1) t0
def s_X10_hours_51 (a2 : Int32) (a5 : Int32) (b3 : Int64) (b6 : Int32) (N : gMem) : Option ((Int64 × Int32 × gMem) ⊕ (Int64 × Int32 × gMem)) := (if (N.1 1 0 13) ≤ b6 then some (.inr (b3, b6, N)) else (if (Int64.toInt32 (((((b3 * 1103515245) + 12345) - ((b3 * 1103515245) + 12345) / 2147483648 * 2147483648) / 65536) - ((((b3 * 1103515245) + 12345) - ((b3 * 1103515245) + 12345) / 2147483648 * 2147483648) / 65536) / 8 * 8)) = b6 then j_X10_hours_51_122 a2 a5 N (((b3 * 1103515245) + 12345) - ((b3 * 1103515245) + 12345) / 2147483648 * 2147483648) b6 b6 else Option.bind (x_X1_isGuest N 1 (Int64.toInt32 (((((b3 * 1103515245) + 12345) - ((b3 * 1103515245) + 12345) / 2147483648 * 2147483648) / 65536) - ((((b3 * 1103515245) + 12345) - ((b3 * 1103515245) + 12345) / 2147483648 * 2147483648) / 65536) / 8 * 8))) (fun v17 => (if v17 = 0 then j_X10_hours_51_122 a2 a5 N (((b3 * 1103515245) + 12345) - ((b3 * 1103515245) + 12345) / 2147483648 * 2147483648) b6 b6 else j_X10_hours_51_123 a2 a5 N (((b3 * 1103515245) + 12345) - ((b3 * 1103515245) + 12345) / 2147483648 * 2147483648) b6 (Int64.toInt32 (((((b3 * 1103515245) + 12345) - ((b3 * 1103515245) + 12345) / 2147483648 * 2147483648) / 65536) - ((((b3 * 1103515245) + 12345) - ((b3 * 1103515245) + 12345) / 2147483648 * 2147483648) / 65536) / 8 * 8)) b6))))
def s_X10_hours_42 (a2 : Int32) (b3 : Int64) (b5 : Int32) (N : gMem) : Option ((Int64 × Int32 × gMem) ⊕ (Int64 × Int32 × gMem)) := (if a2 ≤ b5 then some (.inr (b3, b5, N)) else Option.bind (itr FU (fun s => s_X10_hours_51 a2 b5 s.1 s.2.1 s.2.2) (b3, 0, N)) (fun e21 => Option.bind (x_X1_passHour e21.2.2 1) (fun v22 => some (.inl (e21.1, b5 + 1, v22)))))
def x_X10_hours (M : gMem) (p1 : Int32) (p2 : Int32) : Option (Int32 × gMem) := Option.bind (x_X10_isBelow p1 1000000) (fun v1 => (if v1 = 0 then j_X10_hours_18 M p1 p2 M else Option.bind (x_X10_isBelow p2 61) (fun v7 => (if v7 = 0 then j_X10_hours_18 M p1 p2 M else Option.bind (x_X1_copy M 1 0) (fun v11 => Option.bind (itr FU (fun s => s_X10_hours_42 p2 s.1 s.2.1 s.2.2) (Int32.toInt64 p1, 0, v11)) (fun e24 => some ((e24.2.2.1 1 0 15) - (e24.2.2.1 0 0 15), e24.2.2)))))))
set_option maxRecDepth 100000 in
set_option maxHeartbeats 4000000 in
theorem w_X10_hours_51 {X : gX} {Y : gY} {a2 : Int32} {a5 : Int32} {r : (Int32 × gMem)} (hC : gC X Y cX10_hours "GuestStaff" 8 7 154) (hF : gF X Y (some .int) (gQi Y r)) {e : (Int64 × Int32 × gMem)} (kE : ∀ s : (Int64 × Int32 × gMem), e = s → gWW X Y 8 130 [(0, .ref (gad Y 0 34)), (2, .int a2), (3, .long s.1), (5, .int a5)] [] s.2.2) : ∀ (F : Nat) (s : (Int64 × Int32 × gMem)), itr F (fun s => s_X10_hours_51 a2 a5 s.1 s.2.1 s.2.2) s = some e → gWW X Y 8 51 [(0, .ref (gad Y 0 34)), (2, .int a2), (3, .long s.1), (5, .int a5), (6, .int s.2.1)] [] s.2.2 := by
  intro F s
  refine itr_w (P := fun s => gWW X Y 8 51 [(0, .ref (gad Y 0 34)), (2, .int a2), (3, .long s.1), (5, .int a5), (6, .int s.2.1)] [] s.2.2) (fun s o hx kI kx => ?_) F s
  obtain ⟨b3, b6, N⟩ := s
  have hx : s_X10_hours_51 a2 a5 b3 b6 N = some o := hx
  have kE : ∀ s : (Int64 × Int32 × gMem), o = .inr s → gWW X Y 8 130 [(0, .ref (gad Y 0 34)), (2, .int a2), (3, .long s.1), (5, .int a5)] [] s.2.2 := fun s q => kE s (kx _ q).symm
  have J123 : ∀ (N : gMem) (b3 : Int64) (b6 : Int32) (t0 : Int32) (t1 : Int32) , j_X10_hours_51_123 a2 a5 N b3 b6 t0 t1 = some o → gWW X Y 8 123 [(0, .ref (gad Y 0 34)), (2, .int a2), (3, .long b3), (5, .int a5), (6, .int b6)] [.int t0, .int t1, .ref (gad Y 1 4)] N := by
    intro N b3 b6 t0 t1 hx
    unfold j_X10_hours_51_123 at hx
    have g16 := (gd_e hx).1
    have hx := (gd_e hx).2
    refine q_iast hC 6 (gV_h (by decide) (by decide)) rfl g16 dX10_hours_123 ?_
    refine q_iinc hC 4 1 [(6, .int (b6 + 1)), (0, .ref (gad Y 0 34)), (2, .int a2), (3, .long b3), (5, .int a5)] dX10_hours_124 rfl rfl (by decide) rfl ?_
    refine q_goto hC 51 dX10_hours_127 rfl ?_
    exact q_sub [1, 2, 3, 4, 0] rfl (kI (b3, b6 + 1, gwr N 1 4 (t1).toNatClampNeg t0) (Option.some.inj hx).symm)
  have J122 : ∀ (N : gMem) (b3 : Int64) (b6 : Int32) (t0 : Int32) , j_X10_hours_51_122 a2 a5 N b3 b6 t0 = some o → gWW X Y 8 122 [(0, .ref (gad Y 0 34)), (2, .int a2), (3, .long b3), (5, .int a5), (6, .int b6)] [.int t0, .ref (gad Y 1 4)] N := by
    intro N b3 b6 t0 hx
    unfold j_X10_hours_51_122 at hx
    refine q_iconst hC (-1) dX10_hours_122 rfl ?_
    exact q_sub [0, 1, 2, 3, 4] rfl (J123 N b3 b6 (-1) t0 hx)
  unfold s_X10_hours_51 at hx
  refine q_iload hC 4 dX10_hours_51 rfl ?_
  refine q_aload_n hC 0 dX10_hours_53 rfl rfl ?_
  refine gf_X10_65 hC dX10_hours_54 ?_
  refine gf_X10_72 hC (by decide) dX10_hours_57 ?_
  refine q_ic_ge hC 130 dX10_hours_60 rfl (fun h14 => ?_) (fun h14 => ?_)
  · have hx := gi_p h14 hx
    exact q_sub [0, 1, 2, 3] rfl (kE (b3, b6, N) (Option.some.inj hx).symm)
  · have hx := gi_n h14 hx
    refine q_lload_n hC 2 dX10_hours_63 rfl rfl ?_
    refine q_ldc2 hC 1103515245 dX10_hours_64 wC_X10_226 ?_
    refine q_lmul hC dX10_hours_67 ?_
    refine q_ldc2 hC 12345 dX10_hours_68 wC_X10_228 ?_
    refine q_ladd hC dX10_hours_71 ?_
    refine q_ldc2 hC 2147483648 dX10_hours_72 wC_X10_230 ?_
    refine q_lrem hC dX10_hours_75 (by decide) ?_
    refine q_lstore_n hC [(3, .long (((b3 * 1103515245) + 12345) - ((b3 * 1103515245) + 12345) / 2147483648 * 2147483648)), (0, .ref (gad Y 0 34)), (2, .int a2), (5, .int a5), (6, .int b6)] dX10_hours_76 rfl (by decide) rfl ?_
    refine q_lload_n hC 0 dX10_hours_77 rfl rfl ?_
    refine q_ldc2 hC 65536 dX10_hours_78 wC_X10_232 ?_
    refine q_ldiv hC dX10_hours_81 (by decide) ?_
    refine q_ldc2 hC 8 dX10_hours_82 wC_X10_234 ?_
    refine q_lrem hC dX10_hours_85 (by decide) ?_
    refine q_l2i hC dX10_hours_86 ?_
    refine q_istore hC [(7, .int (Int64.toInt32 (((((b3 * 1103515245) + 12345) - ((b3 * 1103515245) + 12345) / 2147483648 * 2147483648) / 65536) - ((((b3 * 1103515245) + 12345) - ((b3 * 1103515245) + 12345) / 2147483648 * 2147483648) / 65536) / 8 * 8))), (3, .long (((b3 * 1103515245) + 12345) - ((b3 * 1103515245) + 12345) / 2147483648 * 2147483648)), (0, .ref (gad Y 0 34)), (2, .int a2), (5, .int a5), (6, .int b6)] dX10_hours_87 (by decide) rfl ?_
    refine q_aload_n hC 2 dX10_hours_89 rfl rfl ?_
    refine gf_X10_65 hC dX10_hours_90 ?_
    refine gf_X10_99 hC (by decide) dX10_hours_93 ?_
    refine q_iload hC 5 dX10_hours_96 rfl ?_
    refine q_iload hC 0 dX10_hours_98 rfl ?_
    refine q_iload hC 5 dX10_hours_100 rfl ?_
    refine q_ic_eq hC 122 dX10_hours_102 rfl (fun h15 => ?_) (fun h15 => ?_)
    · have hx := gi_p h15 hx
      exact q_sub [2, 3, 1, 4, 5] rfl (J122 N (((b3 * 1103515245) + 12345) - ((b3 * 1103515245) + 12345) / 2147483648 * 2147483648) b6 b6 hx)
    · have hx := gi_n h15 hx
      refine q_aload_n hC 2 dX10_hours_105 rfl rfl ?_
      refine gf_X10_65 hC dX10_hours_106 ?_
      refine q_iload hC 0 dX10_hours_109 rfl ?_
      obtain ⟨v17, q18, hx⟩ := gb_e hx
      refine q_kzp (q_rV (As := [.int (Int64.toInt32 (((((b3 * 1103515245) + 12345) - ((b3 * 1103515245) + 12345) / 2147483648 * 2147483648) / 65536) - ((((b3 * 1103515245) + 12345) - ((b3 * 1103515245) + 12345) / 2147483648 * 2147483648) / 65536) / 8 * 8))]) (rest := [.int b6, .ref (gad Y 1 4)]) hC mm_X1_isGuest wM_X10_95 (c_X1_isGuest (by decide) q18) ⟨rfl, rfl, Nat.le_of_ble_eq_true rfl, Nat.le_of_ble_eq_true rfl⟩ (gV_h (by decide) (by decide)) rfl rfl rfl rfl (Nat.le_of_ble_eq_true rfl) dX10_hours_111) (fun z19 => ?_)
      refine q_if_eq hC 122 dX10_hours_114 rfl (fun h20 => ?_) (fun h20 => ?_)
      · have hx := gi_p h20 hx
        exact q_sub [2, 3, 1, 4, 5] rfl (J122 N (((b3 * 1103515245) + 12345) - ((b3 * 1103515245) + 12345) / 2147483648 * 2147483648) b6 b6 hx)
      · have hx := gi_n h20 hx
        refine q_iload hC 0 dX10_hours_117 rfl ?_
        refine q_goto hC 123 dX10_hours_119 rfl ?_
        exact q_sub [2, 3, 1, 4, 5] rfl (J123 N (((b3 * 1103515245) + 12345) - ((b3 * 1103515245) + 12345) / 2147483648 * 2147483648) b6 (Int64.toInt32 (((((b3 * 1103515245) + 12345) - ((b3 * 1103515245) + 12345) / 2147483648 * 2147483648) / 65536) - ((((b3 * 1103515245) + 12345) - ((b3 * 1103515245) + 12345) / 2147483648 * 2147483648) / 65536) / 8 * 8)) b6 hx)
set_option maxRecDepth 100000 in
set_option maxHeartbeats 4000000 in
theorem w_X10_hours_42 {X : gX} {Y : gY} {a2 : Int32} {r : (Int32 × gMem)} (hC : gC X Y cX10_hours "GuestStaff" 8 7 154) (hF : gF X Y (some .int) (gQi Y r)) {e : (Int64 × Int32 × gMem)} (kE : ∀ s : (Int64 × Int32 × gMem), e = s → gWW X Y 8 143 [(0, .ref (gad Y 0 34))] [] s.2.2) : ∀ (F : Nat) (s : (Int64 × Int32 × gMem)), itr F (fun s => s_X10_hours_42 a2 s.1 s.2.1 s.2.2) s = some e → gWW X Y 8 42 [(0, .ref (gad Y 0 34)), (2, .int a2), (3, .long s.1), (5, .int s.2.1)] [] s.2.2 := by
  intro F s
  refine itr_w (P := fun s => gWW X Y 8 42 [(0, .ref (gad Y 0 34)), (2, .int a2), (3, .long s.1), (5, .int s.2.1)] [] s.2.2) (fun s o hx kI kx => ?_) F s
  obtain ⟨b3, b5, N⟩ := s
  have hx : s_X10_hours_42 a2 b3 b5 N = some o := hx
  have kE : ∀ s : (Int64 × Int32 × gMem), o = .inr s → gWW X Y 8 143 [(0, .ref (gad Y 0 34))] [] s.2.2 := fun s q => kE s (kx _ q).symm
  unfold s_X10_hours_42 at hx
  refine q_iload hC 3 dX10_hours_42 rfl ?_
  refine q_iload_n hC 1 dX10_hours_44 rfl rfl ?_
  refine q_ic_ge hC 143 dX10_hours_45 rfl (fun h13 => ?_) (fun h13 => ?_)
  · have hx := gi_p h13 hx
    exact q_sub [0] rfl (kE (b3, b5, N) (Option.some.inj hx).symm)
  · have hx := gi_n h13 hx
    refine q_iconst hC 0 dX10_hours_48 rfl ?_
    refine q_istore hC [(6, .int 0), (0, .ref (gad Y 0 34)), (2, .int a2), (3, .long b3), (5, .int b5)] dX10_hours_49 (by decide) rfl ?_
    obtain ⟨e21, qe21, hx⟩ := gb_e hx
    refine q_sub [1, 2, 3, 4, 0] rfl (w_X10_hours_51 hC hF (e := e21) (fun s q => ?_) _ _ qe21)
    · subst q
      refine q_aload_n hC 0 dX10_hours_130 rfl rfl ?_
      refine gf_X10_65 hC dX10_hours_131 ?_
      obtain ⟨v22, q23, hx⟩ := gb_e hx
      refine q_kv (q_rV (As := []) (rest := []) hC mm_X1_passHour wM_X10_122 (c_X1_passHour (by decide) q23) ⟨rfl, rfl, Nat.le_of_ble_eq_true rfl, Nat.le_of_ble_eq_true rfl⟩ (gV_h (by decide) (by decide)) rfl rfl rfl rfl (Nat.le_of_ble_eq_true rfl) dX10_hours_134) ?_
      refine q_iinc hC 3 1 [(5, .int (b5 + 1)), (0, .ref (gad Y 0 34)), (2, .int a2), (3, .long e21.1)] dX10_hours_137 rfl rfl (by decide) rfl ?_
      refine q_goto hC 42 dX10_hours_140 rfl ?_
      exact q_sub [1, 2, 3, 0] rfl (kI (e21.1, b5 + 1, v22) (Option.some.inj hx).symm)
set_option maxRecDepth 100000 in
set_option maxHeartbeats 4000000 in
theorem c_X10_hours {l : Launch} {Y : gY} {M : gMem} {p1 : Int32} {p2 : Int32} {r : (Int32 × gMem)} (hx : x_X10_hours M p1 p2 = some r) : Met l yX10_hours (gws yX10_hours cX10_hours 8 (some .int)) { frames := 7, cells := 0, slots := 0, locals := 154 } (va_Pc [.ref (gad Y 0 34), .int p1, .int p2] (gS0 Y M)) (gQi Y r) 0 0 (gA Y) := by
  refine gmet (lv := [(0, .ref (gad Y 0 34)), (1, .int p1), (2, .int p2)]) "GuestStaff" (by decide) rfl (Nat.le_of_ble_eq_true rfl) rfl (fun X hC hF => ?_)
  have J18 : ∀ (N : gMem) , j_X10_hours_18 M p1 p2 N = some r → gWW X Y 8 18 [(0, .ref (gad Y 0 34))] [] N := by
    intro N hx
    unfold j_X10_hours_18 at hx
    refine q_aload_n hC 0 dX10_hours_18 rfl rfl ?_
    refine q_bipush hC (-2) dX10_hours_19 rfl ?_
    obtain ⟨v5, q6, hx⟩ := gb_e hx
    refine q_ki (q_rV (As := [.int (-2)]) (rest := []) hC mm_X10_refuseBad wM_X10_83 (c_X10_refuseBad q6) ⟨rfl, rfl, Nat.le_of_ble_eq_true rfl, Nat.le_of_ble_eq_true rfl⟩ (gV_t (by decide) (by decide)) rfl rfl rfl rfl (Nat.le_of_ble_eq_true rfl) dX10_hours_21) ?_
    exact q_iret hC hF dX10_hours_24 (Option.some.inj hx)
  unfold x_X10_hours at hx
  refine q_iload_n hC 1 dX10_hours_0 rfl rfl ?_
  refine q_ldc hC 1000000 dX10_hours_1 wC_X10_178 ?_
  obtain ⟨v1, q2, hx⟩ := gb_e hx
  refine q_kzp (q_rS (As := [.int p1, .int 1000000]) (rest := []) hC mm_X10_isBelow wM_X10_79 (c_X10_isBelow q2) ⟨rfl, rfl, Nat.le_of_ble_eq_true rfl, Nat.le_of_ble_eq_true rfl⟩ rfl rfl (Nat.le_of_ble_eq_true rfl) dX10_hours_3) (fun z3 => ?_)
  refine q_if_eq hC 18 dX10_hours_6 rfl (fun h4 => ?_) (fun h4 => ?_)
  · have hx := gi_p h4 hx
    exact q_sub [0] rfl (J18 M hx)
  · have hx := gi_n h4 hx
    refine q_iload_n hC 2 dX10_hours_9 rfl rfl ?_
    refine q_bipush hC 61 dX10_hours_10 rfl ?_
    obtain ⟨v7, q8, hx⟩ := gb_e hx
    refine q_kzp (q_rS (As := [.int p2, .int 61]) (rest := []) hC mm_X10_isBelow wM_X10_79 (c_X10_isBelow q8) ⟨rfl, rfl, Nat.le_of_ble_eq_true rfl, Nat.le_of_ble_eq_true rfl⟩ rfl rfl (Nat.le_of_ble_eq_true rfl) dX10_hours_12) (fun z9 => ?_)
    refine q_if_ne hC 25 dX10_hours_15 rfl (fun h10 => ?_) (fun h10 => ?_)
    · have hx := gi_n h10 hx
      refine q_aload_n hC 0 dX10_hours_25 rfl rfl ?_
      refine gf_X10_65 hC dX10_hours_26 ?_
      refine q_aload_n hC 0 dX10_hours_29 rfl rfl ?_
      refine gf_X10_61 hC dX10_hours_30 ?_
      obtain ⟨v11, q12, hx⟩ := gb_e hx
      refine q_kv (q_rV (As := [.ref (gad Y 0 0)]) (rest := []) hC mm_X1_copy wM_X10_118 (c_X1_copy (by decide) (by decide) q12) ⟨rfl, rfl, Nat.le_of_ble_eq_true rfl, Nat.le_of_ble_eq_true rfl⟩ (gV_h (by decide) (by decide)) rfl rfl rfl rfl (Nat.le_of_ble_eq_true rfl) dX10_hours_33) ?_
      refine q_iload_n hC 1 dX10_hours_36 rfl rfl ?_
      refine q_i2l hC dX10_hours_37 ?_
      refine q_lstore_n hC [(3, .long (Int32.toInt64 p1)), (0, .ref (gad Y 0 34)), (1, .int p1), (2, .int p2)] dX10_hours_38 rfl (by decide) rfl ?_
      refine q_iconst hC 0 dX10_hours_39 rfl ?_
      refine q_istore hC [(5, .int 0), (3, .long (Int32.toInt64 p1)), (0, .ref (gad Y 0 34)), (1, .int p1), (2, .int p2)] dX10_hours_40 (by decide) rfl ?_
      obtain ⟨e24, qe24, hx⟩ := gb_e hx
      refine q_sub [2, 4, 1, 0] rfl (w_X10_hours_42 hC hF (e := e24) (fun s q => ?_) _ _ qe24)
      · subst q
        refine q_aload_n hC 0 dX10_hours_143 rfl rfl ?_
        refine gf_X10_65 hC dX10_hours_144 ?_
        refine gf_X10_125 hC (by decide) dX10_hours_147 ?_
        refine q_aload_n hC 0 dX10_hours_150 rfl rfl ?_
        refine gf_X10_61 hC dX10_hours_151 ?_
        refine gf_X10_125 hC (by decide) dX10_hours_154 ?_
        refine q_isub hC dX10_hours_157 ?_
        exact q_iret hC hF dX10_hours_158 (Option.some.inj hx)
    · have hx := gi_p h10 hx
      exact q_sub [0] rfl (J18 M hx)

theorem dX10_part_0 : decode cX10_part 0 = .ok (.iload_n 1, 1) := by decide +kernel
theorem dX10_part_1 : decode cX10_part 1 = .ok (.lookupswitch 37 #[(0, 27), (1, 32)], 27) := by decide +kernel
theorem dX10_part_28 : decode cX10_part 28 = .ok (.aload_n 0, 1) := by decide +kernel
theorem dX10_part_29 : decode cX10_part 29 = .ok (.getfield 31, 3) := by decide +kernel
theorem dX10_part_32 : decode cX10_part 32 = .ok (.lreturn, 1) := by decide +kernel
theorem dX10_part_33 : decode cX10_part 33 = .ok (.aload_n 0, 1) := by decide +kernel
theorem dX10_part_34 : decode cX10_part 34 = .ok (.getfield 35, 3) := by decide +kernel
theorem dX10_part_37 : decode cX10_part 37 = .ok (.lreturn, 1) := by decide +kernel
theorem dX10_part_38 : decode cX10_part 38 = .ok (.aload_n 0, 1) := by decide +kernel
theorem dX10_part_39 : decode cX10_part 39 = .ok (.bipush (-2), 2) := by decide +kernel
theorem dX10_part_41 : decode cX10_part 41 = .ok (.invokevirtual 83, 3) := by decide +kernel
theorem dX10_part_44 : decode cX10_part 44 = .ok (.i2l, 1) := by decide +kernel
theorem dX10_part_45 : decode cX10_part 45 = .ok (.lreturn, 1) := by decide +kernel
def x_X10_part (M : gMem) (p1 : Int32) : Option (Int64 × gMem) := (if p1 = 0 then some (M.2 34 7, M) else (if p1 = 1 then some (M.2 34 8, M) else Option.bind (x_X10_refuseBad M (-2)) (fun v3 => some (Int32.toInt64 v3.1, v3.2))))
set_option maxRecDepth 100000 in
set_option maxHeartbeats 4000000 in
theorem c_X10_part {l : Launch} {Y : gY} {M : gMem} {p1 : Int32} {r : (Int64 × gMem)} (hx : x_X10_part M p1 = some r) : Met l yX10_part (gws yX10_part cX10_part 2 (some .long)) { frames := 1, cells := 0, slots := 0, locals := 21 } (va_Pc [.ref (gad Y 0 34), .int p1] (gS0 Y M)) (gQl Y r) 0 0 (gA Y) := by
  refine gmet (lv := [(0, .ref (gad Y 0 34)), (1, .int p1)]) "GuestStaff" (by decide) rfl (Nat.le_of_ble_eq_true rfl) rfl (fun X hC hF => ?_)
  unfold x_X10_part at hx
  refine q_iload_n hC 1 dX10_part_0 rfl rfl ?_
  by_cases h1 : p1 = 0
  · have hx := gi_p h1 hx
    refine q_lsw hC 28 dX10_part_1 (by decide) (by rw [h1] <;> rfl) rfl ?_
    refine q_aload_n hC 0 dX10_part_28 rfl rfl ?_
    refine gf_X10_31 hC dX10_part_29 ?_
    exact q_lret hC hF dX10_part_32 (Option.some.inj hx)
  have hx := gi_n h1 hx
  by_cases h2 : p1 = 1
  · have hx := gi_p h2 hx
    refine q_lsw hC 33 dX10_part_1 (by decide) (by rw [h2] <;> rfl) rfl ?_
    refine q_aload_n hC 0 dX10_part_33 rfl rfl ?_
    refine gf_X10_35 hC dX10_part_34 ?_
    exact q_lret hC hF dX10_part_37 (Option.some.inj hx)
  have hx := gi_n h2 hx
  have th1 := lv_neT (a := 0) h1 (by decide)
  have th2 := lv_neT (a := 1) h2 (by decide)
  refine q_lsw hC 38 dX10_part_1 (by decide) (by simp [Op.lookupswitch.offset, th1, Ne.symm th1, th2, Ne.symm th2]; try rfl) rfl ?_
  refine q_aload_n hC 0 dX10_part_38 rfl rfl ?_
  refine q_bipush hC (-2) dX10_part_39 rfl ?_
  obtain ⟨v3, q4, hx⟩ := gb_e hx
  refine q_ki (q_rV (As := [.int (-2)]) (rest := []) hC mm_X10_refuseBad wM_X10_83 (c_X10_refuseBad q4) ⟨rfl, rfl, Nat.le_of_ble_eq_true rfl, Nat.le_of_ble_eq_true rfl⟩ (gV_t (by decide) (by decide)) rfl rfl rfl rfl (Nat.le_of_ble_eq_true rfl) dX10_part_41) ?_
  refine q_i2l hC dX10_part_44 ?_
  exact q_lret hC hF dX10_part_45 (Option.some.inj hx)

theorem dX10_image_0 : decode cX10_image 0 = .ok (.iload_n 1, 1) := by decide +kernel
theorem dX10_image_1 : decode cX10_image 1 = .ok (.iconst 2, 1) := by decide +kernel
theorem dX10_image_2 : decode cX10_image 2 = .ok (.invokestatic 79, 3) := by decide +kernel
theorem dX10_image_5 : decode cX10_image 5 = .ok (.ifCond .ne 10, 3) := by decide +kernel
theorem dX10_image_8 : decode cX10_image 8 = .ok (.aload_n 0, 1) := by decide +kernel
theorem dX10_image_9 : decode cX10_image 9 = .ok (.bipush (-2), 2) := by decide +kernel
theorem dX10_image_11 : decode cX10_image 11 = .ok (.invokevirtual 83, 3) := by decide +kernel
theorem dX10_image_14 : decode cX10_image 14 = .ok (.ireturn, 1) := by decide +kernel
theorem dX10_image_15 : decode cX10_image 15 = .ok (.aload_n 0, 1) := by decide +kernel
theorem dX10_image_16 : decode cX10_image 16 = .ok (.getfield 68, 3) := by decide +kernel
theorem dX10_image_19 : decode cX10_image 19 = .ok (.iload_n 1, 1) := by decide +kernel
theorem dX10_image_20 : decode cX10_image 20 = .ok (.aaload, 1) := by decide +kernel
theorem dX10_image_21 : decode cX10_image 21 = .ok (.aload_n 0, 1) := by decide +kernel
theorem dX10_image_22 : decode cX10_image 22 = .ok (.getfield 61, 3) := by decide +kernel
theorem dX10_image_25 : decode cX10_image 25 = .ok (.invokevirtual 118, 3) := by decide +kernel
theorem dX10_image_28 : decode cX10_image 28 = .ok (.aload_n 0, 1) := by decide +kernel
theorem dX10_image_29 : decode cX10_image 29 = .ok (.getfield 9, 3) := by decide +kernel
theorem dX10_image_32 : decode cX10_image 32 = .ok (.iload_n 1, 1) := by decide +kernel
theorem dX10_image_33 : decode cX10_image 33 = .ok (.iconst 1, 1) := by decide +kernel
theorem dX10_image_34 : decode cX10_image 34 = .ok (.bastore, 1) := by decide +kernel
theorem dX10_image_35 : decode cX10_image 35 = .ok (.iconst 1, 1) := by decide +kernel
theorem dX10_image_36 : decode cX10_image 36 = .ok (.ireturn, 1) := by decide +kernel
def x_X10_image (M : gMem) (p1 : Int32) : Option (Int32 × gMem) := Option.bind (x_X10_isBelow p1 2) (fun v1 => (if v1 = 0 then Option.bind (x_X10_refuseBad M (-2)) (fun v9 => some (v9.1, v9.2)) else gd (gin p1 2) (Option.bind (x_X1_copy M (2 + (p1).toNatClampNeg) 0) (fun v6 => gd (gin p1 2) (some (1, gwr v6 0 35 (p1).toNatClampNeg 1))))))
set_option maxRecDepth 100000 in
set_option maxHeartbeats 4000000 in
theorem c_X10_image {l : Launch} {Y : gY} {M : gMem} {p1 : Int32} {r : (Int32 × gMem)} (hx : x_X10_image M p1 = some r) : Met l yX10_image (gws yX10_image cX10_image 2 (some .int)) { frames := 3, cells := 0, slots := 0, locals := 84 } (va_Pc [.ref (gad Y 0 34), .int p1] (gS0 Y M)) (gQi Y r) 0 0 (gA Y) := by
  refine gmet (lv := [(0, .ref (gad Y 0 34)), (1, .int p1)]) "GuestStaff" (by decide) rfl (Nat.le_of_ble_eq_true rfl) rfl (fun X hC hF => ?_)
  unfold x_X10_image at hx
  refine q_iload_n hC 1 dX10_image_0 rfl rfl ?_
  refine q_iconst hC 2 dX10_image_1 rfl ?_
  obtain ⟨v1, q2, hx⟩ := gb_e hx
  refine q_kzp (q_rS (As := [.int p1, .int 2]) (rest := []) hC mm_X10_isBelow wM_X10_79 (c_X10_isBelow q2) ⟨rfl, rfl, Nat.le_of_ble_eq_true rfl, Nat.le_of_ble_eq_true rfl⟩ rfl rfl (Nat.le_of_ble_eq_true rfl) dX10_image_2) (fun z3 => ?_)
  refine q_if_ne hC 15 dX10_image_5 rfl (fun h4 => ?_) (fun h4 => ?_)
  · have hx := gi_n h4 hx
    refine q_aload_n hC 0 dX10_image_15 rfl rfl ?_
    refine gf_X10_68 hC dX10_image_16 ?_
    refine q_iload_n hC 1 dX10_image_19 rfl rfl ?_
    have g5 := (gd_e hx).1
    have hx := (gd_e hx).2
    refine q_aald (t0 := 3) hC (gV_t (by decide) (by decide)) rfl rfl rfl g5 (gimg_i g5) dX10_image_20 ?_
    refine q_aload_n hC 0 dX10_image_21 rfl rfl ?_
    refine gf_X10_61 hC dX10_image_22 ?_
    obtain ⟨v6, q7, hx⟩ := gb_e hx
    refine q_kv (q_rV (As := [.ref (gad Y 0 0)]) (rest := []) hC mm_X1_copy wM_X10_118 (c_X1_copy (gc_img g5) (by decide) q7) ⟨rfl, rfl, Nat.le_of_ble_eq_true rfl, Nat.le_of_ble_eq_true rfl⟩ (gV_h (gc_img g5) (by decide)) rfl rfl rfl rfl (Nat.le_of_ble_eq_true rfl) dX10_image_25) ?_
    refine q_aload_n hC 0 dX10_image_28 rfl rfl ?_
    refine gf_X10_9 hC dX10_image_29 ?_
    refine q_iload_n hC 1 dX10_image_32 rfl rfl ?_
    refine q_iconst hC 1 dX10_image_33 rfl ?_
    have g8 := (gd_e hx).1
    have hx := (gd_e hx).2
    refine q_zast hC (gV_t (by decide) (by decide)) (fun _ => rfl) g8 rfl dX10_image_34 ?_
    refine q_iconst hC 1 dX10_image_35 rfl ?_
    exact q_iret hC hF dX10_image_36 (Option.some.inj hx)
  · have hx := gi_p h4 hx
    refine q_aload_n hC 0 dX10_image_8 rfl rfl ?_
    refine q_bipush hC (-2) dX10_image_9 rfl ?_
    obtain ⟨v9, q10, hx⟩ := gb_e hx
    refine q_ki (q_rV (As := [.int (-2)]) (rest := []) hC mm_X10_refuseBad wM_X10_83 (c_X10_refuseBad q10) ⟨rfl, rfl, Nat.le_of_ble_eq_true rfl, Nat.le_of_ble_eq_true rfl⟩ (gV_t (by decide) (by decide)) rfl rfl rfl rfl (Nat.le_of_ble_eq_true rfl) dX10_image_11) ?_
    exact q_iret hC hF dX10_image_14 (Option.some.inj hx)

theorem dX10_from_0 : decode cX10_from 0 = .ok (.iload_n 1, 1) := by decide +kernel
theorem dX10_from_1 : decode cX10_from 1 = .ok (.iconst 2, 1) := by decide +kernel
theorem dX10_from_2 : decode cX10_from 2 = .ok (.invokestatic 79, 3) := by decide +kernel
theorem dX10_from_5 : decode cX10_from 5 = .ok (.ifCond .ne 10, 3) := by decide +kernel
theorem dX10_from_8 : decode cX10_from 8 = .ok (.aload_n 0, 1) := by decide +kernel
theorem dX10_from_9 : decode cX10_from 9 = .ok (.bipush (-2), 2) := by decide +kernel
theorem dX10_from_11 : decode cX10_from 11 = .ok (.invokevirtual 83, 3) := by decide +kernel
theorem dX10_from_14 : decode cX10_from 14 = .ok (.ireturn, 1) := by decide +kernel
theorem dX10_from_15 : decode cX10_from 15 = .ok (.aload_n 0, 1) := by decide +kernel
theorem dX10_from_16 : decode cX10_from 16 = .ok (.getfield 9, 3) := by decide +kernel
theorem dX10_from_19 : decode cX10_from 19 = .ok (.iload_n 1, 1) := by decide +kernel
theorem dX10_from_20 : decode cX10_from 20 = .ok (.baload, 1) := by decide +kernel
theorem dX10_from_21 : decode cX10_from 21 = .ok (.ifCond .ne 8, 3) := by decide +kernel
theorem dX10_from_24 : decode cX10_from 24 = .ok (.aload_n 0, 1) := by decide +kernel
theorem dX10_from_25 : decode cX10_from 25 = .ok (.invokevirtual 131, 3) := by decide +kernel
theorem dX10_from_28 : decode cX10_from 28 = .ok (.ireturn, 1) := by decide +kernel
theorem dX10_from_29 : decode cX10_from 29 = .ok (.aload_n 0, 1) := by decide +kernel
theorem dX10_from_30 : decode cX10_from 30 = .ok (.getfield 61, 3) := by decide +kernel
theorem dX10_from_33 : decode cX10_from 33 = .ok (.aload_n 0, 1) := by decide +kernel
theorem dX10_from_34 : decode cX10_from 34 = .ok (.getfield 68, 3) := by decide +kernel
theorem dX10_from_37 : decode cX10_from 37 = .ok (.iload_n 1, 1) := by decide +kernel
theorem dX10_from_38 : decode cX10_from 38 = .ok (.aaload, 1) := by decide +kernel
theorem dX10_from_39 : decode cX10_from 39 = .ok (.invokevirtual 118, 3) := by decide +kernel
theorem dX10_from_42 : decode cX10_from 42 = .ok (.iconst 1, 1) := by decide +kernel
theorem dX10_from_43 : decode cX10_from 43 = .ok (.ireturn, 1) := by decide +kernel
def x_X10_from (M : gMem) (p1 : Int32) : Option (Int32 × gMem) := Option.bind (x_X10_isBelow p1 2) (fun v1 => (if v1 = 0 then Option.bind (x_X10_refuseBad M (-2)) (fun v12 => some (v12.1, v12.2)) else gd (gin p1 2) ((if (M.1 0 35 (p1).toNatClampNeg) = 0 then Option.bind (x_X10_refuseNo M) (fun v10 => some (v10.1, v10.2)) else gd (gin p1 2) (Option.bind (x_X1_copy M 0 (2 + (p1).toNatClampNeg)) (fun v8 => some (1, v8)))))))
set_option maxRecDepth 100000 in
set_option maxHeartbeats 4000000 in
theorem c_X10_from {l : Launch} {Y : gY} {M : gMem} {p1 : Int32} {r : (Int32 × gMem)} (hx : x_X10_from M p1 = some r) : Met l yX10_from (gws yX10_from cX10_from 2 (some .int)) { frames := 3, cells := 0, slots := 0, locals := 84 } (va_Pc [.ref (gad Y 0 34), .int p1] (gS0 Y M)) (gQi Y r) 0 0 (gA Y) := by
  refine gmet (lv := [(0, .ref (gad Y 0 34)), (1, .int p1)]) "GuestStaff" (by decide) rfl (Nat.le_of_ble_eq_true rfl) rfl (fun X hC hF => ?_)
  unfold x_X10_from at hx
  refine q_iload_n hC 1 dX10_from_0 rfl rfl ?_
  refine q_iconst hC 2 dX10_from_1 rfl ?_
  obtain ⟨v1, q2, hx⟩ := gb_e hx
  refine q_kzp (q_rS (As := [.int p1, .int 2]) (rest := []) hC mm_X10_isBelow wM_X10_79 (c_X10_isBelow q2) ⟨rfl, rfl, Nat.le_of_ble_eq_true rfl, Nat.le_of_ble_eq_true rfl⟩ rfl rfl (Nat.le_of_ble_eq_true rfl) dX10_from_2) (fun z3 => ?_)
  refine q_if_ne hC 15 dX10_from_5 rfl (fun h4 => ?_) (fun h4 => ?_)
  · have hx := gi_n h4 hx
    refine q_aload_n hC 0 dX10_from_15 rfl rfl ?_
    refine gf_X10_9 hC dX10_from_16 ?_
    refine q_iload_n hC 1 dX10_from_19 rfl rfl ?_
    have g5 := (gd_e hx).1
    have hx := (gd_e hx).2
    refine q_zald hC (gV_t (by decide) (by decide)) rfl g5 dX10_from_20 ?_
    refine q_if_ne hC 29 dX10_from_21 rfl (fun h6 => ?_) (fun h6 => ?_)
    · have hx := gi_n h6 hx
      refine q_aload_n hC 0 dX10_from_29 rfl rfl ?_
      refine gf_X10_61 hC dX10_from_30 ?_
      refine q_aload_n hC 0 dX10_from_33 rfl rfl ?_
      refine gf_X10_68 hC dX10_from_34 ?_
      refine q_iload_n hC 1 dX10_from_37 rfl rfl ?_
      have g7 := (gd_e hx).1
      have hx := (gd_e hx).2
      refine q_aald (t0 := 3) hC (gV_t (by decide) (by decide)) rfl rfl rfl g7 (gimg_i g7) dX10_from_38 ?_
      obtain ⟨v8, q9, hx⟩ := gb_e hx
      refine q_kv (q_rV (As := [.ref (gad Y (2 + (p1).toNatClampNeg) 0)]) (rest := []) hC mm_X1_copy wM_X10_118 (c_X1_copy (by decide) (gc_img g7) q9) ⟨rfl, rfl, Nat.le_of_ble_eq_true rfl, Nat.le_of_ble_eq_true rfl⟩ (gV_h (by decide) (by decide)) rfl rfl rfl rfl (Nat.le_of_ble_eq_true rfl) dX10_from_39) ?_
      refine q_iconst hC 1 dX10_from_42 rfl ?_
      exact q_iret hC hF dX10_from_43 (Option.some.inj hx)
    · have hx := gi_p h6 hx
      refine q_aload_n hC 0 dX10_from_24 rfl rfl ?_
      obtain ⟨v10, q11, hx⟩ := gb_e hx
      refine q_ki (q_rV (As := []) (rest := []) hC mm_X10_refuseNo wM_X10_131 (c_X10_refuseNo q11) ⟨rfl, rfl, Nat.le_of_ble_eq_true rfl, Nat.le_of_ble_eq_true rfl⟩ (gV_t (by decide) (by decide)) rfl rfl rfl rfl (Nat.le_of_ble_eq_true rfl) dX10_from_25) ?_
      exact q_iret hC hF dX10_from_28 (Option.some.inj hx)
  · have hx := gi_p h4 hx
    refine q_aload_n hC 0 dX10_from_8 rfl rfl ?_
    refine q_bipush hC (-2) dX10_from_9 rfl ?_
    obtain ⟨v12, q13, hx⟩ := gb_e hx
    refine q_ki (q_rV (As := [.int (-2)]) (rest := []) hC mm_X10_refuseBad wM_X10_83 (c_X10_refuseBad q13) ⟨rfl, rfl, Nat.le_of_ble_eq_true rfl, Nat.le_of_ble_eq_true rfl⟩ (gV_t (by decide) (by decide)) rfl rfl rfl rfl (Nat.le_of_ble_eq_true rfl) dX10_from_11) ?_
    exact q_iret hC hF dX10_from_14 (Option.some.inj hx)

theorem dX10_status_0 : decode cX10_status 0 = .ok (.iload_n 1, 1) := by decide +kernel
theorem dX10_status_1 : decode cX10_status 1 = .ok (.aload_n 0, 1) := by decide +kernel
theorem dX10_status_2 : decode cX10_status 2 = .ok (.getfield 27, 3) := by decide +kernel
theorem dX10_status_5 : decode cX10_status 5 = .ok (.arraylength, 1) := by decide +kernel
theorem dX10_status_6 : decode cX10_status 6 = .ok (.invokestatic 79, 3) := by decide +kernel
theorem dX10_status_9 : decode cX10_status 9 = .ok (.ifCond .ne 9, 3) := by decide +kernel
theorem dX10_status_12 : decode cX10_status 12 = .ok (.aload_n 0, 1) := by decide +kernel
theorem dX10_status_13 : decode cX10_status 13 = .ok (.iconst (-1), 1) := by decide +kernel
theorem dX10_status_14 : decode cX10_status 14 = .ok (.invokevirtual 83, 3) := by decide +kernel
theorem dX10_status_17 : decode cX10_status 17 = .ok (.ireturn, 1) := by decide +kernel
theorem dX10_status_18 : decode cX10_status 18 = .ok (.aload_n 0, 1) := by decide +kernel
theorem dX10_status_19 : decode cX10_status 19 = .ok (.getfield 27, 3) := by decide +kernel
theorem dX10_status_22 : decode cX10_status 22 = .ok (.iload_n 1, 1) := by decide +kernel
theorem dX10_status_23 : decode cX10_status 23 = .ok (.iaload, 1) := by decide +kernel
theorem dX10_status_24 : decode cX10_status 24 = .ok (.ireturn, 1) := by decide +kernel
def x_X10_status (M : gMem) (p1 : Int32) : Option (Int32 × gMem) := Option.bind (x_X10_isBelow p1 3) (fun v1 => (if v1 = 0 then Option.bind (x_X10_refuseBad M (-1)) (fun v6 => some (v6.1, v6.2)) else gd (gin p1 3) (some (M.1 0 50 (p1).toNatClampNeg, M))))
set_option maxRecDepth 100000 in
set_option maxHeartbeats 4000000 in
theorem c_X10_status {l : Launch} {Y : gY} {M : gMem} {p1 : Int32} {r : (Int32 × gMem)} (hx : x_X10_status M p1 = some r) : Met l yX10_status (gws yX10_status cX10_status 2 (some .int)) { frames := 1, cells := 0, slots := 0, locals := 21 } (va_Pc [.ref (gad Y 0 34), .int p1] (gS0 Y M)) (gQi Y r) 0 0 (gA Y) := by
  refine gmet (lv := [(0, .ref (gad Y 0 34)), (1, .int p1)]) "GuestStaff" (by decide) rfl (Nat.le_of_ble_eq_true rfl) rfl (fun X hC hF => ?_)
  unfold x_X10_status at hx
  refine q_iload_n hC 1 dX10_status_0 rfl rfl ?_
  refine q_aload_n hC 0 dX10_status_1 rfl rfl ?_
  refine gf_X10_27 hC dX10_status_2 ?_
  refine q_alen hC 2 3 (gV_t (by decide) (by decide)) rfl rfl dX10_status_5 ?_
  obtain ⟨v1, q2, hx⟩ := gb_e hx
  refine q_kzp (q_rS (As := [.int p1, .int 3]) (rest := []) hC mm_X10_isBelow wM_X10_79 (c_X10_isBelow q2) ⟨rfl, rfl, Nat.le_of_ble_eq_true rfl, Nat.le_of_ble_eq_true rfl⟩ rfl rfl (Nat.le_of_ble_eq_true rfl) dX10_status_6) (fun z3 => ?_)
  refine q_if_ne hC 18 dX10_status_9 rfl (fun h4 => ?_) (fun h4 => ?_)
  · have hx := gi_n h4 hx
    refine q_aload_n hC 0 dX10_status_18 rfl rfl ?_
    refine gf_X10_27 hC dX10_status_19 ?_
    refine q_iload_n hC 1 dX10_status_22 rfl rfl ?_
    have g5 := (gd_e hx).1
    have hx := (gd_e hx).2
    refine q_iald hC 2 (gV_t (by decide) (by decide)) rfl g5 dX10_status_23 ?_
    exact q_iret hC hF dX10_status_24 (Option.some.inj hx)
  · have hx := gi_p h4 hx
    refine q_aload_n hC 0 dX10_status_12 rfl rfl ?_
    refine q_iconst hC (-1) dX10_status_13 rfl ?_
    obtain ⟨v6, q7, hx⟩ := gb_e hx
    refine q_ki (q_rV (As := [.int (-1)]) (rest := []) hC mm_X10_refuseBad wM_X10_83 (c_X10_refuseBad q7) ⟨rfl, rfl, Nat.le_of_ble_eq_true rfl, Nat.le_of_ble_eq_true rfl⟩ (gV_t (by decide) (by decide)) rfl rfl rfl rfl (Nat.le_of_ble_eq_true rfl) dX10_status_14) ?_
    exact q_iret hC hF dX10_status_17 (Option.some.inj hx)

theorem dX10_countOf_0 : decode cX10_countOf 0 = .ok (.iload_n 1, 1) := by decide +kernel
theorem dX10_countOf_1 : decode cX10_countOf 1 = .ok (.tableswitch 90 0 5 #[39, 47, 55, 63, 71, 82], 39) := by decide +kernel
theorem dX10_countOf_40 : decode cX10_countOf 40 = .ok (.aload_n 0, 1) := by decide +kernel
theorem dX10_countOf_41 : decode cX10_countOf 41 = .ok (.getfield 61, 3) := by decide +kernel
theorem dX10_countOf_44 : decode cX10_countOf 44 = .ok (.getfield 72, 3) := by decide +kernel
theorem dX10_countOf_47 : decode cX10_countOf 47 = .ok (.ireturn, 1) := by decide +kernel
theorem dX10_countOf_48 : decode cX10_countOf 48 = .ok (.aload_n 0, 1) := by decide +kernel
theorem dX10_countOf_49 : decode cX10_countOf 49 = .ok (.getfield 61, 3) := by decide +kernel
theorem dX10_countOf_52 : decode cX10_countOf 52 = .ok (.getfield 137, 3) := by decide +kernel
theorem dX10_countOf_55 : decode cX10_countOf 55 = .ok (.ireturn, 1) := by decide +kernel
theorem dX10_countOf_56 : decode cX10_countOf 56 = .ok (.aload_n 0, 1) := by decide +kernel
theorem dX10_countOf_57 : decode cX10_countOf 57 = .ok (.getfield 61, 3) := by decide +kernel
theorem dX10_countOf_60 : decode cX10_countOf 60 = .ok (.getfield 125, 3) := by decide +kernel
theorem dX10_countOf_63 : decode cX10_countOf 63 = .ok (.ireturn, 1) := by decide +kernel
theorem dX10_countOf_64 : decode cX10_countOf 64 = .ok (.aload_n 0, 1) := by decide +kernel
theorem dX10_countOf_65 : decode cX10_countOf 65 = .ok (.getfield 61, 3) := by decide +kernel
theorem dX10_countOf_68 : decode cX10_countOf 68 = .ok (.invokevirtual 250, 3) := by decide +kernel
theorem dX10_countOf_71 : decode cX10_countOf 71 = .ok (.ireturn, 1) := by decide +kernel
theorem dX10_countOf_72 : decode cX10_countOf 72 = .ok (.aload_n 0, 1) := by decide +kernel
theorem dX10_countOf_73 : decode cX10_countOf 73 = .ok (.getfield 61, 3) := by decide +kernel
theorem dX10_countOf_76 : decode cX10_countOf 76 = .ok (.getfield 197, 3) := by decide +kernel
theorem dX10_countOf_79 : decode cX10_countOf 79 = .ok (.getfield 201, 3) := by decide +kernel
theorem dX10_countOf_82 : decode cX10_countOf 82 = .ok (.ireturn, 1) := by decide +kernel
theorem dX10_countOf_83 : decode cX10_countOf 83 = .ok (.aload_n 0, 1) := by decide +kernel
theorem dX10_countOf_84 : decode cX10_countOf 84 = .ok (.getfield 61, 3) := by decide +kernel
theorem dX10_countOf_87 : decode cX10_countOf 87 = .ok (.getfield 128, 3) := by decide +kernel
theorem dX10_countOf_90 : decode cX10_countOf 90 = .ok (.ireturn, 1) := by decide +kernel
theorem dX10_countOf_91 : decode cX10_countOf 91 = .ok (.aload_n 0, 1) := by decide +kernel
theorem dX10_countOf_92 : decode cX10_countOf 92 = .ok (.getfield 16, 3) := by decide +kernel
theorem dX10_countOf_95 : decode cX10_countOf 95 = .ok (.getfield 105, 3) := by decide +kernel
theorem dX10_countOf_98 : decode cX10_countOf 98 = .ok (.ireturn, 1) := by decide +kernel
def x_X10_countOf (M : gMem) (p1 : Int32) : Option Int32 := (if p1 = 0 then some (M.1 0 0 13) else (if p1 = 1 then some (M.1 0 0 14) else (if p1 = 2 then some (M.1 0 0 15) else (if p1 = 3 then Option.bind (x_X1_servedCount M 0) (fun v5 => some v5) else (if p1 = 4 then some (M.1 0 6 1) else (if p1 = 5 then some (M.1 0 0 12) else some (M.1 0 36 1)))))))
set_option maxRecDepth 100000 in
set_option maxHeartbeats 4000000 in
theorem c_X10_countOf {l : Launch} {Y : gY} {M : gMem} {p1 : Int32} {r : Int32} (hx : x_X10_countOf M p1 = some r) : Met l yX10_countOf (gws yX10_countOf cX10_countOf 2 (some .int)) { frames := 4, cells := 0, slots := 0, locals := 88 } (va_Pc [.ref (gad Y 0 34), .int p1] (gS0 Y M)) (gQi Y (r, M)) 0 0 (gA Y) := by
  refine gmet (lv := [(0, .ref (gad Y 0 34)), (1, .int p1)]) "GuestStaff" (by decide) rfl (Nat.le_of_ble_eq_true rfl) rfl (fun X hC hF => ?_)
  unfold x_X10_countOf at hx
  refine q_iload_n hC 1 dX10_countOf_0 rfl rfl ?_
  by_cases h1 : p1 = 0
  · have hx := gi_p h1 hx
    refine q_tin hC 0 40 h1 dX10_countOf_1 (by decide) (by decide) rfl rfl ?_
    refine q_aload_n hC 0 dX10_countOf_40 rfl rfl ?_
    refine gf_X10_61 hC dX10_countOf_41 ?_
    refine gf_X10_72 hC (by decide) dX10_countOf_44 ?_
    exact q_iret hC hF dX10_countOf_47 (congrArg (fun z => (z, M)) (Option.some.inj hx))
  have hx := gi_n h1 hx
  by_cases h2 : p1 = 1
  · have hx := gi_p h2 hx
    refine q_tin hC 1 48 h2 dX10_countOf_1 (by decide) (by decide) rfl rfl ?_
    refine q_aload_n hC 0 dX10_countOf_48 rfl rfl ?_
    refine gf_X10_61 hC dX10_countOf_49 ?_
    refine gf_X10_137 hC (by decide) dX10_countOf_52 ?_
    exact q_iret hC hF dX10_countOf_55 (congrArg (fun z => (z, M)) (Option.some.inj hx))
  have hx := gi_n h2 hx
  by_cases h3 : p1 = 2
  · have hx := gi_p h3 hx
    refine q_tin hC 2 56 h3 dX10_countOf_1 (by decide) (by decide) rfl rfl ?_
    refine q_aload_n hC 0 dX10_countOf_56 rfl rfl ?_
    refine gf_X10_61 hC dX10_countOf_57 ?_
    refine gf_X10_125 hC (by decide) dX10_countOf_60 ?_
    exact q_iret hC hF dX10_countOf_63 (congrArg (fun z => (z, M)) (Option.some.inj hx))
  have hx := gi_n h3 hx
  by_cases h4 : p1 = 3
  · have hx := gi_p h4 hx
    refine q_tin hC 3 64 h4 dX10_countOf_1 (by decide) (by decide) rfl rfl ?_
    refine q_aload_n hC 0 dX10_countOf_64 rfl rfl ?_
    refine gf_X10_61 hC dX10_countOf_65 ?_
    obtain ⟨v5, q6, hx⟩ := gb_e hx
    refine q_kip (q_rV (As := []) (rest := []) hC mm_X1_servedCount wM_X10_250 (c_X1_servedCount (by decide) q6) ⟨rfl, rfl, Nat.le_of_ble_eq_true rfl, Nat.le_of_ble_eq_true rfl⟩ (gV_h (by decide) (by decide)) rfl rfl rfl rfl (Nat.le_of_ble_eq_true rfl) dX10_countOf_68) ?_
    exact q_iret hC hF dX10_countOf_71 (congrArg (fun z => (z, M)) (Option.some.inj hx))
  have hx := gi_n h4 hx
  by_cases h7 : p1 = 4
  · have hx := gi_p h7 hx
    refine q_tin hC 4 72 h7 dX10_countOf_1 (by decide) (by decide) rfl rfl ?_
    refine q_aload_n hC 0 dX10_countOf_72 rfl rfl ?_
    refine gf_X10_61 hC dX10_countOf_73 ?_
    refine gf_X10_197 hC (by decide) dX10_countOf_76 ?_
    refine gf_X10_201 hC (by decide) dX10_countOf_79 ?_
    exact q_iret hC hF dX10_countOf_82 (congrArg (fun z => (z, M)) (Option.some.inj hx))
  have hx := gi_n h7 hx
  by_cases h8 : p1 = 5
  · have hx := gi_p h8 hx
    refine q_tin hC 5 83 h8 dX10_countOf_1 (by decide) (by decide) rfl rfl ?_
    refine q_aload_n hC 0 dX10_countOf_83 rfl rfl ?_
    refine gf_X10_61 hC dX10_countOf_84 ?_
    refine gf_X10_128 hC (by decide) dX10_countOf_87 ?_
    exact q_iret hC hF dX10_countOf_90 (congrArg (fun z => (z, M)) (Option.some.inj hx))
  have hx := gi_n h8 hx
  have th1 := lv_neT (a := 0) h1 (by decide)
  have th2 := lv_neT (a := 1) h2 (by decide)
  have th3 := lv_neT (a := 2) h3 (by decide)
  have th4 := lv_neT (a := 3) h4 (by decide)
  have th7 := lv_neT (a := 4) h7 (by decide)
  have th8 := lv_neT (a := 5) h8 (by decide)
  refine q_tout hC 91 (by omega) dX10_countOf_1 rfl ?_
  refine q_aload_n hC 0 dX10_countOf_91 rfl rfl ?_
  refine gf_X10_16 hC dX10_countOf_92 ?_
  refine gf_X10_105 hC dX10_countOf_95 ?_
  exact q_iret hC hF dX10_countOf_98 (congrArg (fun z => (z, M)) (Option.some.inj hx))

theorem dX10_count_0 : decode cX10_count 0 = .ok (.iload_n 1, 1) := by decide +kernel
theorem dX10_count_1 : decode cX10_count 1 = .ok (.bipush 7, 2) := by decide +kernel
theorem dX10_count_3 : decode cX10_count 3 = .ok (.invokestatic 79, 3) := by decide +kernel
theorem dX10_count_6 : decode cX10_count 6 = .ok (.ifCond .eq 11, 3) := by decide +kernel
theorem dX10_count_9 : decode cX10_count 9 = .ok (.aload_n 0, 1) := by decide +kernel
theorem dX10_count_10 : decode cX10_count 10 = .ok (.iload_n 1, 1) := by decide +kernel
theorem dX10_count_11 : decode cX10_count 11 = .ok (.invokevirtual 236, 3) := by decide +kernel
theorem dX10_count_14 : decode cX10_count 14 = .ok (.goto 9, 3) := by decide +kernel
theorem dX10_count_17 : decode cX10_count 17 = .ok (.aload_n 0, 1) := by decide +kernel
theorem dX10_count_18 : decode cX10_count 18 = .ok (.bipush (-2), 2) := by decide +kernel
theorem dX10_count_20 : decode cX10_count 20 = .ok (.invokevirtual 83, 3) := by decide +kernel
theorem dX10_count_23 : decode cX10_count 23 = .ok (.ireturn, 1) := by decide +kernel
def x_X10_count (M : gMem) (p1 : Int32) : Option (Int32 × gMem) := Option.bind (x_X10_isBelow p1 7) (fun v1 => (if v1 = 0 then Option.bind (x_X10_refuseBad M (-2)) (fun v5 => some (v5.1, v5.2)) else Option.bind (x_X10_countOf M p1) (fun v7 => some (v7, M))))
set_option maxRecDepth 100000 in
set_option maxHeartbeats 4000000 in
theorem c_X10_count {l : Launch} {Y : gY} {M : gMem} {p1 : Int32} {r : (Int32 × gMem)} (hx : x_X10_count M p1 = some r) : Met l yX10_count (gws yX10_count cX10_count 2 (some .int)) { frames := 5, cells := 0, slots := 0, locals := 109 } (va_Pc [.ref (gad Y 0 34), .int p1] (gS0 Y M)) (gQi Y r) 0 0 (gA Y) := by
  refine gmet (lv := [(0, .ref (gad Y 0 34)), (1, .int p1)]) "GuestStaff" (by decide) rfl (Nat.le_of_ble_eq_true rfl) rfl (fun X hC hF => ?_)
  unfold x_X10_count at hx
  refine q_iload_n hC 1 dX10_count_0 rfl rfl ?_
  refine q_bipush hC 7 dX10_count_1 rfl ?_
  obtain ⟨v1, q2, hx⟩ := gb_e hx
  refine q_kzp (q_rS (As := [.int p1, .int 7]) (rest := []) hC mm_X10_isBelow wM_X10_79 (c_X10_isBelow q2) ⟨rfl, rfl, Nat.le_of_ble_eq_true rfl, Nat.le_of_ble_eq_true rfl⟩ rfl rfl (Nat.le_of_ble_eq_true rfl) dX10_count_3) (fun z3 => ?_)
  refine q_if_eq hC 17 dX10_count_6 rfl (fun h4 => ?_) (fun h4 => ?_)
  · have hx := gi_p h4 hx
    refine q_aload_n hC 0 dX10_count_17 rfl rfl ?_
    refine q_bipush hC (-2) dX10_count_18 rfl ?_
    obtain ⟨v5, q6, hx⟩ := gb_e hx
    refine q_ki (q_rV (As := [.int (-2)]) (rest := []) hC mm_X10_refuseBad wM_X10_83 (c_X10_refuseBad q6) ⟨rfl, rfl, Nat.le_of_ble_eq_true rfl, Nat.le_of_ble_eq_true rfl⟩ (gV_t (by decide) (by decide)) rfl rfl rfl rfl (Nat.le_of_ble_eq_true rfl) dX10_count_20) ?_
    exact q_iret hC hF dX10_count_23 (Option.some.inj hx)
  · have hx := gi_n h4 hx
    refine q_aload_n hC 0 dX10_count_9 rfl rfl ?_
    refine q_iload_n hC 1 dX10_count_10 rfl rfl ?_
    obtain ⟨v7, q8, hx⟩ := gb_e hx
    refine q_kip (q_rV (As := [.int p1]) (rest := []) hC mm_X10_countOf wM_X10_236 (c_X10_countOf q8) ⟨rfl, rfl, Nat.le_of_ble_eq_true rfl, Nat.le_of_ble_eq_true rfl⟩ (gV_t (by decide) (by decide)) rfl rfl rfl rfl (Nat.le_of_ble_eq_true rfl) dX10_count_11) ?_
    refine q_goto hC 23 dX10_count_14 rfl ?_
    exact q_iret hC hF dX10_count_23 (Option.some.inj hx)

theorem dX10_digest_0 : decode cX10_digest 0 = .ok (.ldc2_w 239, 3) := by decide +kernel
theorem dX10_digest_3 : decode cX10_digest 3 = .ok (.lstore_n 1, 1) := by decide +kernel
theorem dX10_digest_4 : decode cX10_digest 4 = .ok (.iconst 0, 1) := by decide +kernel
theorem dX10_digest_5 : decode cX10_digest 5 = .ok (.istore_n 3, 1) := by decide +kernel
theorem dX10_digest_6 : decode cX10_digest 6 = .ok (.iload_n 3, 1) := by decide +kernel
theorem dX10_digest_7 : decode cX10_digest 7 = .ok (.bipush 7, 2) := by decide +kernel
theorem dX10_digest_9 : decode cX10_digest 9 = .ok (.if_icmp .ge 22, 3) := by decide +kernel
theorem dX10_digest_12 : decode cX10_digest 12 = .ok (.ldc2_w 241, 3) := by decide +kernel
theorem dX10_digest_15 : decode cX10_digest 15 = .ok (.lload_n 1, 1) := by decide +kernel
theorem dX10_digest_16 : decode cX10_digest 16 = .ok (.lmul, 1) := by decide +kernel
theorem dX10_digest_17 : decode cX10_digest 17 = .ok (.aload_n 0, 1) := by decide +kernel
theorem dX10_digest_18 : decode cX10_digest 18 = .ok (.iload_n 3, 1) := by decide +kernel
theorem dX10_digest_19 : decode cX10_digest 19 = .ok (.invokevirtual 236, 3) := by decide +kernel
theorem dX10_digest_22 : decode cX10_digest 22 = .ok (.i2l, 1) := by decide +kernel
theorem dX10_digest_23 : decode cX10_digest 23 = .ok (.ladd, 1) := by decide +kernel
theorem dX10_digest_24 : decode cX10_digest 24 = .ok (.lstore_n 1, 1) := by decide +kernel
theorem dX10_digest_25 : decode cX10_digest 25 = .ok (.iinc 3 1, 3) := by decide +kernel
theorem dX10_digest_28 : decode cX10_digest 28 = .ok (.goto (-22), 3) := by decide +kernel
theorem dX10_digest_31 : decode cX10_digest 31 = .ok (.aload_n 0, 1) := by decide +kernel
theorem dX10_digest_32 : decode cX10_digest 32 = .ok (.getfield 61, 3) := by decide +kernel
theorem dX10_digest_35 : decode cX10_digest 35 = .ok (.lload_n 1, 1) := by decide +kernel
theorem dX10_digest_36 : decode cX10_digest 36 = .ok (.invokevirtual 243, 3) := by decide +kernel
theorem dX10_digest_39 : decode cX10_digest 39 = .ok (.lstore_n 1, 1) := by decide +kernel
theorem dX10_digest_40 : decode cX10_digest 40 = .ok (.aload_n 0, 1) := by decide +kernel
theorem dX10_digest_41 : decode cX10_digest 41 = .ok (.getfield 61, 3) := by decide +kernel
theorem dX10_digest_44 : decode cX10_digest 44 = .ok (.getfield 197, 3) := by decide +kernel
theorem dX10_digest_47 : decode cX10_digest 47 = .ok (.lload_n 1, 1) := by decide +kernel
theorem dX10_digest_48 : decode cX10_digest 48 = .ok (.invokevirtual 247, 3) := by decide +kernel
theorem dX10_digest_51 : decode cX10_digest 51 = .ok (.lstore_n 1, 1) := by decide +kernel
theorem dX10_digest_52 : decode cX10_digest 52 = .ok (.ldc2_w 241, 3) := by decide +kernel
theorem dX10_digest_55 : decode cX10_digest 55 = .ok (.ldc2_w 241, 3) := by decide +kernel
theorem dX10_digest_58 : decode cX10_digest 58 = .ok (.lload_n 1, 1) := by decide +kernel
theorem dX10_digest_59 : decode cX10_digest 59 = .ok (.lmul, 1) := by decide +kernel
theorem dX10_digest_60 : decode cX10_digest 60 = .ok (.aload_n 0, 1) := by decide +kernel
theorem dX10_digest_61 : decode cX10_digest 61 = .ok (.getfield 31, 3) := by decide +kernel
theorem dX10_digest_64 : decode cX10_digest 64 = .ok (.ladd, 1) := by decide +kernel
theorem dX10_digest_65 : decode cX10_digest 65 = .ok (.lmul, 1) := by decide +kernel
theorem dX10_digest_66 : decode cX10_digest 66 = .ok (.aload_n 0, 1) := by decide +kernel
theorem dX10_digest_67 : decode cX10_digest 67 = .ok (.getfield 35, 3) := by decide +kernel
theorem dX10_digest_70 : decode cX10_digest 70 = .ok (.ladd, 1) := by decide +kernel
theorem dX10_digest_71 : decode cX10_digest 71 = .ok (.lreturn, 1) := by decide +kernel
def s_X10_digest_6 (M : gMem) (b1 : Int64) (b3 : Int32) : Option ((Int64 × Int32) ⊕ (Int64 × Int32)) := (if 7 ≤ b3 then some (.inr (b1, b3)) else Option.bind (x_X10_countOf M b3) (fun v2 => some (.inl ((31 * b1) + (Int32.toInt64 v2), b3 + 1))))
def x_X10_digest (M : gMem) : Option Int64 := Option.bind (itr FU (fun s => s_X10_digest_6 M s.1 s.2) (1097, 0)) (fun e4 => Option.bind (x_X1_addGuestsTo M 0 e4.1) (fun v5 => Option.bind (x_X3_addTo M 0 v5) (fun v7 => some ((31 * ((31 * v7) + (M.2 34 7))) + (M.2 34 8)))))
set_option maxRecDepth 100000 in
set_option maxHeartbeats 4000000 in
theorem w_X10_digest_6 {X : gX} {Y : gY} {M : gMem} {r : Int64} (hC : gC X Y cX10_digest "GuestStaff" 4 5 109) (hF : gF X Y (some .long) (gQl Y (r, M))) {e : (Int64 × Int32)} (kE : ∀ s : (Int64 × Int32), e = s → gWW X Y 4 31 [(0, .ref (gad Y 0 34)), (1, .long s.1)] [] M) : ∀ (F : Nat) (s : (Int64 × Int32)), itr F (fun s => s_X10_digest_6 M s.1 s.2) s = some e → gWW X Y 4 6 [(0, .ref (gad Y 0 34)), (1, .long s.1), (3, .int s.2)] [] M := by
  intro F s
  refine itr_w (P := fun s => gWW X Y 4 6 [(0, .ref (gad Y 0 34)), (1, .long s.1), (3, .int s.2)] [] M) (fun s o hx kI kx => ?_) F s
  obtain ⟨b1, b3⟩ := s
  have hx : s_X10_digest_6 M b1 b3 = some o := hx
  have kE : ∀ s : (Int64 × Int32), o = .inr s → gWW X Y 4 31 [(0, .ref (gad Y 0 34)), (1, .long s.1)] [] M := fun s q => kE s (kx _ q).symm
  unfold s_X10_digest_6 at hx
  refine q_iload_n hC 2 dX10_digest_6 rfl rfl ?_
  refine q_bipush hC 7 dX10_digest_7 rfl ?_
  refine q_ic_ge hC 31 dX10_digest_9 rfl (fun h1 => ?_) (fun h1 => ?_)
  · have hx := gi_p h1 hx
    exact q_sub [0, 1] rfl (kE (b1, b3) (Option.some.inj hx).symm)
  · have hx := gi_n h1 hx
    refine q_ldc2 hC 31 dX10_digest_12 wC_X10_241 ?_
    refine q_lload_n hC 1 dX10_digest_15 rfl rfl ?_
    refine q_lmul hC dX10_digest_16 ?_
    refine q_aload_n hC 0 dX10_digest_17 rfl rfl ?_
    refine q_iload_n hC 2 dX10_digest_18 rfl rfl ?_
    obtain ⟨v2, q3, hx⟩ := gb_e hx
    refine q_kip (q_rV (As := [.int b3]) (rest := [.long (31 * b1)]) hC mm_X10_countOf wM_X10_236 (c_X10_countOf q3) ⟨rfl, rfl, Nat.le_of_ble_eq_true rfl, Nat.le_of_ble_eq_true rfl⟩ (gV_t (by decide) (by decide)) rfl rfl rfl rfl (Nat.le_of_ble_eq_true rfl) dX10_digest_19) ?_
    refine q_i2l hC dX10_digest_22 ?_
    refine q_ladd hC dX10_digest_23 ?_
    refine q_lstore_n hC [(1, .long ((31 * b1) + (Int32.toInt64 v2))), (0, .ref (gad Y 0 34)), (3, .int b3)] dX10_digest_24 rfl (by decide) rfl ?_
    refine q_iinc hC 2 1 [(3, .int (b3 + 1)), (1, .long ((31 * b1) + (Int32.toInt64 v2))), (0, .ref (gad Y 0 34))] dX10_digest_25 rfl rfl (by decide) rfl ?_
    refine q_goto hC 6 dX10_digest_28 rfl ?_
    exact q_sub [2, 1, 0] rfl (kI ((31 * b1) + (Int32.toInt64 v2), b3 + 1) (Option.some.inj hx).symm)
set_option maxRecDepth 100000 in
set_option maxHeartbeats 4000000 in
theorem c_X10_digest {l : Launch} {Y : gY} {M : gMem} {r : Int64} (hx : x_X10_digest M = some r) : Met l yX10_digest (gws yX10_digest cX10_digest 4 (some .long)) { frames := 5, cells := 0, slots := 0, locals := 109 } (va_Pc [.ref (gad Y 0 34)] (gS0 Y M)) (gQl Y (r, M)) 0 0 (gA Y) := by
  refine gmet (lv := [(0, .ref (gad Y 0 34))]) "GuestStaff" (by decide) rfl (Nat.le_of_ble_eq_true rfl) rfl (fun X hC hF => ?_)
  unfold x_X10_digest at hx
  refine q_ldc2 hC 1097 dX10_digest_0 wC_X10_239 ?_
  refine q_lstore_n hC [(1, .long 1097), (0, .ref (gad Y 0 34))] dX10_digest_3 rfl (by decide) rfl ?_
  refine q_iconst hC 0 dX10_digest_4 rfl ?_
  refine q_istore_n hC [(3, .int 0), (1, .long 1097), (0, .ref (gad Y 0 34))] dX10_digest_5 rfl (by decide) rfl ?_
  obtain ⟨e4, qe4, hx⟩ := gb_e hx
  refine q_sub [2, 1, 0] rfl (w_X10_digest_6 hC hF (e := e4) (fun s q => ?_) _ _ qe4)
  · subst q
    refine q_aload_n hC 0 dX10_digest_31 rfl rfl ?_
    refine gf_X10_61 hC dX10_digest_32 ?_
    refine q_lload_n hC 1 dX10_digest_35 rfl rfl ?_
    obtain ⟨v5, q6, hx⟩ := gb_e hx
    refine q_klp (q_rV (As := [.long e4.1]) (rest := []) hC mm_X1_addGuestsTo wM_X10_243 (c_X1_addGuestsTo (by decide) q6) ⟨rfl, rfl, Nat.le_of_ble_eq_true rfl, Nat.le_of_ble_eq_true rfl⟩ (gV_h (by decide) (by decide)) rfl rfl rfl rfl (Nat.le_of_ble_eq_true rfl) dX10_digest_36) ?_
    refine q_lstore_n hC [(1, .long v5), (0, .ref (gad Y 0 34))] dX10_digest_39 rfl (by decide) rfl ?_
    refine q_aload_n hC 1 dX10_digest_40 rfl rfl ?_
    refine gf_X10_61 hC dX10_digest_41 ?_
    refine gf_X10_197 hC (by decide) dX10_digest_44 ?_
    refine q_lload_n hC 0 dX10_digest_47 rfl rfl ?_
    obtain ⟨v7, q8, hx⟩ := gb_e hx
    refine q_klp (q_rV (As := [.long v5]) (rest := []) hC mm_X3_addTo wM_X10_247 (c_X3_addTo (by decide) q8) ⟨rfl, rfl, Nat.le_of_ble_eq_true rfl, Nat.le_of_ble_eq_true rfl⟩ (gV_h (by decide) (by decide)) rfl rfl rfl rfl (Nat.le_of_ble_eq_true rfl) dX10_digest_48) ?_
    refine q_lstore_n hC [(1, .long v7), (0, .ref (gad Y 0 34))] dX10_digest_51 rfl (by decide) rfl ?_
    refine q_ldc2 hC 31 dX10_digest_52 wC_X10_241 ?_
    refine q_ldc2 hC 31 dX10_digest_55 wC_X10_241 ?_
    refine q_lload_n hC 0 dX10_digest_58 rfl rfl ?_
    refine q_lmul hC dX10_digest_59 ?_
    refine q_aload_n hC 1 dX10_digest_60 rfl rfl ?_
    refine gf_X10_31 hC dX10_digest_61 ?_
    refine q_ladd hC dX10_digest_64 ?_
    refine q_lmul hC dX10_digest_65 ?_
    refine q_aload_n hC 1 dX10_digest_66 rfl rfl ?_
    refine gf_X10_35 hC dX10_digest_67 ?_
    refine q_ladd hC dX10_digest_70 ?_
    exact q_lret hC hF dX10_digest_71 (congrArg (fun z => (z, M)) (Option.some.inj hx))
