theorem dX11_read_0 : decode cX11_read 0 = .ok (.aload_n 0, 1) := by decide +kernel
theorem dX11_read_1 : decode cX11_read 1 = .ok (.iconst 0, 1) := by decide +kernel
theorem dX11_read_2 : decode cX11_read 2 = .ok (.invokevirtual 149, 3) := by decide +kernel
theorem dX11_read_5 : decode cX11_read 5 = .ok (.ifCond .ge 11, 3) := by decide +kernel
theorem dX11_read_8 : decode cX11_read 8 = .ok (.bipush (-10), 2) := by decide +kernel
theorem dX11_read_10 : decode cX11_read 10 = .ok (.aload_n 0, 1) := by decide +kernel
theorem dX11_read_11 : decode cX11_read 11 = .ok (.getfield 107, 3) := by decide +kernel
theorem dX11_read_14 : decode cX11_read 14 = .ok (.isub, 1) := by decide +kernel
theorem dX11_read_15 : decode cX11_read 15 = .ok (.ireturn, 1) := by decide +kernel
theorem dX11_read_16 : decode cX11_read 16 = .ok (.aload_n 0, 1) := by decide +kernel
theorem dX11_read_17 : decode cX11_read 17 = .ok (.iconst 1, 1) := by decide +kernel
theorem dX11_read_18 : decode cX11_read 18 = .ok (.invokevirtual 149, 3) := by decide +kernel
theorem dX11_read_21 : decode cX11_read 21 = .ok (.ireturn, 1) := by decide +kernel
def x_X11_read (M : gMem) : Option (Int32 × gMem) := Option.bind (x_X11_readText M 0) (fun v1 => (if 0 ≤ v1.1 then Option.bind (x_X11_readText v1.2 1) (fun v4 => some (v4.1, v4.2)) else some ((-10) - (v1.2.1 0 59 9), v1.2)))
set_option maxRecDepth 100000 in
set_option maxHeartbeats 4000000 in
theorem c_X11_read {l : Launch} {Y : gY} {M : gMem} {r : (Int32 × gMem)} (hx : x_X11_read M = some r) : Met l yX11_read (gws yX11_read cX11_read 1 (some .int)) { frames := 5, cells := 0, slots := 0, locals := 112 } (va_Pc [.ref (gad Y 0 59)] (gS0 Y M)) (gQi Y r) 0 0 (gA Y) := by
  refine gmet (lv := [(0, .ref (gad Y 0 59))]) "GuestStaffModel" (by decide) rfl (Nat.le_of_ble_eq_true rfl) rfl (fun X hC hF => ?_)
  unfold x_X11_read at hx
  refine q_aload_n hC 0 dX11_read_0 rfl rfl ?_
  refine q_iconst hC 0 dX11_read_1 rfl ?_
  obtain ⟨v1, q2, hx⟩ := gb_e hx
  refine q_ki (q_rV (As := [.int 0]) (rest := []) hC mm_X11_readText wM_X11_149 (c_X11_readText q2) ⟨rfl, rfl, Nat.le_of_ble_eq_true rfl, Nat.le_of_ble_eq_true rfl⟩ (gV_t (by decide) (by decide)) rfl rfl rfl rfl (Nat.le_of_ble_eq_true rfl) dX11_read_2) ?_
  refine q_if_ge hC 16 dX11_read_5 rfl (fun h3 => ?_) (fun h3 => ?_)
  · have hx := gi_p h3 hx
    refine q_aload_n hC 0 dX11_read_16 rfl rfl ?_
    refine q_iconst hC 1 dX11_read_17 rfl ?_
    obtain ⟨v4, q5, hx⟩ := gb_e hx
    refine q_ki (q_rV (As := [.int 1]) (rest := []) hC mm_X11_readText wM_X11_149 (c_X11_readText q5) ⟨rfl, rfl, Nat.le_of_ble_eq_true rfl, Nat.le_of_ble_eq_true rfl⟩ (gV_t (by decide) (by decide)) rfl rfl rfl rfl (Nat.le_of_ble_eq_true rfl) dX11_read_18) ?_
    exact q_iret hC hF dX11_read_21 (Option.some.inj hx)
  · have hx := gi_n h3 hx
    refine q_bipush hC (-10) dX11_read_8 rfl ?_
    refine q_aload_n hC 0 dX11_read_10 rfl rfl ?_
    refine gf_X11_107 hC dX11_read_11 ?_
    refine q_isub hC dX11_read_14 ?_
    exact q_iret hC hF dX11_read_15 (Option.some.inj hx)

theorem dX11_canServe_0 : decode cX11_canServe 0 = .ok (.iload_n 1, 1) := by decide +kernel
theorem dX11_canServe_1 : decode cX11_canServe 1 = .ok (.iload_n 2, 1) := by decide +kernel
theorem dX11_canServe_2 : decode cX11_canServe 2 = .ok (.if_icmp .eq 31, 3) := by decide +kernel
theorem dX11_canServe_5 : decode cX11_canServe 5 = .ok (.aload_n 0, 1) := by decide +kernel
theorem dX11_canServe_6 : decode cX11_canServe 6 = .ok (.getfield 7, 3) := by decide +kernel
theorem dX11_canServe_9 : decode cX11_canServe 9 = .ok (.bipush 31, 2) := by decide +kernel
theorem dX11_canServe_11 : decode cX11_canServe 11 = .ok (.iload_n 1, 1) := by decide +kernel
theorem dX11_canServe_12 : decode cX11_canServe 12 = .ok (.iadd, 1) := by decide +kernel
theorem dX11_canServe_13 : decode cX11_canServe 13 = .ok (.iaload, 1) := by decide +kernel
theorem dX11_canServe_14 : decode cX11_canServe 14 = .ok (.aload_n 0, 1) := by decide +kernel
theorem dX11_canServe_15 : decode cX11_canServe 15 = .ok (.getfield 7, 3) := by decide +kernel
theorem dX11_canServe_18 : decode cX11_canServe 18 = .ok (.bipush 24, 2) := by decide +kernel
theorem dX11_canServe_20 : decode cX11_canServe 20 = .ok (.iload_n 2, 1) := by decide +kernel
theorem dX11_canServe_21 : decode cX11_canServe 21 = .ok (.iadd, 1) := by decide +kernel
theorem dX11_canServe_22 : decode cX11_canServe 22 = .ok (.iaload, 1) := by decide +kernel
theorem dX11_canServe_23 : decode cX11_canServe 23 = .ok (.invokestatic 153, 3) := by decide +kernel
theorem dX11_canServe_26 : decode cX11_canServe 26 = .ok (.ifCond .eq 7, 3) := by decide +kernel
theorem dX11_canServe_29 : decode cX11_canServe 29 = .ok (.iconst 1, 1) := by decide +kernel
theorem dX11_canServe_30 : decode cX11_canServe 30 = .ok (.goto 4, 3) := by decide +kernel
theorem dX11_canServe_33 : decode cX11_canServe 33 = .ok (.iconst 0, 1) := by decide +kernel
theorem dX11_canServe_34 : decode cX11_canServe 34 = .ok (.ireturn, 1) := by decide +kernel
def x_X11_canServe (M : gMem) (p1 : Int32) (p2 : Int32) : Option Int32 := (if p1 = p2 then some 0 else gd (gin (31 + p1) 70) (gd (gin (24 + p2) 70) (Option.bind (x_X11_has (M.1 0 60 (31 + p1).toNatClampNeg) (M.1 0 60 (24 + p2).toNatClampNeg)) (fun v4 => (if v4 = 0 then some 0 else some 1)))))
set_option maxRecDepth 100000 in
set_option maxHeartbeats 4000000 in
theorem c_X11_canServe {l : Launch} {Y : gY} {M : gMem} {p1 : Int32} {p2 : Int32} {r : Int32} (hx : x_X11_canServe M p1 p2 = some r) : Met l yX11_canServe (gws yX11_canServe cX11_canServe 3 (some .boolean)) { frames := 1, cells := 0, slots := 0, locals := 21 } (va_Pc [.ref (gad Y 0 59), .int p1, .int p2] (gS0 Y M)) (gQz Y (r, M)) 0 0 (gA Y) := by
  refine gmet (lv := [(0, .ref (gad Y 0 59)), (1, .int p1), (2, .int p2)]) "GuestStaffModel" (by decide) rfl (Nat.le_of_ble_eq_true rfl) rfl (fun X hC hF => ?_)
  unfold x_X11_canServe at hx
  refine q_iload_n hC 1 dX11_canServe_0 rfl rfl ?_
  refine q_iload_n hC 2 dX11_canServe_1 rfl rfl ?_
  refine q_ic_eq hC 33 dX11_canServe_2 rfl (fun h1 => ?_) (fun h1 => ?_)
  · have hx := gi_p h1 hx
    refine q_iconst hC 0 dX11_canServe_33 rfl ?_
    exact q_zret hC hF dX11_canServe_34 (Or.inl rfl) (congrArg (fun z => (z, M)) (Option.some.inj hx))
  · have hx := gi_n h1 hx
    refine q_aload_n hC 0 dX11_canServe_5 rfl rfl ?_
    refine gf_X11_7 hC dX11_canServe_6 ?_
    refine q_bipush hC 31 dX11_canServe_9 rfl ?_
    refine q_iload_n hC 1 dX11_canServe_11 rfl rfl ?_
    refine q_iadd hC dX11_canServe_12 ?_
    have g2 := (gd_e hx).1
    have hx := (gd_e hx).2
    refine q_iald hC 69 (gV_t (by decide) (by decide)) rfl g2 dX11_canServe_13 ?_
    refine q_aload_n hC 0 dX11_canServe_14 rfl rfl ?_
    refine gf_X11_7 hC dX11_canServe_15 ?_
    refine q_bipush hC 24 dX11_canServe_18 rfl ?_
    refine q_iload_n hC 2 dX11_canServe_20 rfl rfl ?_
    refine q_iadd hC dX11_canServe_21 ?_
    have g3 := (gd_e hx).1
    have hx := (gd_e hx).2
    refine q_iald hC 69 (gV_t (by decide) (by decide)) rfl g3 dX11_canServe_22 ?_
    obtain ⟨v4, q5, hx⟩ := gb_e hx
    refine q_kzp (q_rS (As := [.int (M.1 0 60 (31 + p1).toNatClampNeg), .int (M.1 0 60 (24 + p2).toNatClampNeg)]) (rest := []) hC mm_X11_has wM_X11_153 (c_X11_has q5) ⟨rfl, rfl, Nat.le_of_ble_eq_true rfl, Nat.le_of_ble_eq_true rfl⟩ rfl rfl (Nat.le_of_ble_eq_true rfl) dX11_canServe_23) (fun z6 => ?_)
    refine q_if_eq hC 33 dX11_canServe_26 rfl (fun h7 => ?_) (fun h7 => ?_)
    · have hx := gi_p h7 hx
      refine q_iconst hC 0 dX11_canServe_33 rfl ?_
      exact q_zret hC hF dX11_canServe_34 (Or.inl rfl) (congrArg (fun z => (z, M)) (Option.some.inj hx))
    · have hx := gi_n h7 hx
      refine q_iconst hC 1 dX11_canServe_29 rfl ?_
      refine q_goto hC 34 dX11_canServe_30 rfl ?_
      exact q_zret hC hF dX11_canServe_34 (Or.inr rfl) (congrArg (fun z => (z, M)) (Option.some.inj hx))

theorem dX11_contentBy_0 : decode cX11_contentBy 0 = .ok (.iload_n 0, 1) := by decide +kernel
theorem dX11_contentBy_1 : decode cX11_contentBy 1 = .ok (.tableswitch 80 1 5 #[53, 35, 41, 53, 38], 35) := by decide +kernel
theorem dX11_contentBy_36 : decode cX11_contentBy 36 = .ok (.bipush 10, 2) := by decide +kernel
theorem dX11_contentBy_38 : decode cX11_contentBy 38 = .ok (.ireturn, 1) := by decide +kernel
theorem dX11_contentBy_39 : decode cX11_contentBy 39 = .ok (.bipush 6, 2) := by decide +kernel
theorem dX11_contentBy_41 : decode cX11_contentBy 41 = .ok (.ireturn, 1) := by decide +kernel
theorem dX11_contentBy_42 : decode cX11_contentBy 42 = .ok (.iload_n 2, 1) := by decide +kernel
theorem dX11_contentBy_43 : decode cX11_contentBy 43 = .ok (.iconst 2, 1) := by decide +kernel
theorem dX11_contentBy_44 : decode cX11_contentBy 44 = .ok (.irem, 1) := by decide +kernel
theorem dX11_contentBy_45 : decode cX11_contentBy 45 = .ok (.ifCond .ne 7, 3) := by decide +kernel
theorem dX11_contentBy_48 : decode cX11_contentBy 48 = .ok (.iconst 3, 1) := by decide +kernel
theorem dX11_contentBy_49 : decode cX11_contentBy 49 = .ok (.goto 4, 3) := by decide +kernel
theorem dX11_contentBy_52 : decode cX11_contentBy 52 = .ok (.iconst 5, 1) := by decide +kernel
theorem dX11_contentBy_53 : decode cX11_contentBy 53 = .ok (.ireturn, 1) := by decide +kernel
theorem dX11_contentBy_54 : decode cX11_contentBy 54 = .ok (.iload_n 0, 1) := by decide +kernel
theorem dX11_contentBy_55 : decode cX11_contentBy 55 = .ok (.iconst 4, 1) := by decide +kernel
theorem dX11_contentBy_56 : decode cX11_contentBy 56 = .ok (.if_icmp .ne 13, 3) := by decide +kernel
theorem dX11_contentBy_59 : decode cX11_contentBy 59 = .ok (.iload_n 2, 1) := by decide +kernel
theorem dX11_contentBy_60 : decode cX11_contentBy 60 = .ok (.iconst 4, 1) := by decide +kernel
theorem dX11_contentBy_61 : decode cX11_contentBy 61 = .ok (.irem, 1) := by decide +kernel
theorem dX11_contentBy_62 : decode cX11_contentBy 62 = .ok (.ifCond .ne 7, 3) := by decide +kernel
theorem dX11_contentBy_65 : decode cX11_contentBy 65 = .ok (.iconst 0, 1) := by decide +kernel
theorem dX11_contentBy_66 : decode cX11_contentBy 66 = .ok (.goto 14, 3) := by decide +kernel
theorem dX11_contentBy_69 : decode cX11_contentBy 69 = .ok (.iload_n 1, 1) := by decide +kernel
theorem dX11_contentBy_70 : decode cX11_contentBy 70 = .ok (.iconst 1, 1) := by decide +kernel
theorem dX11_contentBy_71 : decode cX11_contentBy 71 = .ok (.if_icmp .ne 8, 3) := by decide +kernel
theorem dX11_contentBy_74 : decode cX11_contentBy 74 = .ok (.bipush 8, 2) := by decide +kernel
theorem dX11_contentBy_76 : decode cX11_contentBy 76 = .ok (.goto 4, 3) := by decide +kernel
theorem dX11_contentBy_79 : decode cX11_contentBy 79 = .ok (.iconst 5, 1) := by decide +kernel
theorem dX11_contentBy_80 : decode cX11_contentBy 80 = .ok (.ireturn, 1) := by decide +kernel
theorem dX11_contentBy_81 : decode cX11_contentBy 81 = .ok (.iconst 5, 1) := by decide +kernel
theorem dX11_contentBy_82 : decode cX11_contentBy 82 = .ok (.ireturn, 1) := by decide +kernel
def j_X11_contentBy_69 (p0 : Int32) (p1 : Int32) (p2 : Int32) : Option Int32 := (if p1 = 1 then some 8 else some 5)
def j_X11_contentBy_54 (p0 : Int32) (p1 : Int32) (p2 : Int32) : Option Int32 := (if p0 = 4 then (if (p2 - p2 / 4 * 4) = 0 then some 0 else j_X11_contentBy_69 p0 p1 p2) else j_X11_contentBy_69 p0 p1 p2)
def x_X11_contentBy (p0 : Int32) (p1 : Int32) (p2 : Int32) : Option Int32 := (if p0 = 1 then j_X11_contentBy_54 p0 p1 p2 else (if p0 = 2 then some 10 else (if p0 = 3 then (if (p2 - p2 / 2 * 2) = 0 then some 3 else some 5) else (if p0 = 4 then j_X11_contentBy_54 p0 p1 p2 else (if p0 = 5 then some 6 else some 5)))))
set_option maxRecDepth 100000 in
set_option maxHeartbeats 4000000 in
theorem c_X11_contentBy {l : Launch} {Y : gY} {M : gMem} {p0 : Int32} {p1 : Int32} {p2 : Int32} {r : Int32} (hx : x_X11_contentBy p0 p1 p2 = some r) : Met l yX11_contentBy (gws yX11_contentBy cX11_contentBy 3 (some .int)) { frames := 0, cells := 0, slots := 0, locals := 0 } (va_Pc [.int p0, .int p1, .int p2] (gS0 Y M)) (gQi Y (r, M)) 0 0 (gA Y) := by
  refine gmet (lv := [(0, .int p0), (1, .int p1), (2, .int p2)]) "GuestStaffModel" (by decide) rfl (Nat.le_of_ble_eq_true rfl) rfl (fun X hC hF => ?_)
  have J69 : ∀ (_ : Unit), j_X11_contentBy_69 p0 p1 p2 = some r → gWW X Y 3 69 [(1, .int p1)] [] M := by
    intro _ hx
    unfold j_X11_contentBy_69 at hx
    refine q_iload_n hC 0 dX11_contentBy_69 rfl rfl ?_
    refine q_iconst hC 1 dX11_contentBy_70 rfl ?_
    refine q_ic_ne hC 79 dX11_contentBy_71 rfl (fun h3 => ?_) (fun h3 => ?_)
    · have hx := gi_n h3 hx
      refine q_iconst hC 5 dX11_contentBy_79 rfl ?_
      exact q_iret hC hF dX11_contentBy_80 (congrArg (fun z => (z, M)) (Option.some.inj hx))
    · have hx := gi_p h3 hx
      refine q_bipush hC 8 dX11_contentBy_74 rfl ?_
      refine q_goto hC 80 dX11_contentBy_76 rfl ?_
      exact q_iret hC hF dX11_contentBy_80 (congrArg (fun z => (z, M)) (Option.some.inj hx))
  have J54 : ∀ (_ : Unit), j_X11_contentBy_54 p0 p1 p2 = some r → gWW X Y 3 54 [(0, .int p0), (1, .int p1), (2, .int p2)] [] M := by
    intro _ hx
    unfold j_X11_contentBy_54 at hx
    refine q_iload_n hC 0 dX11_contentBy_54 rfl rfl ?_
    refine q_iconst hC 4 dX11_contentBy_55 rfl ?_
    refine q_ic_ne hC 69 dX11_contentBy_56 rfl (fun h2 => ?_) (fun h2 => ?_)
    · have hx := gi_n h2 hx
      exact q_sub [1] rfl (J69 () hx)
    · have hx := gi_p h2 hx
      refine q_iload_n hC 2 dX11_contentBy_59 rfl rfl ?_
      refine q_iconst hC 4 dX11_contentBy_60 rfl ?_
      refine q_irem hC dX11_contentBy_61 (by decide) ?_
      refine q_if_ne hC 69 dX11_contentBy_62 rfl (fun h4 => ?_) (fun h4 => ?_)
      · have hx := gi_n h4 hx
        exact q_sub [1] rfl (J69 () hx)
      · have hx := gi_p h4 hx
        refine q_iconst hC 0 dX11_contentBy_65 rfl ?_
        refine q_goto hC 80 dX11_contentBy_66 rfl ?_
        exact q_iret hC hF dX11_contentBy_80 (congrArg (fun z => (z, M)) (Option.some.inj hx))
  unfold x_X11_contentBy at hx
  refine q_iload_n hC 0 dX11_contentBy_0 rfl rfl ?_
  by_cases h1 : p0 = 1
  · have hx := gi_p h1 hx
    refine q_tin hC 1 54 h1 dX11_contentBy_1 (by decide) (by decide) rfl rfl ?_
    exact q_sub [0, 1, 2] rfl (J54 () hx)
  have hx := gi_n h1 hx
  by_cases h5 : p0 = 2
  · have hx := gi_p h5 hx
    refine q_tin hC 2 36 h5 dX11_contentBy_1 (by decide) (by decide) rfl rfl ?_
    refine q_bipush hC 10 dX11_contentBy_36 rfl ?_
    exact q_iret hC hF dX11_contentBy_38 (congrArg (fun z => (z, M)) (Option.some.inj hx))
  have hx := gi_n h5 hx
  by_cases h6 : p0 = 3
  · have hx := gi_p h6 hx
    refine q_tin hC 3 42 h6 dX11_contentBy_1 (by decide) (by decide) rfl rfl ?_
    refine q_iload_n hC 2 dX11_contentBy_42 rfl rfl ?_
    refine q_iconst hC 2 dX11_contentBy_43 rfl ?_
    refine q_irem hC dX11_contentBy_44 (by decide) ?_
    refine q_if_ne hC 52 dX11_contentBy_45 rfl (fun h7 => ?_) (fun h7 => ?_)
    · have hx := gi_n h7 hx
      refine q_iconst hC 5 dX11_contentBy_52 rfl ?_
      exact q_iret hC hF dX11_contentBy_53 (congrArg (fun z => (z, M)) (Option.some.inj hx))
    · have hx := gi_p h7 hx
      refine q_iconst hC 3 dX11_contentBy_48 rfl ?_
      refine q_goto hC 53 dX11_contentBy_49 rfl ?_
      exact q_iret hC hF dX11_contentBy_53 (congrArg (fun z => (z, M)) (Option.some.inj hx))
  have hx := gi_n h6 hx
  by_cases h8 : p0 = 4
  · have hx := gi_p h8 hx
    refine q_tin hC 4 54 h8 dX11_contentBy_1 (by decide) (by decide) rfl rfl ?_
    exact q_sub [0, 1, 2] rfl (J54 () hx)
  have hx := gi_n h8 hx
  by_cases h9 : p0 = 5
  · have hx := gi_p h9 hx
    refine q_tin hC 5 39 h9 dX11_contentBy_1 (by decide) (by decide) rfl rfl ?_
    refine q_bipush hC 6 dX11_contentBy_39 rfl ?_
    exact q_iret hC hF dX11_contentBy_41 (congrArg (fun z => (z, M)) (Option.some.inj hx))
  have hx := gi_n h9 hx
  have th1 := lv_neT (a := 1) h1 (by decide)
  have th5 := lv_neT (a := 2) h5 (by decide)
  have th6 := lv_neT (a := 3) h6 (by decide)
  have th8 := lv_neT (a := 4) h8 (by decide)
  have th9 := lv_neT (a := 5) h9 (by decide)
  refine q_tout hC 81 (by omega) dX11_contentBy_1 rfl ?_
  refine q_iconst hC 5 dX11_contentBy_81 rfl ?_
  exact q_iret hC hF dX11_contentBy_82 (congrArg (fun z => (z, M)) (Option.some.inj hx))

theorem dX11_workBy_0 : decode cX11_workBy 0 = .ok (.aload_n 0, 1) := by decide +kernel
theorem dX11_workBy_1 : decode cX11_workBy 1 = .ok (.getfield 7, 3) := by decide +kernel
theorem dX11_workBy_4 : decode cX11_workBy 4 = .ok (.bipush 17, 2) := by decide +kernel
theorem dX11_workBy_6 : decode cX11_workBy 6 = .ok (.iload_n 1, 1) := by decide +kernel
theorem dX11_workBy_7 : decode cX11_workBy 7 = .ok (.iadd, 1) := by decide +kernel
theorem dX11_workBy_8 : decode cX11_workBy 8 = .ok (.iaload, 1) := by decide +kernel
theorem dX11_workBy_9 : decode cX11_workBy 9 = .ok (.istore_n 3, 1) := by decide +kernel
theorem dX11_workBy_10 : decode cX11_workBy 10 = .ok (.iconst 2, 1) := by decide +kernel
theorem dX11_workBy_11 : decode cX11_workBy 11 = .ok (.iload_n 2, 1) := by decide +kernel
theorem dX11_workBy_12 : decode cX11_workBy 12 = .ok (.iadd, 1) := by decide +kernel
theorem dX11_workBy_13 : decode cX11_workBy 13 = .ok (.istore 4, 2) := by decide +kernel
theorem dX11_workBy_15 : decode cX11_workBy 15 = .ok (.iload_n 3, 1) := by decide +kernel
theorem dX11_workBy_16 : decode cX11_workBy 16 = .ok (.iconst 2, 1) := by decide +kernel
theorem dX11_workBy_17 : decode cX11_workBy 17 = .ok (.if_icmp .ne 8, 3) := by decide +kernel
theorem dX11_workBy_20 : decode cX11_workBy 20 = .ok (.iload 4, 2) := by decide +kernel
theorem dX11_workBy_22 : decode cX11_workBy 22 = .ok (.goto 30, 3) := by decide +kernel
theorem dX11_workBy_25 : decode cX11_workBy 25 = .ok (.iload_n 3, 1) := by decide +kernel
theorem dX11_workBy_26 : decode cX11_workBy 26 = .ok (.iconst 5, 1) := by decide +kernel
theorem dX11_workBy_27 : decode cX11_workBy 27 = .ok (.if_icmp .ne 10, 3) := by decide +kernel
theorem dX11_workBy_30 : decode cX11_workBy 30 = .ok (.iload 4, 2) := by decide +kernel
theorem dX11_workBy_32 : decode cX11_workBy 32 = .ok (.iconst 2, 1) := by decide +kernel
theorem dX11_workBy_33 : decode cX11_workBy 33 = .ok (.idiv, 1) := by decide +kernel
theorem dX11_workBy_34 : decode cX11_workBy 34 = .ok (.goto 18, 3) := by decide +kernel
theorem dX11_workBy_37 : decode cX11_workBy 37 = .ok (.iload_n 3, 1) := by decide +kernel
theorem dX11_workBy_38 : decode cX11_workBy 38 = .ok (.iconst 1, 1) := by decide +kernel
theorem dX11_workBy_39 : decode cX11_workBy 39 = .ok (.if_icmp .eq 8, 3) := by decide +kernel
theorem dX11_workBy_42 : decode cX11_workBy 42 = .ok (.iload_n 3, 1) := by decide +kernel
theorem dX11_workBy_43 : decode cX11_workBy 43 = .ok (.iconst 4, 1) := by decide +kernel
theorem dX11_workBy_44 : decode cX11_workBy 44 = .ok (.if_icmp .ne 7, 3) := by decide +kernel
theorem dX11_workBy_47 : decode cX11_workBy 47 = .ok (.iconst 1, 1) := by decide +kernel
theorem dX11_workBy_48 : decode cX11_workBy 48 = .ok (.goto 4, 3) := by decide +kernel
theorem dX11_workBy_51 : decode cX11_workBy 51 = .ok (.iconst 2, 1) := by decide +kernel
theorem dX11_workBy_52 : decode cX11_workBy 52 = .ok (.ireturn, 1) := by decide +kernel
def x_X11_workBy (M : gMem) (p1 : Int32) (p2 : Int32) : Option Int32 := gd (gin (17 + p1) 70) ((if (M.1 0 60 (17 + p1).toNatClampNeg) = 2 then some (2 + p2) else (if (M.1 0 60 (17 + p1).toNatClampNeg) = 5 then some ((2 + p2) / 2) else (if (M.1 0 60 (17 + p1).toNatClampNeg) = 1 then some 1 else (if (M.1 0 60 (17 + p1).toNatClampNeg) = 4 then some 1 else some 2)))))
set_option maxRecDepth 100000 in
set_option maxHeartbeats 4000000 in
theorem c_X11_workBy {l : Launch} {Y : gY} {M : gMem} {p1 : Int32} {p2 : Int32} {r : Int32} (hx : x_X11_workBy M p1 p2 = some r) : Met l yX11_workBy (gws yX11_workBy cX11_workBy 5 (some .int)) { frames := 0, cells := 0, slots := 0, locals := 0 } (va_Pc [.ref (gad Y 0 59), .int p1, .int p2] (gS0 Y M)) (gQi Y (r, M)) 0 0 (gA Y) := by
  refine gmet (lv := [(0, .ref (gad Y 0 59)), (1, .int p1), (2, .int p2)]) "GuestStaffModel" (by decide) rfl (Nat.le_of_ble_eq_true rfl) rfl (fun X hC hF => ?_)
  unfold x_X11_workBy at hx
  refine q_aload_n hC 0 dX11_workBy_0 rfl rfl ?_
  refine gf_X11_7 hC dX11_workBy_1 ?_
  refine q_bipush hC 17 dX11_workBy_4 rfl ?_
  refine q_iload_n hC 1 dX11_workBy_6 rfl rfl ?_
  refine q_iadd hC dX11_workBy_7 ?_
  have g1 := (gd_e hx).1
  have hx := (gd_e hx).2
  refine q_iald hC 69 (gV_t (by decide) (by decide)) rfl g1 dX11_workBy_8 ?_
  refine q_istore_n hC [(3, .int (M.1 0 60 (17 + p1).toNatClampNeg)), (0, .ref (gad Y 0 59)), (1, .int p1), (2, .int p2)] dX11_workBy_9 rfl (by decide) rfl ?_
  refine q_iconst hC 2 dX11_workBy_10 rfl ?_
  refine q_iload_n hC 3 dX11_workBy_11 rfl rfl ?_
  refine q_iadd hC dX11_workBy_12 ?_
  refine q_istore hC [(4, .int (2 + p2)), (3, .int (M.1 0 60 (17 + p1).toNatClampNeg)), (0, .ref (gad Y 0 59)), (1, .int p1), (2, .int p2)] dX11_workBy_13 (by decide) rfl ?_
  refine q_iload_n hC 1 dX11_workBy_15 rfl rfl ?_
  refine q_iconst hC 2 dX11_workBy_16 rfl ?_
  refine q_ic_ne hC 25 dX11_workBy_17 rfl (fun h2 => ?_) (fun h2 => ?_)
  · have hx := gi_n h2 hx
    refine q_iload_n hC 1 dX11_workBy_25 rfl rfl ?_
    refine q_iconst hC 5 dX11_workBy_26 rfl ?_
    refine q_ic_ne hC 37 dX11_workBy_27 rfl (fun h3 => ?_) (fun h3 => ?_)
    · have hx := gi_n h3 hx
      refine q_iload_n hC 1 dX11_workBy_37 rfl rfl ?_
      refine q_iconst hC 1 dX11_workBy_38 rfl ?_
      refine q_ic_eq hC 47 dX11_workBy_39 rfl (fun h4 => ?_) (fun h4 => ?_)
      · have hx := gi_p h4 hx
        refine q_iconst hC 1 dX11_workBy_47 rfl ?_
        refine q_goto hC 52 dX11_workBy_48 rfl ?_
        exact q_iret hC hF dX11_workBy_52 (congrArg (fun z => (z, M)) (Option.some.inj hx))
      · have hx := gi_n h4 hx
        refine q_iload_n hC 1 dX11_workBy_42 rfl rfl ?_
        refine q_iconst hC 4 dX11_workBy_43 rfl ?_
        refine q_ic_ne hC 51 dX11_workBy_44 rfl (fun h5 => ?_) (fun h5 => ?_)
        · have hx := gi_n h5 hx
          refine q_iconst hC 2 dX11_workBy_51 rfl ?_
          exact q_iret hC hF dX11_workBy_52 (congrArg (fun z => (z, M)) (Option.some.inj hx))
        · have hx := gi_p h5 hx
          refine q_iconst hC 1 dX11_workBy_47 rfl ?_
          refine q_goto hC 52 dX11_workBy_48 rfl ?_
          exact q_iret hC hF dX11_workBy_52 (congrArg (fun z => (z, M)) (Option.some.inj hx))
    · have hx := gi_p h3 hx
      refine q_iload hC 0 dX11_workBy_30 rfl ?_
      refine q_iconst hC 2 dX11_workBy_32 rfl ?_
      refine q_idiv hC dX11_workBy_33 (by decide) ?_
      refine q_goto hC 52 dX11_workBy_34 rfl ?_
      exact q_iret hC hF dX11_workBy_52 (congrArg (fun z => (z, M)) (Option.some.inj hx))
  · have hx := gi_p h2 hx
    refine q_iload hC 0 dX11_workBy_20 rfl ?_
    refine q_goto hC 52 dX11_workBy_22 rfl ?_
    exact q_iret hC hF dX11_workBy_52 (congrArg (fun z => (z, M)) (Option.some.inj hx))

theorem dX11_serverOf_0 : decode cX11_serverOf 0 = .ok (.iconst 0, 1) := by decide +kernel
theorem dX11_serverOf_1 : decode cX11_serverOf 1 = .ok (.istore_n 2, 1) := by decide +kernel
theorem dX11_serverOf_2 : decode cX11_serverOf 2 = .ok (.iload_n 2, 1) := by decide +kernel
theorem dX11_serverOf_3 : decode cX11_serverOf 3 = .ok (.aload_n 0, 1) := by decide +kernel
theorem dX11_serverOf_4 : decode cX11_serverOf 4 = .ok (.getfield 7, 3) := by decide +kernel
theorem dX11_serverOf_7 : decode cX11_serverOf 7 = .ok (.bipush 16, 2) := by decide +kernel
theorem dX11_serverOf_9 : decode cX11_serverOf 9 = .ok (.iaload, 1) := by decide +kernel
theorem dX11_serverOf_10 : decode cX11_serverOf 10 = .ok (.if_icmp .ge 32, 3) := by decide +kernel
theorem dX11_serverOf_13 : decode cX11_serverOf 13 = .ok (.aload_n 0, 1) := by decide +kernel
theorem dX11_serverOf_14 : decode cX11_serverOf 14 = .ok (.getfield 7, 3) := by decide +kernel
theorem dX11_serverOf_17 : decode cX11_serverOf 17 = .ok (.iconst 2, 1) := by decide +kernel
theorem dX11_serverOf_18 : decode cX11_serverOf 18 = .ok (.iload_n 2, 1) := by decide +kernel
theorem dX11_serverOf_19 : decode cX11_serverOf 19 = .ok (.iadd, 1) := by decide +kernel
theorem dX11_serverOf_20 : decode cX11_serverOf 20 = .ok (.iaload, 1) := by decide +kernel
theorem dX11_serverOf_21 : decode cX11_serverOf 21 = .ok (.iload_n 1, 1) := by decide +kernel
theorem dX11_serverOf_22 : decode cX11_serverOf 22 = .ok (.if_icmp .ne 14, 3) := by decide +kernel
theorem dX11_serverOf_25 : decode cX11_serverOf 25 = .ok (.aload_n 0, 1) := by decide +kernel
theorem dX11_serverOf_26 : decode cX11_serverOf 26 = .ok (.iload_n 2, 1) := by decide +kernel
theorem dX11_serverOf_27 : decode cX11_serverOf 27 = .ok (.iload_n 1, 1) := by decide +kernel
theorem dX11_serverOf_28 : decode cX11_serverOf 28 = .ok (.invokevirtual 156, 3) := by decide +kernel
theorem dX11_serverOf_31 : decode cX11_serverOf 31 = .ok (.ifCond .eq 5, 3) := by decide +kernel
theorem dX11_serverOf_34 : decode cX11_serverOf 34 = .ok (.iload_n 2, 1) := by decide +kernel
theorem dX11_serverOf_35 : decode cX11_serverOf 35 = .ok (.ireturn, 1) := by decide +kernel
theorem dX11_serverOf_36 : decode cX11_serverOf 36 = .ok (.iinc 2 1, 3) := by decide +kernel
theorem dX11_serverOf_39 : decode cX11_serverOf 39 = .ok (.goto (-37), 3) := by decide +kernel
theorem dX11_serverOf_42 : decode cX11_serverOf 42 = .ok (.iconst (-1), 1) := by decide +kernel
theorem dX11_serverOf_43 : decode cX11_serverOf 43 = .ok (.ireturn, 1) := by decide +kernel
def j_X11_serverOf_2_36 (M : gMem) (a1 : Int32) (b2 : Int32) : Option (Int32 ⊕ (Int32 ⊕ Int32)) := some (.inl (b2 + 1))
def s_X11_serverOf_2 (M : gMem) (a1 : Int32) (b2 : Int32) : Option (Int32 ⊕ (Int32 ⊕ Int32)) := (if (M.1 0 60 16) ≤ b2 then some (.inr (.inl b2)) else gd (gin (2 + b2) 70) ((if (M.1 0 60 (2 + b2).toNatClampNeg) = a1 then Option.bind (x_X11_canServe M b2 a1) (fun v4 => (if v4 = 0 then j_X11_serverOf_2_36 M a1 b2 else some (.inr (.inr b2)))) else j_X11_serverOf_2_36 M a1 b2)))
def x_X11_serverOf (M : gMem) (p1 : Int32) : Option Int32 := Option.bind (itr FU (fun s => s_X11_serverOf_2 M p1 s) 0) (fun e8 => Sum.elim (fun s9 => some (-1)) (fun z10 => some z10) e8)
set_option maxRecDepth 100000 in
set_option maxHeartbeats 4000000 in
theorem w_X11_serverOf_2 {X : gX} {Y : gY} {M : gMem} {a1 : Int32} {r : Int32} (hC : gC X Y cX11_serverOf "GuestStaffModel" 3 2 43) (hF : gF X Y (some .int) (gQi Y (r, M))) {e : (Int32 ⊕ Int32)} (kE : ∀ s : Int32, e = .inl s → gWW X Y 3 42 [] [] M) (kR : ∀ z : Int32, e = .inr z → z = r) : ∀ (F : Nat) (s : Int32), itr F (fun s => s_X11_serverOf_2 M a1 s) s = some e → gWW X Y 3 2 [(0, .ref (gad Y 0 59)), (1, .int a1), (2, .int s)] [] M := by
  intro F s
  refine itr_w (P := fun s => gWW X Y 3 2 [(0, .ref (gad Y 0 59)), (1, .int a1), (2, .int s)] [] M) (fun s o hx kI kx => ?_) F s
  obtain ⟨b2, rfl⟩ : ∃ z, z = s := ⟨s, rfl⟩
  have hx : s_X11_serverOf_2 M a1 b2 = some o := hx
  have kE : ∀ s : Int32, o = .inr (.inl s) → gWW X Y 3 42 [] [] M := fun s q => kE s (kx _ q).symm
  have kR : ∀ z : Int32, o = .inr (.inr z) → z = r := fun z q => kR z (kx _ q).symm
  have J36 : ∀ (b2 : Int32) , j_X11_serverOf_2_36 M a1 b2 = some o → gWW X Y 3 36 [(0, .ref (gad Y 0 59)), (1, .int a1), (2, .int b2)] [] M := by
    intro b2 hx
    unfold j_X11_serverOf_2_36 at hx
    refine q_iinc hC 2 1 [(2, .int (b2 + 1)), (0, .ref (gad Y 0 59)), (1, .int a1)] dX11_serverOf_36 rfl rfl (by decide) rfl ?_
    refine q_goto hC 2 dX11_serverOf_39 rfl ?_
    exact q_sub [1, 2, 0] rfl (kI (b2 + 1) (Option.some.inj hx).symm)
  unfold s_X11_serverOf_2 at hx
  refine q_iload_n hC 2 dX11_serverOf_2 rfl rfl ?_
  refine q_aload_n hC 0 dX11_serverOf_3 rfl rfl ?_
  refine gf_X11_7 hC dX11_serverOf_4 ?_
  refine q_bipush hC 16 dX11_serverOf_7 rfl ?_
  refine q_ialdk hC 16 69 (gV_t (by decide) (by decide)) rfl (by decide) rfl dX11_serverOf_9 ?_
  refine q_ic_ge hC 42 dX11_serverOf_10 rfl (fun h1 => ?_) (fun h1 => ?_)
  · have hx := gi_p h1 hx
    exact q_sub [] rfl (kE b2 (Option.some.inj hx).symm)
  · have hx := gi_n h1 hx
    refine q_aload_n hC 0 dX11_serverOf_13 rfl rfl ?_
    refine gf_X11_7 hC dX11_serverOf_14 ?_
    refine q_iconst hC 2 dX11_serverOf_17 rfl ?_
    refine q_iload_n hC 2 dX11_serverOf_18 rfl rfl ?_
    refine q_iadd hC dX11_serverOf_19 ?_
    have g2 := (gd_e hx).1
    have hx := (gd_e hx).2
    refine q_iald hC 69 (gV_t (by decide) (by decide)) rfl g2 dX11_serverOf_20 ?_
    refine q_iload_n hC 1 dX11_serverOf_21 rfl rfl ?_
    refine q_ic_ne hC 36 dX11_serverOf_22 rfl (fun h3 => ?_) (fun h3 => ?_)
    · have hx := gi_n h3 hx
      exact q_sub [0, 1, 2] rfl (J36 b2 hx)
    · have hx := gi_p h3 hx
      refine q_aload_n hC 0 dX11_serverOf_25 rfl rfl ?_
      refine q_iload_n hC 2 dX11_serverOf_26 rfl rfl ?_
      refine q_iload_n hC 1 dX11_serverOf_27 rfl rfl ?_
      obtain ⟨v4, q5, hx⟩ := gb_e hx
      refine q_kzp (q_rV (As := [.int b2, .int a1]) (rest := []) hC mm_X11_canServe wM_X11_156 (c_X11_canServe q5) ⟨rfl, rfl, Nat.le_of_ble_eq_true rfl, Nat.le_of_ble_eq_true rfl⟩ (gV_t (by decide) (by decide)) rfl rfl rfl rfl (Nat.le_of_ble_eq_true rfl) dX11_serverOf_28) (fun z6 => ?_)
      refine q_if_eq hC 36 dX11_serverOf_31 rfl (fun h7 => ?_) (fun h7 => ?_)
      · have hx := gi_p h7 hx
        exact q_sub [0, 1, 2] rfl (J36 b2 hx)
      · have hx := gi_n h7 hx
        refine q_iload_n hC 2 dX11_serverOf_34 rfl rfl ?_
        exact q_iret hC hF dX11_serverOf_35 (congrArg (fun z => (z, M)) (kR _ (Option.some.inj hx).symm))
set_option maxRecDepth 100000 in
set_option maxHeartbeats 4000000 in
theorem c_X11_serverOf {l : Launch} {Y : gY} {M : gMem} {p1 : Int32} {r : Int32} (hx : x_X11_serverOf M p1 = some r) : Met l yX11_serverOf (gws yX11_serverOf cX11_serverOf 3 (some .int)) { frames := 2, cells := 0, slots := 0, locals := 43 } (va_Pc [.ref (gad Y 0 59), .int p1] (gS0 Y M)) (gQi Y (r, M)) 0 0 (gA Y) := by
  refine gmet (lv := [(0, .ref (gad Y 0 59)), (1, .int p1)]) "GuestStaffModel" (by decide) rfl (Nat.le_of_ble_eq_true rfl) rfl (fun X hC hF => ?_)
  unfold x_X11_serverOf at hx
  refine q_iconst hC 0 dX11_serverOf_0 rfl ?_
  refine q_istore_n hC [(2, .int 0), (0, .ref (gad Y 0 59)), (1, .int p1)] dX11_serverOf_1 rfl (by decide) rfl ?_
  obtain ⟨e8, qe8, hx⟩ := gb_e hx
  refine q_sub [1, 2, 0] rfl (w_X11_serverOf_2 hC hF (e := e8) (fun s9 qs9 => ?_) (fun z10 qz10 => ?_) _ _ qe8)
  · subst qs9
    refine q_iconst hC (-1) dX11_serverOf_42 rfl ?_
    exact q_iret hC hF dX11_serverOf_43 (congrArg (fun z => (z, M)) (Option.some.inj hx))
  · subst qz10
    exact Option.some.inj hx

theorem dX11_contentOf_0 : decode cX11_contentOf 0 = .ok (.iload_n 2, 1) := by decide +kernel
theorem dX11_contentOf_1 : decode cX11_contentOf 1 = .ok (.ifCond .ge 7, 3) := by decide +kernel
theorem dX11_contentOf_4 : decode cX11_contentOf 4 = .ok (.iconst 0, 1) := by decide +kernel
theorem dX11_contentOf_5 : decode cX11_contentOf 5 = .ok (.goto 30, 3) := by decide +kernel
theorem dX11_contentOf_8 : decode cX11_contentOf 8 = .ok (.aload_n 0, 1) := by decide +kernel
theorem dX11_contentOf_9 : decode cX11_contentOf 9 = .ok (.getfield 7, 3) := by decide +kernel
theorem dX11_contentOf_12 : decode cX11_contentOf 12 = .ok (.bipush 17, 2) := by decide +kernel
theorem dX11_contentOf_14 : decode cX11_contentOf 14 = .ok (.iload_n 1, 1) := by decide +kernel
theorem dX11_contentOf_15 : decode cX11_contentOf 15 = .ok (.iadd, 1) := by decide +kernel
theorem dX11_contentOf_16 : decode cX11_contentOf 16 = .ok (.iaload, 1) := by decide +kernel
theorem dX11_contentOf_17 : decode cX11_contentOf 17 = .ok (.aload_n 0, 1) := by decide +kernel
theorem dX11_contentOf_18 : decode cX11_contentOf 18 = .ok (.getfield 7, 3) := by decide +kernel
theorem dX11_contentOf_21 : decode cX11_contentOf 21 = .ok (.bipush 17, 2) := by decide +kernel
theorem dX11_contentOf_23 : decode cX11_contentOf 23 = .ok (.iload_n 2, 1) := by decide +kernel
theorem dX11_contentOf_24 : decode cX11_contentOf 24 = .ok (.iadd, 1) := by decide +kernel
theorem dX11_contentOf_25 : decode cX11_contentOf 25 = .ok (.iaload, 1) := by decide +kernel
theorem dX11_contentOf_26 : decode cX11_contentOf 26 = .ok (.aload_n 0, 1) := by decide +kernel
theorem dX11_contentOf_27 : decode cX11_contentOf 27 = .ok (.getfield 7, 3) := by decide +kernel
theorem dX11_contentOf_30 : decode cX11_contentOf 30 = .ok (.iconst 0, 1) := by decide +kernel
theorem dX11_contentOf_31 : decode cX11_contentOf 31 = .ok (.iaload, 1) := by decide +kernel
theorem dX11_contentOf_32 : decode cX11_contentOf 32 = .ok (.invokestatic 159, 3) := by decide +kernel
theorem dX11_contentOf_35 : decode cX11_contentOf 35 = .ok (.ireturn, 1) := by decide +kernel
def x_X11_contentOf (M : gMem) (p1 : Int32) (p2 : Int32) : Option Int32 := (if 0 ≤ p2 then gd (gin (17 + p1) 70) (gd (gin (17 + p2) 70) (Option.bind (x_X11_contentBy (M.1 0 60 (17 + p1).toNatClampNeg) (M.1 0 60 (17 + p2).toNatClampNeg) (M.1 0 60 0)) (fun v4 => some v4))) else some 0)
set_option maxRecDepth 100000 in
set_option maxHeartbeats 4000000 in
theorem c_X11_contentOf {l : Launch} {Y : gY} {M : gMem} {p1 : Int32} {p2 : Int32} {r : Int32} (hx : x_X11_contentOf M p1 p2 = some r) : Met l yX11_contentOf (gws yX11_contentOf cX11_contentOf 3 (some .int)) { frames := 1, cells := 0, slots := 0, locals := 22 } (va_Pc [.ref (gad Y 0 59), .int p1, .int p2] (gS0 Y M)) (gQi Y (r, M)) 0 0 (gA Y) := by
  refine gmet (lv := [(0, .ref (gad Y 0 59)), (1, .int p1), (2, .int p2)]) "GuestStaffModel" (by decide) rfl (Nat.le_of_ble_eq_true rfl) rfl (fun X hC hF => ?_)
  unfold x_X11_contentOf at hx
  refine q_iload_n hC 2 dX11_contentOf_0 rfl rfl ?_
  refine q_if_ge hC 8 dX11_contentOf_1 rfl (fun h1 => ?_) (fun h1 => ?_)
  · have hx := gi_p h1 hx
    refine q_aload_n hC 0 dX11_contentOf_8 rfl rfl ?_
    refine gf_X11_7 hC dX11_contentOf_9 ?_
    refine q_bipush hC 17 dX11_contentOf_12 rfl ?_
    refine q_iload_n hC 1 dX11_contentOf_14 rfl rfl ?_
    refine q_iadd hC dX11_contentOf_15 ?_
    have g2 := (gd_e hx).1
    have hx := (gd_e hx).2
    refine q_iald hC 69 (gV_t (by decide) (by decide)) rfl g2 dX11_contentOf_16 ?_
    refine q_aload_n hC 0 dX11_contentOf_17 rfl rfl ?_
    refine gf_X11_7 hC dX11_contentOf_18 ?_
    refine q_bipush hC 17 dX11_contentOf_21 rfl ?_
    refine q_iload_n hC 2 dX11_contentOf_23 rfl rfl ?_
    refine q_iadd hC dX11_contentOf_24 ?_
    have g3 := (gd_e hx).1
    have hx := (gd_e hx).2
    refine q_iald hC 69 (gV_t (by decide) (by decide)) rfl g3 dX11_contentOf_25 ?_
    refine q_aload_n hC 0 dX11_contentOf_26 rfl rfl ?_
    refine gf_X11_7 hC dX11_contentOf_27 ?_
    refine q_iconst hC 0 dX11_contentOf_30 rfl ?_
    refine q_ialdk hC 0 69 (gV_t (by decide) (by decide)) rfl (by decide) rfl dX11_contentOf_31 ?_
    obtain ⟨v4, q5, hx⟩ := gb_e hx
    refine q_kip (q_rS (As := [.int (M.1 0 60 (17 + p1).toNatClampNeg), .int (M.1 0 60 (17 + p2).toNatClampNeg), .int (M.1 0 60 0)]) (rest := []) hC mm_X11_contentBy wM_X11_159 (c_X11_contentBy q5) ⟨rfl, rfl, Nat.le_of_ble_eq_true rfl, Nat.le_of_ble_eq_true rfl⟩ rfl rfl (Nat.le_of_ble_eq_true rfl) dX11_contentOf_32) ?_
    exact q_iret hC hF dX11_contentOf_35 (congrArg (fun z => (z, M)) (Option.some.inj hx))
  · have hx := gi_n h1 hx
    refine q_iconst hC 0 dX11_contentOf_4 rfl ?_
    refine q_goto hC 35 dX11_contentOf_5 rfl ?_
    exact q_iret hC hF dX11_contentOf_35 (congrArg (fun z => (z, M)) (Option.some.inj hx))

theorem dX11_servedMany_0 : decode cX11_servedMany 0 = .ok (.iconst 0, 1) := by decide +kernel
theorem dX11_servedMany_1 : decode cX11_servedMany 1 = .ok (.istore_n 1, 1) := by decide +kernel
theorem dX11_servedMany_2 : decode cX11_servedMany 2 = .ok (.iconst 0, 1) := by decide +kernel
theorem dX11_servedMany_3 : decode cX11_servedMany 3 = .ok (.istore_n 2, 1) := by decide +kernel
theorem dX11_servedMany_4 : decode cX11_servedMany 4 = .ok (.iload_n 2, 1) := by decide +kernel
theorem dX11_servedMany_5 : decode cX11_servedMany 5 = .ok (.aload_n 0, 1) := by decide +kernel
theorem dX11_servedMany_6 : decode cX11_servedMany 6 = .ok (.getfield 7, 3) := by decide +kernel
theorem dX11_servedMany_9 : decode cX11_servedMany 9 = .ok (.bipush 16, 2) := by decide +kernel
theorem dX11_servedMany_11 : decode cX11_servedMany 11 = .ok (.iaload, 1) := by decide +kernel
theorem dX11_servedMany_12 : decode cX11_servedMany 12 = .ok (.if_icmp .ge 25, 3) := by decide +kernel
theorem dX11_servedMany_15 : decode cX11_servedMany 15 = .ok (.iload_n 1, 1) := by decide +kernel
theorem dX11_servedMany_16 : decode cX11_servedMany 16 = .ok (.aload_n 0, 1) := by decide +kernel
theorem dX11_servedMany_17 : decode cX11_servedMany 17 = .ok (.iload_n 2, 1) := by decide +kernel
theorem dX11_servedMany_18 : decode cX11_servedMany 18 = .ok (.invokevirtual 163, 3) := by decide +kernel
theorem dX11_servedMany_21 : decode cX11_servedMany 21 = .ok (.ifCond .lt 7, 3) := by decide +kernel
theorem dX11_servedMany_24 : decode cX11_servedMany 24 = .ok (.iconst 1, 1) := by decide +kernel
theorem dX11_servedMany_25 : decode cX11_servedMany 25 = .ok (.goto 4, 3) := by decide +kernel
theorem dX11_servedMany_28 : decode cX11_servedMany 28 = .ok (.iconst 0, 1) := by decide +kernel
theorem dX11_servedMany_29 : decode cX11_servedMany 29 = .ok (.iadd, 1) := by decide +kernel
theorem dX11_servedMany_30 : decode cX11_servedMany 30 = .ok (.istore_n 1, 1) := by decide +kernel
theorem dX11_servedMany_31 : decode cX11_servedMany 31 = .ok (.iinc 2 1, 3) := by decide +kernel
theorem dX11_servedMany_34 : decode cX11_servedMany 34 = .ok (.goto (-30), 3) := by decide +kernel
theorem dX11_servedMany_37 : decode cX11_servedMany 37 = .ok (.iload_n 1, 1) := by decide +kernel
theorem dX11_servedMany_38 : decode cX11_servedMany 38 = .ok (.ireturn, 1) := by decide +kernel
def j_X11_servedMany_4_29 (M : gMem) (b2 : Int32) (t0 : Int32) (t1 : Int32) : Option ((Int32 × Int32) ⊕ (Int32 × Int32)) := some (.inl (t1 + t0, b2 + 1))
def s_X11_servedMany_4 (M : gMem) (b1 : Int32) (b2 : Int32) : Option ((Int32 × Int32) ⊕ (Int32 × Int32)) := (if (M.1 0 60 16) ≤ b2 then some (.inr (b1, b2)) else Option.bind (x_X11_serverOf M b2) (fun v2 => (if v2 < 0 then j_X11_servedMany_4_29 M b2 0 b1 else j_X11_servedMany_4_29 M b2 1 b1)))
def x_X11_servedMany (M : gMem) : Option Int32 := Option.bind (itr FU (fun s => s_X11_servedMany_4 M s.1 s.2) (0, 0)) (fun e5 => some e5.1)
set_option maxRecDepth 100000 in
set_option maxHeartbeats 4000000 in
theorem w_X11_servedMany_4 {X : gX} {Y : gY} {M : gMem} {r : Int32} (hC : gC X Y cX11_servedMany "GuestStaffModel" 3 3 65) (hF : gF X Y (some .int) (gQi Y (r, M))) {e : (Int32 × Int32)} (kE : ∀ s : (Int32 × Int32), e = s → gWW X Y 3 37 [(1, .int s.1)] [] M) : ∀ (F : Nat) (s : (Int32 × Int32)), itr F (fun s => s_X11_servedMany_4 M s.1 s.2) s = some e → gWW X Y 3 4 [(0, .ref (gad Y 0 59)), (1, .int s.1), (2, .int s.2)] [] M := by
  intro F s
  refine itr_w (P := fun s => gWW X Y 3 4 [(0, .ref (gad Y 0 59)), (1, .int s.1), (2, .int s.2)] [] M) (fun s o hx kI kx => ?_) F s
  obtain ⟨b1, b2⟩ := s
  have hx : s_X11_servedMany_4 M b1 b2 = some o := hx
  have kE : ∀ s : (Int32 × Int32), o = .inr s → gWW X Y 3 37 [(1, .int s.1)] [] M := fun s q => kE s (kx _ q).symm
  have J29 : ∀ (b2 : Int32) (t0 : Int32) (t1 : Int32) , j_X11_servedMany_4_29 M b2 t0 t1 = some o → gWW X Y 3 29 [(0, .ref (gad Y 0 59)), (2, .int b2)] [.int t0, .int t1] M := by
    intro b2 t0 t1 hx
    unfold j_X11_servedMany_4_29 at hx
    refine q_iadd hC dX11_servedMany_29 ?_
    refine q_istore_n hC [(1, .int (t1 + t0)), (0, .ref (gad Y 0 59)), (2, .int b2)] dX11_servedMany_30 rfl (by decide) rfl ?_
    refine q_iinc hC 2 1 [(2, .int (b2 + 1)), (1, .int (t1 + t0)), (0, .ref (gad Y 0 59))] dX11_servedMany_31 rfl rfl (by decide) rfl ?_
    refine q_goto hC 4 dX11_servedMany_34 rfl ?_
    exact q_sub [2, 1, 0] rfl (kI (t1 + t0, b2 + 1) (Option.some.inj hx).symm)
  unfold s_X11_servedMany_4 at hx
  refine q_iload_n hC 2 dX11_servedMany_4 rfl rfl ?_
  refine q_aload_n hC 0 dX11_servedMany_5 rfl rfl ?_
  refine gf_X11_7 hC dX11_servedMany_6 ?_
  refine q_bipush hC 16 dX11_servedMany_9 rfl ?_
  refine q_ialdk hC 16 69 (gV_t (by decide) (by decide)) rfl (by decide) rfl dX11_servedMany_11 ?_
  refine q_ic_ge hC 37 dX11_servedMany_12 rfl (fun h1 => ?_) (fun h1 => ?_)
  · have hx := gi_p h1 hx
    exact q_sub [1] rfl (kE (b1, b2) (Option.some.inj hx).symm)
  · have hx := gi_n h1 hx
    refine q_iload_n hC 1 dX11_servedMany_15 rfl rfl ?_
    refine q_aload_n hC 0 dX11_servedMany_16 rfl rfl ?_
    refine q_iload_n hC 2 dX11_servedMany_17 rfl rfl ?_
    obtain ⟨v2, q3, hx⟩ := gb_e hx
    refine q_kip (q_rV (As := [.int b2]) (rest := [.int b1]) hC mm_X11_serverOf wM_X11_163 (c_X11_serverOf q3) ⟨rfl, rfl, Nat.le_of_ble_eq_true rfl, Nat.le_of_ble_eq_true rfl⟩ (gV_t (by decide) (by decide)) rfl rfl rfl rfl (Nat.le_of_ble_eq_true rfl) dX11_servedMany_18) ?_
    refine q_if_lt hC 28 dX11_servedMany_21 rfl (fun h4 => ?_) (fun h4 => ?_)
    · have hx := gi_p h4 hx
      refine q_iconst hC 0 dX11_servedMany_28 rfl ?_
      exact q_sub [0, 2] rfl (J29 b2 0 b1 hx)
    · have hx := gi_n h4 hx
      refine q_iconst hC 1 dX11_servedMany_24 rfl ?_
      refine q_goto hC 29 dX11_servedMany_25 rfl ?_
      exact q_sub [0, 2] rfl (J29 b2 1 b1 hx)
set_option maxRecDepth 100000 in
set_option maxHeartbeats 4000000 in
theorem c_X11_servedMany {l : Launch} {Y : gY} {M : gMem} {r : Int32} (hx : x_X11_servedMany M = some r) : Met l yX11_servedMany (gws yX11_servedMany cX11_servedMany 3 (some .int)) { frames := 3, cells := 0, slots := 0, locals := 65 } (va_Pc [.ref (gad Y 0 59)] (gS0 Y M)) (gQi Y (r, M)) 0 0 (gA Y) := by
  refine gmet (lv := [(0, .ref (gad Y 0 59))]) "GuestStaffModel" (by decide) rfl (Nat.le_of_ble_eq_true rfl) rfl (fun X hC hF => ?_)
  unfold x_X11_servedMany at hx
  refine q_iconst hC 0 dX11_servedMany_0 rfl ?_
  refine q_istore_n hC [(1, .int 0), (0, .ref (gad Y 0 59))] dX11_servedMany_1 rfl (by decide) rfl ?_
  refine q_iconst hC 0 dX11_servedMany_2 rfl ?_
  refine q_istore_n hC [(2, .int 0), (1, .int 0), (0, .ref (gad Y 0 59))] dX11_servedMany_3 rfl (by decide) rfl ?_
  obtain ⟨e5, qe5, hx⟩ := gb_e hx
  refine q_sub [2, 1, 0] rfl (w_X11_servedMany_4 hC hF (e := e5) (fun s q => ?_) _ _ qe5)
  · subst q
    refine q_iload_n hC 0 dX11_servedMany_37 rfl rfl ?_
    exact q_iret hC hF dX11_servedMany_38 (congrArg (fun z => (z, M)) (Option.some.inj hx))

theorem dX11_oneHour_0 : decode cX11_oneHour 0 = .ok (.iconst 0, 1) := by decide +kernel
theorem dX11_oneHour_1 : decode cX11_oneHour 1 = .ok (.istore_n 1, 1) := by decide +kernel
theorem dX11_oneHour_2 : decode cX11_oneHour 2 = .ok (.iload_n 1, 1) := by decide +kernel
theorem dX11_oneHour_3 : decode cX11_oneHour 3 = .ok (.aload_n 0, 1) := by decide +kernel
theorem dX11_oneHour_4 : decode cX11_oneHour 4 = .ok (.getfield 7, 3) := by decide +kernel
theorem dX11_oneHour_7 : decode cX11_oneHour 7 = .ok (.bipush 16, 2) := by decide +kernel
theorem dX11_oneHour_9 : decode cX11_oneHour 9 = .ok (.iaload, 1) := by decide +kernel
theorem dX11_oneHour_10 : decode cX11_oneHour 10 = .ok (.if_icmp .ge 28, 3) := by decide +kernel
theorem dX11_oneHour_13 : decode cX11_oneHour 13 = .ok (.aload_n 0, 1) := by decide +kernel
theorem dX11_oneHour_14 : decode cX11_oneHour 14 = .ok (.getfield 7, 3) := by decide +kernel
theorem dX11_oneHour_17 : decode cX11_oneHour 17 = .ok (.iconst 1, 1) := by decide +kernel
theorem dX11_oneHour_18 : decode cX11_oneHour 18 = .ok (.dup2, 1) := by decide +kernel
theorem dX11_oneHour_19 : decode cX11_oneHour 19 = .ok (.iaload, 1) := by decide +kernel
theorem dX11_oneHour_20 : decode cX11_oneHour 20 = .ok (.aload_n 0, 1) := by decide +kernel
theorem dX11_oneHour_21 : decode cX11_oneHour 21 = .ok (.iload_n 1, 1) := by decide +kernel
theorem dX11_oneHour_22 : decode cX11_oneHour 22 = .ok (.aload_n 0, 1) := by decide +kernel
theorem dX11_oneHour_23 : decode cX11_oneHour 23 = .ok (.iload_n 1, 1) := by decide +kernel
theorem dX11_oneHour_24 : decode cX11_oneHour 24 = .ok (.invokevirtual 163, 3) := by decide +kernel
theorem dX11_oneHour_27 : decode cX11_oneHour 27 = .ok (.invokevirtual 166, 3) := by decide +kernel
theorem dX11_oneHour_30 : decode cX11_oneHour 30 = .ok (.iadd, 1) := by decide +kernel
theorem dX11_oneHour_31 : decode cX11_oneHour 31 = .ok (.iastore, 1) := by decide +kernel
theorem dX11_oneHour_32 : decode cX11_oneHour 32 = .ok (.iinc 1 1, 3) := by decide +kernel
theorem dX11_oneHour_35 : decode cX11_oneHour 35 = .ok (.goto (-33), 3) := by decide +kernel
theorem dX11_oneHour_38 : decode cX11_oneHour 38 = .ok (.iconst 0, 1) := by decide +kernel
theorem dX11_oneHour_39 : decode cX11_oneHour 39 = .ok (.istore_n 1, 1) := by decide +kernel
theorem dX11_oneHour_40 : decode cX11_oneHour 40 = .ok (.iload_n 1, 1) := by decide +kernel
theorem dX11_oneHour_41 : decode cX11_oneHour 41 = .ok (.aload_n 0, 1) := by decide +kernel
theorem dX11_oneHour_42 : decode cX11_oneHour 42 = .ok (.getfield 7, 3) := by decide +kernel
theorem dX11_oneHour_45 : decode cX11_oneHour 45 = .ok (.bipush 16, 2) := by decide +kernel
theorem dX11_oneHour_47 : decode cX11_oneHour 47 = .ok (.iaload, 1) := by decide +kernel
theorem dX11_oneHour_48 : decode cX11_oneHour 48 = .ok (.if_icmp .ge 57, 3) := by decide +kernel
theorem dX11_oneHour_51 : decode cX11_oneHour 51 = .ok (.aload_n 0, 1) := by decide +kernel
theorem dX11_oneHour_52 : decode cX11_oneHour 52 = .ok (.iload_n 1, 1) := by decide +kernel
theorem dX11_oneHour_53 : decode cX11_oneHour 53 = .ok (.invokevirtual 163, 3) := by decide +kernel
theorem dX11_oneHour_56 : decode cX11_oneHour 56 = .ok (.istore_n 2, 1) := by decide +kernel
theorem dX11_oneHour_57 : decode cX11_oneHour 57 = .ok (.iload_n 2, 1) := by decide +kernel
theorem dX11_oneHour_58 : decode cX11_oneHour 58 = .ok (.ifCond .lt 41, 3) := by decide +kernel
theorem dX11_oneHour_61 : decode cX11_oneHour 61 = .ok (.aload_n 0, 1) := by decide +kernel
theorem dX11_oneHour_62 : decode cX11_oneHour 62 = .ok (.getfield 7, 3) := by decide +kernel
theorem dX11_oneHour_65 : decode cX11_oneHour 65 = .ok (.bipush 9, 2) := by decide +kernel
theorem dX11_oneHour_67 : decode cX11_oneHour 67 = .ok (.iload_n 1, 1) := by decide +kernel
theorem dX11_oneHour_68 : decode cX11_oneHour 68 = .ok (.iadd, 1) := by decide +kernel
theorem dX11_oneHour_69 : decode cX11_oneHour 69 = .ok (.iaload, 1) := by decide +kernel
theorem dX11_oneHour_70 : decode cX11_oneHour 70 = .ok (.ifCond .le 29, 3) := by decide +kernel
theorem dX11_oneHour_73 : decode cX11_oneHour 73 = .ok (.aload_n 0, 1) := by decide +kernel
theorem dX11_oneHour_74 : decode cX11_oneHour 74 = .ok (.getfield 7, 3) := by decide +kernel
theorem dX11_oneHour_77 : decode cX11_oneHour 77 = .ok (.bipush 9, 2) := by decide +kernel
theorem dX11_oneHour_79 : decode cX11_oneHour 79 = .ok (.iload_n 1, 1) := by decide +kernel
theorem dX11_oneHour_80 : decode cX11_oneHour 80 = .ok (.iadd, 1) := by decide +kernel
theorem dX11_oneHour_81 : decode cX11_oneHour 81 = .ok (.dup2, 1) := by decide +kernel
theorem dX11_oneHour_82 : decode cX11_oneHour 82 = .ok (.iaload, 1) := by decide +kernel
theorem dX11_oneHour_83 : decode cX11_oneHour 83 = .ok (.iconst 1, 1) := by decide +kernel
theorem dX11_oneHour_84 : decode cX11_oneHour 84 = .ok (.isub, 1) := by decide +kernel
theorem dX11_oneHour_85 : decode cX11_oneHour 85 = .ok (.iastore, 1) := by decide +kernel
theorem dX11_oneHour_86 : decode cX11_oneHour 86 = .ok (.aload_n 0, 1) := by decide +kernel
theorem dX11_oneHour_87 : decode cX11_oneHour 87 = .ok (.getfield 7, 3) := by decide +kernel
theorem dX11_oneHour_90 : decode cX11_oneHour 90 = .ok (.bipush 9, 2) := by decide +kernel
theorem dX11_oneHour_92 : decode cX11_oneHour 92 = .ok (.iload_n 2, 1) := by decide +kernel
theorem dX11_oneHour_93 : decode cX11_oneHour 93 = .ok (.iadd, 1) := by decide +kernel
theorem dX11_oneHour_94 : decode cX11_oneHour 94 = .ok (.dup2, 1) := by decide +kernel
theorem dX11_oneHour_95 : decode cX11_oneHour 95 = .ok (.iaload, 1) := by decide +kernel
theorem dX11_oneHour_96 : decode cX11_oneHour 96 = .ok (.iconst 1, 1) := by decide +kernel
theorem dX11_oneHour_97 : decode cX11_oneHour 97 = .ok (.iadd, 1) := by decide +kernel
theorem dX11_oneHour_98 : decode cX11_oneHour 98 = .ok (.iastore, 1) := by decide +kernel
theorem dX11_oneHour_99 : decode cX11_oneHour 99 = .ok (.iinc 1 1, 3) := by decide +kernel
theorem dX11_oneHour_102 : decode cX11_oneHour 102 = .ok (.goto (-62), 3) := by decide +kernel
theorem dX11_oneHour_105 : decode cX11_oneHour 105 = .ok (.aload_n 0, 1) := by decide +kernel
theorem dX11_oneHour_106 : decode cX11_oneHour 106 = .ok (.getfield 7, 3) := by decide +kernel
theorem dX11_oneHour_109 : decode cX11_oneHour 109 = .ok (.iconst 0, 1) := by decide +kernel
theorem dX11_oneHour_110 : decode cX11_oneHour 110 = .ok (.dup2, 1) := by decide +kernel
theorem dX11_oneHour_111 : decode cX11_oneHour 111 = .ok (.iaload, 1) := by decide +kernel
theorem dX11_oneHour_112 : decode cX11_oneHour 112 = .ok (.iconst 1, 1) := by decide +kernel
theorem dX11_oneHour_113 : decode cX11_oneHour 113 = .ok (.iadd, 1) := by decide +kernel
theorem dX11_oneHour_114 : decode cX11_oneHour 114 = .ok (.iastore, 1) := by decide +kernel
theorem dX11_oneHour_115 : decode cX11_oneHour 115 = .ok (.return_, 1) := by decide +kernel
def s_X11_oneHour_2 (b1 : Int32) (N : gMem) : Option ((Int32 × gMem) ⊕ (Int32 × gMem)) := (if (N.1 0 60 16) ≤ b1 then some (.inr (b1, N)) else Option.bind (x_X11_serverOf N b1) (fun v2 => Option.bind (x_X11_contentOf N b1 v2) (fun v4 => some (.inl (b1 + 1, gwr N 0 60 1 ((N.1 0 60 1) + v4))))))
def j_X11_oneHour_40_99 (N : gMem) (b1 : Int32) : Option ((Int32 × gMem) ⊕ (Int32 × gMem)) := some (.inl (b1 + 1, N))
def s_X11_oneHour_40 (b1 : Int32) (N : gMem) : Option ((Int32 × gMem) ⊕ (Int32 × gMem)) := (if (N.1 0 60 16) ≤ b1 then some (.inr (b1, N)) else Option.bind (x_X11_serverOf N b1) (fun v8 => (if v8 < 0 then j_X11_oneHour_40_99 N b1 else gd (gin (9 + b1) 70) ((if (N.1 0 60 (9 + b1).toNatClampNeg) ≤ 0 then j_X11_oneHour_40_99 N b1 else gd (gin (9 + b1) 70) (gd (gin (9 + b1) 70) (gd (gin (9 + v8) 70) (gd (gin (9 + v8) 70) (j_X11_oneHour_40_99 (gwr (gwr N 0 60 (9 + b1).toNatClampNeg ((N.1 0 60 (9 + b1).toNatClampNeg) - 1)) 0 60 (9 + v8).toNatClampNeg (((gwr N 0 60 (9 + b1).toNatClampNeg ((N.1 0 60 (9 + b1).toNatClampNeg) - 1)).1 0 60 (9 + v8).toNatClampNeg) + 1)) b1)))))))))
def x_X11_oneHour (M : gMem) : Option gMem := Option.bind (itr FU (fun s => s_X11_oneHour_2 s.1 s.2) (0, M)) (fun e6 => Option.bind (itr FU (fun s => s_X11_oneHour_40 s.1 s.2) (0, e6.2)) (fun e17 => some (gwr e17.2 0 60 0 ((e17.2.1 0 60 0) + 1))))
set_option maxRecDepth 100000 in
set_option maxHeartbeats 4000000 in
theorem w_X11_oneHour_2 {X : gX} {Y : gY} {r : gMem} (hC : gC X Y cX11_oneHour "GuestStaffModel" 3 3 65) (hF : gF X Y none (gQv Y r)) {e : (Int32 × gMem)} (kE : ∀ s : (Int32 × gMem), e = s → gWW X Y 3 38 [(0, .ref (gad Y 0 59))] [] s.2) : ∀ (F : Nat) (s : (Int32 × gMem)), itr F (fun s => s_X11_oneHour_2 s.1 s.2) s = some e → gWW X Y 3 2 [(0, .ref (gad Y 0 59)), (1, .int s.1)] [] s.2 := by
  intro F s
  refine itr_w (P := fun s => gWW X Y 3 2 [(0, .ref (gad Y 0 59)), (1, .int s.1)] [] s.2) (fun s o hx kI kx => ?_) F s
  obtain ⟨b1, N⟩ := s
  have hx : s_X11_oneHour_2 b1 N = some o := hx
  have kE : ∀ s : (Int32 × gMem), o = .inr s → gWW X Y 3 38 [(0, .ref (gad Y 0 59))] [] s.2 := fun s q => kE s (kx _ q).symm
  unfold s_X11_oneHour_2 at hx
  refine q_iload_n hC 1 dX11_oneHour_2 rfl rfl ?_
  refine q_aload_n hC 0 dX11_oneHour_3 rfl rfl ?_
  refine gf_X11_7 hC dX11_oneHour_4 ?_
  refine q_bipush hC 16 dX11_oneHour_7 rfl ?_
  refine q_ialdk hC 16 69 (gV_t (by decide) (by decide)) rfl (by decide) rfl dX11_oneHour_9 ?_
  refine q_ic_ge hC 38 dX11_oneHour_10 rfl (fun h1 => ?_) (fun h1 => ?_)
  · have hx := gi_p h1 hx
    exact q_sub [0] rfl (kE (b1, N) (Option.some.inj hx).symm)
  · have hx := gi_n h1 hx
    refine q_aload_n hC 0 dX11_oneHour_13 rfl rfl ?_
    refine gf_X11_7 hC dX11_oneHour_14 ?_
    refine q_iconst hC 1 dX11_oneHour_17 rfl ?_
    refine q_dup2 hC dX11_oneHour_18 rfl rfl ?_
    refine q_ialdk hC 1 69 (gV_t (by decide) (by decide)) rfl (by decide) rfl dX11_oneHour_19 ?_
    refine q_aload_n hC 0 dX11_oneHour_20 rfl rfl ?_
    refine q_iload_n hC 1 dX11_oneHour_21 rfl rfl ?_
    refine q_aload_n hC 0 dX11_oneHour_22 rfl rfl ?_
    refine q_iload_n hC 1 dX11_oneHour_23 rfl rfl ?_
    obtain ⟨v2, q3, hx⟩ := gb_e hx
    refine q_kip (q_rV (As := [.int b1]) (rest := [.int b1, .ref (gad Y 0 59), .int (N.1 0 60 1), .int 1, .ref (gad Y 0 60)]) hC mm_X11_serverOf wM_X11_163 (c_X11_serverOf q3) ⟨rfl, rfl, Nat.le_of_ble_eq_true rfl, Nat.le_of_ble_eq_true rfl⟩ (gV_t (by decide) (by decide)) rfl rfl rfl rfl (Nat.le_of_ble_eq_true rfl) dX11_oneHour_24) ?_
    obtain ⟨v4, q5, hx⟩ := gb_e hx
    refine q_kip (q_rV (As := [.int b1, .int v2]) (rest := [.int (N.1 0 60 1), .int 1, .ref (gad Y 0 60)]) hC mm_X11_contentOf wM_X11_166 (c_X11_contentOf q5) ⟨rfl, rfl, Nat.le_of_ble_eq_true rfl, Nat.le_of_ble_eq_true rfl⟩ (gV_t (by decide) (by decide)) rfl rfl rfl rfl (Nat.le_of_ble_eq_true rfl) dX11_oneHour_27) ?_
    refine q_iadd hC dX11_oneHour_30 ?_
    refine q_iastk hC 1 69 (gV_t (by decide) (by decide)) rfl (by decide) rfl dX11_oneHour_31 ?_
    refine q_iinc hC 1 1 [(1, .int (b1 + 1)), (0, .ref (gad Y 0 59))] dX11_oneHour_32 rfl rfl (by decide) rfl ?_
    refine q_goto hC 2 dX11_oneHour_35 rfl ?_
    exact q_sub [1, 0] rfl (kI (b1 + 1, gwr N 0 60 1 ((N.1 0 60 1) + v4)) (Option.some.inj hx).symm)
set_option maxRecDepth 100000 in
set_option maxHeartbeats 4000000 in
theorem w_X11_oneHour_40 {X : gX} {Y : gY} {r : gMem} (hC : gC X Y cX11_oneHour "GuestStaffModel" 3 3 65) (hF : gF X Y none (gQv Y r)) {e : (Int32 × gMem)} (kE : ∀ s : (Int32 × gMem), e = s → gWW X Y 3 105 [(0, .ref (gad Y 0 59))] [] s.2) : ∀ (F : Nat) (s : (Int32 × gMem)), itr F (fun s => s_X11_oneHour_40 s.1 s.2) s = some e → gWW X Y 3 40 [(0, .ref (gad Y 0 59)), (1, .int s.1)] [] s.2 := by
  intro F s
  refine itr_w (P := fun s => gWW X Y 3 40 [(0, .ref (gad Y 0 59)), (1, .int s.1)] [] s.2) (fun s o hx kI kx => ?_) F s
  obtain ⟨b1, N⟩ := s
  have hx : s_X11_oneHour_40 b1 N = some o := hx
  have kE : ∀ s : (Int32 × gMem), o = .inr s → gWW X Y 3 105 [(0, .ref (gad Y 0 59))] [] s.2 := fun s q => kE s (kx _ q).symm
  have J99 : ∀ (N : gMem) (b1 : Int32) , j_X11_oneHour_40_99 N b1 = some o → gWW X Y 3 99 [(0, .ref (gad Y 0 59)), (1, .int b1)] [] N := by
    intro N b1 hx
    unfold j_X11_oneHour_40_99 at hx
    refine q_iinc hC 1 1 [(1, .int (b1 + 1)), (0, .ref (gad Y 0 59))] dX11_oneHour_99 rfl rfl (by decide) rfl ?_
    refine q_goto hC 40 dX11_oneHour_102 rfl ?_
    exact q_sub [1, 0] rfl (kI (b1 + 1, N) (Option.some.inj hx).symm)
  unfold s_X11_oneHour_40 at hx
  refine q_iload_n hC 1 dX11_oneHour_40 rfl rfl ?_
  refine q_aload_n hC 0 dX11_oneHour_41 rfl rfl ?_
  refine gf_X11_7 hC dX11_oneHour_42 ?_
  refine q_bipush hC 16 dX11_oneHour_45 rfl ?_
  refine q_ialdk hC 16 69 (gV_t (by decide) (by decide)) rfl (by decide) rfl dX11_oneHour_47 ?_
  refine q_ic_ge hC 105 dX11_oneHour_48 rfl (fun h7 => ?_) (fun h7 => ?_)
  · have hx := gi_p h7 hx
    exact q_sub [0] rfl (kE (b1, N) (Option.some.inj hx).symm)
  · have hx := gi_n h7 hx
    refine q_aload_n hC 0 dX11_oneHour_51 rfl rfl ?_
    refine q_iload_n hC 1 dX11_oneHour_52 rfl rfl ?_
    obtain ⟨v8, q9, hx⟩ := gb_e hx
    refine q_kip (q_rV (As := [.int b1]) (rest := []) hC mm_X11_serverOf wM_X11_163 (c_X11_serverOf q9) ⟨rfl, rfl, Nat.le_of_ble_eq_true rfl, Nat.le_of_ble_eq_true rfl⟩ (gV_t (by decide) (by decide)) rfl rfl rfl rfl (Nat.le_of_ble_eq_true rfl) dX11_oneHour_53) ?_
    refine q_istore_n hC [(2, .int v8), (0, .ref (gad Y 0 59)), (1, .int b1)] dX11_oneHour_56 rfl (by decide) rfl ?_
    refine q_iload_n hC 0 dX11_oneHour_57 rfl rfl ?_
    refine q_if_lt hC 99 dX11_oneHour_58 rfl (fun h10 => ?_) (fun h10 => ?_)
    · have hx := gi_p h10 hx
      exact q_sub [1, 2] rfl (J99 N b1 hx)
    · have hx := gi_n h10 hx
      refine q_aload_n hC 1 dX11_oneHour_61 rfl rfl ?_
      refine gf_X11_7 hC dX11_oneHour_62 ?_
      refine q_bipush hC 9 dX11_oneHour_65 rfl ?_
      refine q_iload_n hC 2 dX11_oneHour_67 rfl rfl ?_
      refine q_iadd hC dX11_oneHour_68 ?_
      have g11 := (gd_e hx).1
      have hx := (gd_e hx).2
      refine q_iald hC 69 (gV_t (by decide) (by decide)) rfl g11 dX11_oneHour_69 ?_
      refine q_if_le hC 99 dX11_oneHour_70 rfl (fun h12 => ?_) (fun h12 => ?_)
      · have hx := gi_p h12 hx
        exact q_sub [1, 2] rfl (J99 N b1 hx)
      · have hx := gi_n h12 hx
        refine q_aload_n hC 1 dX11_oneHour_73 rfl rfl ?_
        refine gf_X11_7 hC dX11_oneHour_74 ?_
        refine q_bipush hC 9 dX11_oneHour_77 rfl ?_
        refine q_iload_n hC 2 dX11_oneHour_79 rfl rfl ?_
        refine q_iadd hC dX11_oneHour_80 ?_
        refine q_dup2 hC dX11_oneHour_81 rfl rfl ?_
        have g13 := (gd_e hx).1
        have hx := (gd_e hx).2
        refine q_iald hC 69 (gV_t (by decide) (by decide)) rfl g13 dX11_oneHour_82 ?_
        refine q_iconst hC 1 dX11_oneHour_83 rfl ?_
        refine q_isub hC dX11_oneHour_84 ?_
        have g14 := (gd_e hx).1
        have hx := (gd_e hx).2
        refine q_iast hC 69 (gV_t (by decide) (by decide)) rfl g14 dX11_oneHour_85 ?_
        refine q_aload_n hC 1 dX11_oneHour_86 rfl rfl ?_
        refine gf_X11_7 hC dX11_oneHour_87 ?_
        refine q_bipush hC 9 dX11_oneHour_90 rfl ?_
        refine q_iload_n hC 0 dX11_oneHour_92 rfl rfl ?_
        refine q_iadd hC dX11_oneHour_93 ?_
        refine q_dup2 hC dX11_oneHour_94 rfl rfl ?_
        have g15 := (gd_e hx).1
        have hx := (gd_e hx).2
        refine q_iald hC 69 (gV_t (by decide) (by decide)) rfl g15 dX11_oneHour_95 ?_
        refine q_iconst hC 1 dX11_oneHour_96 rfl ?_
        refine q_iadd hC dX11_oneHour_97 ?_
        have g16 := (gd_e hx).1
        have hx := (gd_e hx).2
        refine q_iast hC 69 (gV_t (by decide) (by decide)) rfl g16 dX11_oneHour_98 ?_
        exact q_sub [1, 2] rfl (J99 (gwr (gwr N 0 60 (9 + b1).toNatClampNeg ((N.1 0 60 (9 + b1).toNatClampNeg) - 1)) 0 60 (9 + v8).toNatClampNeg (((gwr N 0 60 (9 + b1).toNatClampNeg ((N.1 0 60 (9 + b1).toNatClampNeg) - 1)).1 0 60 (9 + v8).toNatClampNeg) + 1)) b1 hx)
set_option maxRecDepth 100000 in
set_option maxHeartbeats 4000000 in
theorem c_X11_oneHour {l : Launch} {Y : gY} {M : gMem} {r : gMem} (hx : x_X11_oneHour M = some r) : Met l yX11_oneHour (gws yX11_oneHour cX11_oneHour 3 none) { frames := 3, cells := 0, slots := 0, locals := 65 } (va_Pc [.ref (gad Y 0 59)] (gS0 Y M)) (gQv Y r) 0 0 (gA Y) := by
  refine gmet (lv := [(0, .ref (gad Y 0 59))]) "GuestStaffModel" (by decide) rfl (Nat.le_of_ble_eq_true rfl) rfl (fun X hC hF => ?_)
  unfold x_X11_oneHour at hx
  refine q_iconst hC 0 dX11_oneHour_0 rfl ?_
  refine q_istore_n hC [(1, .int 0), (0, .ref (gad Y 0 59))] dX11_oneHour_1 rfl (by decide) rfl ?_
  obtain ⟨e6, qe6, hx⟩ := gb_e hx
  refine q_sub [1, 0] rfl (w_X11_oneHour_2 hC hF (e := e6) (fun s q => ?_) _ _ qe6)
  · subst q
    refine q_iconst hC 0 dX11_oneHour_38 rfl ?_
    refine q_istore_n hC [(1, .int 0), (0, .ref (gad Y 0 59))] dX11_oneHour_39 rfl (by decide) rfl ?_
    obtain ⟨e17, qe17, hx⟩ := gb_e hx
    refine q_sub [1, 0] rfl (w_X11_oneHour_40 hC hF (e := e17) (fun s q => ?_) _ _ qe17)
    · subst q
      refine q_aload_n hC 0 dX11_oneHour_105 rfl rfl ?_
      refine gf_X11_7 hC dX11_oneHour_106 ?_
      refine q_iconst hC 0 dX11_oneHour_109 rfl ?_
      refine q_dup2 hC dX11_oneHour_110 rfl rfl ?_
      refine q_ialdk hC 0 69 (gV_t (by decide) (by decide)) rfl (by decide) rfl dX11_oneHour_111 ?_
      refine q_iconst hC 1 dX11_oneHour_112 rfl ?_
      refine q_iadd hC dX11_oneHour_113 ?_
      refine q_iastk hC 0 69 (gV_t (by decide) (by decide)) rfl (by decide) rfl dX11_oneHour_114 ?_
      exact q_vret hC hF dX11_oneHour_115 (Option.some.inj hx)

theorem dX11_hour_0 : decode cX11_hour 0 = .ok (.iload_n 1, 1) := by decide +kernel
theorem dX11_hour_1 : decode cX11_hour 1 = .ok (.i2l, 1) := by decide +kernel
theorem dX11_hour_2 : decode cX11_hour 2 = .ok (.lconst 1, 1) := by decide +kernel
theorem dX11_hour_3 : decode cX11_hour 3 = .ok (.ldc2_w 170, 3) := by decide +kernel
theorem dX11_hour_6 : decode cX11_hour 6 = .ok (.invokestatic 57, 3) := by decide +kernel
theorem dX11_hour_9 : decode cX11_hour 9 = .ok (.ifCond .ne 8, 3) := by decide +kernel
theorem dX11_hour_12 : decode cX11_hour 12 = .ok (.aload_n 0, 1) := by decide +kernel
theorem dX11_hour_13 : decode cX11_hour 13 = .ok (.invokevirtual 74, 3) := by decide +kernel
theorem dX11_hour_16 : decode cX11_hour 16 = .ok (.ireturn, 1) := by decide +kernel
theorem dX11_hour_17 : decode cX11_hour 17 = .ok (.iconst 0, 1) := by decide +kernel
theorem dX11_hour_18 : decode cX11_hour 18 = .ok (.istore_n 2, 1) := by decide +kernel
theorem dX11_hour_19 : decode cX11_hour 19 = .ok (.iload_n 2, 1) := by decide +kernel
theorem dX11_hour_20 : decode cX11_hour 20 = .ok (.iload_n 1, 1) := by decide +kernel
theorem dX11_hour_21 : decode cX11_hour 21 = .ok (.if_icmp .ge 17, 3) := by decide +kernel
theorem dX11_hour_24 : decode cX11_hour 24 = .ok (.aload_n 0, 1) := by decide +kernel
theorem dX11_hour_25 : decode cX11_hour 25 = .ok (.invokevirtual 92, 3) := by decide +kernel
theorem dX11_hour_28 : decode cX11_hour 28 = .ok (.aload_n 0, 1) := by decide +kernel
theorem dX11_hour_29 : decode cX11_hour 29 = .ok (.invokevirtual 172, 3) := by decide +kernel
theorem dX11_hour_32 : decode cX11_hour 32 = .ok (.iinc 2 1, 3) := by decide +kernel
theorem dX11_hour_35 : decode cX11_hour 35 = .ok (.goto (-16), 3) := by decide +kernel
theorem dX11_hour_38 : decode cX11_hour 38 = .ok (.aload_n 0, 1) := by decide +kernel
theorem dX11_hour_39 : decode cX11_hour 39 = .ok (.getfield 7, 3) := by decide +kernel
theorem dX11_hour_42 : decode cX11_hour 42 = .ok (.iconst 1, 1) := by decide +kernel
theorem dX11_hour_43 : decode cX11_hour 43 = .ok (.iaload, 1) := by decide +kernel
theorem dX11_hour_44 : decode cX11_hour 44 = .ok (.ireturn, 1) := by decide +kernel
def s_X11_hour_19 (a1 : Int32) (b2 : Int32) (N : gMem) : Option ((Int32 × gMem) ⊕ (Int32 × gMem)) := (if a1 ≤ b2 then some (.inr (b2, N)) else Option.bind (x_X11_noteStep N) (fun v6 => Option.bind (x_X11_oneHour v6) (fun v8 => some (.inl (b2 + 1, v8)))))
def x_X11_hour (M : gMem) (p1 : Int32) : Option (Int32 × gMem) := Option.bind (x_X11_in (Int32.toInt64 p1) 1 60) (fun v1 => (if v1 = 0 then Option.bind (x_X11_bad M) (fun v11 => some (v11.1, v11.2)) else Option.bind (itr FU (fun s => s_X11_hour_19 p1 s.1 s.2) (0, M)) (fun e10 => some (e10.2.1 0 60 1, e10.2))))
set_option maxRecDepth 100000 in
set_option maxHeartbeats 4000000 in
theorem w_X11_hour_19 {X : gX} {Y : gY} {a1 : Int32} {r : (Int32 × gMem)} (hC : gC X Y cX11_hour "GuestStaffModel" 3 4 87) (hF : gF X Y (some .int) (gQi Y r)) {e : (Int32 × gMem)} (kE : ∀ s : (Int32 × gMem), e = s → gWW X Y 3 38 [(0, .ref (gad Y 0 59))] [] s.2) : ∀ (F : Nat) (s : (Int32 × gMem)), itr F (fun s => s_X11_hour_19 a1 s.1 s.2) s = some e → gWW X Y 3 19 [(0, .ref (gad Y 0 59)), (1, .int a1), (2, .int s.1)] [] s.2 := by
  intro F s
  refine itr_w (P := fun s => gWW X Y 3 19 [(0, .ref (gad Y 0 59)), (1, .int a1), (2, .int s.1)] [] s.2) (fun s o hx kI kx => ?_) F s
  obtain ⟨b2, N⟩ := s
  have hx : s_X11_hour_19 a1 b2 N = some o := hx
  have kE : ∀ s : (Int32 × gMem), o = .inr s → gWW X Y 3 38 [(0, .ref (gad Y 0 59))] [] s.2 := fun s q => kE s (kx _ q).symm
  unfold s_X11_hour_19 at hx
  refine q_iload_n hC 2 dX11_hour_19 rfl rfl ?_
  refine q_iload_n hC 1 dX11_hour_20 rfl rfl ?_
  refine q_ic_ge hC 38 dX11_hour_21 rfl (fun h5 => ?_) (fun h5 => ?_)
  · have hx := gi_p h5 hx
    exact q_sub [0] rfl (kE (b2, N) (Option.some.inj hx).symm)
  · have hx := gi_n h5 hx
    refine q_aload_n hC 0 dX11_hour_24 rfl rfl ?_
    obtain ⟨v6, q7, hx⟩ := gb_e hx
    refine q_kv (q_rV (As := []) (rest := []) hC mm_X11_noteStep wM_X11_92 (c_X11_noteStep q7) ⟨rfl, rfl, Nat.le_of_ble_eq_true rfl, Nat.le_of_ble_eq_true rfl⟩ (gV_t (by decide) (by decide)) rfl rfl rfl rfl (Nat.le_of_ble_eq_true rfl) dX11_hour_25) ?_
    refine q_aload_n hC 0 dX11_hour_28 rfl rfl ?_
    obtain ⟨v8, q9, hx⟩ := gb_e hx
    refine q_kv (q_rV (As := []) (rest := []) hC mm_X11_oneHour wM_X11_172 (c_X11_oneHour q9) ⟨rfl, rfl, Nat.le_of_ble_eq_true rfl, Nat.le_of_ble_eq_true rfl⟩ (gV_t (by decide) (by decide)) rfl rfl rfl rfl (Nat.le_of_ble_eq_true rfl) dX11_hour_29) ?_
    refine q_iinc hC 2 1 [(2, .int (b2 + 1)), (0, .ref (gad Y 0 59)), (1, .int a1)] dX11_hour_32 rfl rfl (by decide) rfl ?_
    refine q_goto hC 19 dX11_hour_35 rfl ?_
    exact q_sub [1, 2, 0] rfl (kI (b2 + 1, v8) (Option.some.inj hx).symm)
set_option maxRecDepth 100000 in
set_option maxHeartbeats 4000000 in
theorem c_X11_hour {l : Launch} {Y : gY} {M : gMem} {p1 : Int32} {r : (Int32 × gMem)} (hx : x_X11_hour M p1 = some r) : Met l yX11_hour (gws yX11_hour cX11_hour 3 (some .int)) { frames := 4, cells := 0, slots := 0, locals := 87 } (va_Pc [.ref (gad Y 0 59), .int p1] (gS0 Y M)) (gQi Y r) 0 0 (gA Y) := by
  refine gmet (lv := [(0, .ref (gad Y 0 59)), (1, .int p1)]) "GuestStaffModel" (by decide) rfl (Nat.le_of_ble_eq_true rfl) rfl (fun X hC hF => ?_)
  unfold x_X11_hour at hx
  refine q_iload_n hC 1 dX11_hour_0 rfl rfl ?_
  refine q_i2l hC dX11_hour_1 ?_
  refine q_lconst hC 1 dX11_hour_2 rfl ?_
  refine q_ldc2 hC 60 dX11_hour_3 wC_X11_170 ?_
  obtain ⟨v1, q2, hx⟩ := gb_e hx
  refine q_kzp (q_rS (As := [.long (Int32.toInt64 p1), .long 1, .long 60]) (rest := []) hC mm_X11_in wM_X11_57 (c_X11_in q2) ⟨rfl, rfl, Nat.le_of_ble_eq_true rfl, Nat.le_of_ble_eq_true rfl⟩ rfl rfl (Nat.le_of_ble_eq_true rfl) dX11_hour_6) (fun z3 => ?_)
  refine q_if_ne hC 17 dX11_hour_9 rfl (fun h4 => ?_) (fun h4 => ?_)
  · have hx := gi_n h4 hx
    refine q_iconst hC 0 dX11_hour_17 rfl ?_
    refine q_istore_n hC [(2, .int 0), (0, .ref (gad Y 0 59)), (1, .int p1)] dX11_hour_18 rfl (by decide) rfl ?_
    obtain ⟨e10, qe10, hx⟩ := gb_e hx
    refine q_sub [1, 2, 0] rfl (w_X11_hour_19 hC hF (e := e10) (fun s q => ?_) _ _ qe10)
    · subst q
      refine q_aload_n hC 0 dX11_hour_38 rfl rfl ?_
      refine gf_X11_7 hC dX11_hour_39 ?_
      refine q_iconst hC 1 dX11_hour_42 rfl ?_
      refine q_ialdk hC 1 69 (gV_t (by decide) (by decide)) rfl (by decide) rfl dX11_hour_43 ?_
      exact q_iret hC hF dX11_hour_44 (Option.some.inj hx)
  · have hx := gi_p h4 hx
    refine q_aload_n hC 0 dX11_hour_12 rfl rfl ?_
    obtain ⟨v11, q12, hx⟩ := gb_e hx
    refine q_ki (q_rV (As := []) (rest := []) hC mm_X11_bad wM_X11_74 (c_X11_bad q12) ⟨rfl, rfl, Nat.le_of_ble_eq_true rfl, Nat.le_of_ble_eq_true rfl⟩ (gV_t (by decide) (by decide)) rfl rfl rfl rfl (Nat.le_of_ble_eq_true rfl) dX11_hour_13) ?_
    exact q_iret hC hF dX11_hour_16 (Option.some.inj hx)

theorem dX11_undo_0 : decode cX11_undo 0 = .ok (.aload_n 0, 1) := by decide +kernel
theorem dX11_undo_1 : decode cX11_undo 1 = .ok (.getfield 61, 3) := by decide +kernel
theorem dX11_undo_4 : decode cX11_undo 4 = .ok (.ifCond .ne 8, 3) := by decide +kernel
theorem dX11_undo_7 : decode cX11_undo 7 = .ok (.aload_n 0, 1) := by decide +kernel
theorem dX11_undo_8 : decode cX11_undo 8 = .ok (.invokevirtual 175, 3) := by decide +kernel
theorem dX11_undo_11 : decode cX11_undo 11 = .ok (.ireturn, 1) := by decide +kernel
theorem dX11_undo_12 : decode cX11_undo 12 = .ok (.aload_n 0, 1) := by decide +kernel
theorem dX11_undo_13 : decode cX11_undo 13 = .ok (.dup, 1) := by decide +kernel
theorem dX11_undo_14 : decode cX11_undo 14 = .ok (.getfield 61, 3) := by decide +kernel
theorem dX11_undo_17 : decode cX11_undo 17 = .ok (.iconst 1, 1) := by decide +kernel
theorem dX11_undo_18 : decode cX11_undo 18 = .ok (.isub, 1) := by decide +kernel
theorem dX11_undo_19 : decode cX11_undo 19 = .ok (.putfield 61, 3) := by decide +kernel
theorem dX11_undo_22 : decode cX11_undo 22 = .ok (.iconst 0, 1) := by decide +kernel
theorem dX11_undo_23 : decode cX11_undo 23 = .ok (.istore_n 1, 1) := by decide +kernel
theorem dX11_undo_24 : decode cX11_undo 24 = .ok (.iload_n 1, 1) := by decide +kernel
theorem dX11_undo_25 : decode cX11_undo 25 = .ok (.bipush 16, 2) := by decide +kernel
theorem dX11_undo_27 : decode cX11_undo 27 = .ok (.if_icmp .ge 29, 3) := by decide +kernel
theorem dX11_undo_30 : decode cX11_undo 30 = .ok (.aload_n 0, 1) := by decide +kernel
theorem dX11_undo_31 : decode cX11_undo 31 = .ok (.getfield 7, 3) := by decide +kernel
theorem dX11_undo_34 : decode cX11_undo 34 = .ok (.iload_n 1, 1) := by decide +kernel
theorem dX11_undo_35 : decode cX11_undo 35 = .ok (.aload_n 0, 1) := by decide +kernel
theorem dX11_undo_36 : decode cX11_undo 36 = .ok (.getfield 26, 3) := by decide +kernel
theorem dX11_undo_39 : decode cX11_undo 39 = .ok (.bipush 16, 2) := by decide +kernel
theorem dX11_undo_41 : decode cX11_undo 41 = .ok (.aload_n 0, 1) := by decide +kernel
theorem dX11_undo_42 : decode cX11_undo 42 = .ok (.getfield 61, 3) := by decide +kernel
theorem dX11_undo_45 : decode cX11_undo 45 = .ok (.imul, 1) := by decide +kernel
theorem dX11_undo_46 : decode cX11_undo 46 = .ok (.iload_n 1, 1) := by decide +kernel
theorem dX11_undo_47 : decode cX11_undo 47 = .ok (.iadd, 1) := by decide +kernel
theorem dX11_undo_48 : decode cX11_undo 48 = .ok (.iaload, 1) := by decide +kernel
theorem dX11_undo_49 : decode cX11_undo 49 = .ok (.iastore, 1) := by decide +kernel
theorem dX11_undo_50 : decode cX11_undo 50 = .ok (.iinc 1 1, 3) := by decide +kernel
theorem dX11_undo_53 : decode cX11_undo 53 = .ok (.goto (-29), 3) := by decide +kernel
theorem dX11_undo_56 : decode cX11_undo 56 = .ok (.aload_n 0, 1) := by decide +kernel
theorem dX11_undo_57 : decode cX11_undo 57 = .ok (.getfield 7, 3) := by decide +kernel
theorem dX11_undo_60 : decode cX11_undo 60 = .ok (.iconst 0, 1) := by decide +kernel
theorem dX11_undo_61 : decode cX11_undo 61 = .ok (.iaload, 1) := by decide +kernel
theorem dX11_undo_62 : decode cX11_undo 62 = .ok (.ireturn, 1) := by decide +kernel
def s_X11_undo_24 (b1 : Int32) (N : gMem) : Option ((Int32 × gMem) ⊕ (Int32 × gMem)) := (if 16 ≤ b1 then some (.inr (b1, N)) else gd (gin ((16 * (N.1 0 59 14)) + b1) 128) (gd (gin b1 70) (some (.inl (b1 + 1, gwr N 0 60 (b1).toNatClampNeg (N.1 0 64 ((16 * (N.1 0 59 14)) + b1).toNatClampNeg))))))
def x_X11_undo (M : gMem) : Option (Int32 × gMem) := (if (M.1 0 59 14) = 0 then Option.bind (x_X11_no M) (fun v6 => some (v6.1, v6.2)) else Option.bind (itr FU (fun s => s_X11_undo_24 s.1 s.2) (0, gwr M 0 59 14 ((M.1 0 59 14) - 1))) (fun e5 => some (e5.2.1 0 60 0, e5.2)))
set_option maxRecDepth 100000 in
set_option maxHeartbeats 4000000 in
theorem w_X11_undo_24 {X : gX} {Y : gY} {r : (Int32 × gMem)} (hC : gC X Y cX11_undo "GuestStaffModel" 2 1 20) (hF : gF X Y (some .int) (gQi Y r)) {e : (Int32 × gMem)} (kE : ∀ s : (Int32 × gMem), e = s → gWW X Y 2 56 [(0, .ref (gad Y 0 59))] [] s.2) : ∀ (F : Nat) (s : (Int32 × gMem)), itr F (fun s => s_X11_undo_24 s.1 s.2) s = some e → gWW X Y 2 24 [(0, .ref (gad Y 0 59)), (1, .int s.1)] [] s.2 := by
  intro F s
  refine itr_w (P := fun s => gWW X Y 2 24 [(0, .ref (gad Y 0 59)), (1, .int s.1)] [] s.2) (fun s o hx kI kx => ?_) F s
  obtain ⟨b1, N⟩ := s
  have hx : s_X11_undo_24 b1 N = some o := hx
  have kE : ∀ s : (Int32 × gMem), o = .inr s → gWW X Y 2 56 [(0, .ref (gad Y 0 59))] [] s.2 := fun s q => kE s (kx _ q).symm
  unfold s_X11_undo_24 at hx
  refine q_iload_n hC 1 dX11_undo_24 rfl rfl ?_
  refine q_bipush hC 16 dX11_undo_25 rfl ?_
  refine q_ic_ge hC 56 dX11_undo_27 rfl (fun h2 => ?_) (fun h2 => ?_)
  · have hx := gi_p h2 hx
    exact q_sub [0] rfl (kE (b1, N) (Option.some.inj hx).symm)
  · have hx := gi_n h2 hx
    refine q_aload_n hC 0 dX11_undo_30 rfl rfl ?_
    refine gf_X11_7 hC dX11_undo_31 ?_
    refine q_iload_n hC 1 dX11_undo_34 rfl rfl ?_
    refine q_aload_n hC 0 dX11_undo_35 rfl rfl ?_
    refine gf_X11_26 hC dX11_undo_36 ?_
    refine q_bipush hC 16 dX11_undo_39 rfl ?_
    refine q_aload_n hC 0 dX11_undo_41 rfl rfl ?_
    refine gf_X11_61 hC dX11_undo_42 ?_
    refine q_imul hC dX11_undo_45 ?_
    refine q_iload_n hC 1 dX11_undo_46 rfl rfl ?_
    refine q_iadd hC dX11_undo_47 ?_
    have g3 := (gd_e hx).1
    have hx := (gd_e hx).2
    refine q_iald hC 127 (gV_t (by decide) (by decide)) rfl g3 dX11_undo_48 ?_
    have g4 := (gd_e hx).1
    have hx := (gd_e hx).2
    refine q_iast hC 69 (gV_t (by decide) (by decide)) rfl g4 dX11_undo_49 ?_
    refine q_iinc hC 1 1 [(1, .int (b1 + 1)), (0, .ref (gad Y 0 59))] dX11_undo_50 rfl rfl (by decide) rfl ?_
    refine q_goto hC 24 dX11_undo_53 rfl ?_
    exact q_sub [1, 0] rfl (kI (b1 + 1, gwr N 0 60 (b1).toNatClampNeg (N.1 0 64 ((16 * (N.1 0 59 14)) + b1).toNatClampNeg)) (Option.some.inj hx).symm)
set_option maxRecDepth 100000 in
set_option maxHeartbeats 4000000 in
theorem c_X11_undo {l : Launch} {Y : gY} {M : gMem} {r : (Int32 × gMem)} (hx : x_X11_undo M = some r) : Met l yX11_undo (gws yX11_undo cX11_undo 2 (some .int)) { frames := 1, cells := 0, slots := 0, locals := 20 } (va_Pc [.ref (gad Y 0 59)] (gS0 Y M)) (gQi Y r) 0 0 (gA Y) := by
  refine gmet (lv := [(0, .ref (gad Y 0 59))]) "GuestStaffModel" (by decide) rfl (Nat.le_of_ble_eq_true rfl) rfl (fun X hC hF => ?_)
  unfold x_X11_undo at hx
  refine q_aload_n hC 0 dX11_undo_0 rfl rfl ?_
  refine gf_X11_61 hC dX11_undo_1 ?_
  refine q_if_ne hC 12 dX11_undo_4 rfl (fun h1 => ?_) (fun h1 => ?_)
  · have hx := gi_n h1 hx
    refine q_aload_n hC 0 dX11_undo_12 rfl rfl ?_
    refine q_dup hC dX11_undo_13 rfl ?_
    refine gf_X11_61 hC dX11_undo_14 ?_
    refine q_iconst hC 1 dX11_undo_17 rfl ?_
    refine q_isub hC dX11_undo_18 ?_
    refine pf_X11_61 hC dX11_undo_19 ?_
    refine q_iconst hC 0 dX11_undo_22 rfl ?_
    refine q_istore_n hC [(1, .int 0), (0, .ref (gad Y 0 59))] dX11_undo_23 rfl (by decide) rfl ?_
    obtain ⟨e5, qe5, hx⟩ := gb_e hx
    refine q_sub [1, 0] rfl (w_X11_undo_24 hC hF (e := e5) (fun s q => ?_) _ _ qe5)
    · subst q
      refine q_aload_n hC 0 dX11_undo_56 rfl rfl ?_
      refine gf_X11_7 hC dX11_undo_57 ?_
      refine q_iconst hC 0 dX11_undo_60 rfl ?_
      refine q_ialdk hC 0 69 (gV_t (by decide) (by decide)) rfl (by decide) rfl dX11_undo_61 ?_
      exact q_iret hC hF dX11_undo_62 (Option.some.inj hx)
  · have hx := gi_p h1 hx
    refine q_aload_n hC 0 dX11_undo_7 rfl rfl ?_
    obtain ⟨v6, q7, hx⟩ := gb_e hx
    refine q_ki (q_rV (As := []) (rest := []) hC mm_X11_no wM_X11_175 (c_X11_no q7) ⟨rfl, rfl, Nat.le_of_ble_eq_true rfl, Nat.le_of_ble_eq_true rfl⟩ (gV_t (by decide) (by decide)) rfl rfl rfl rfl (Nat.le_of_ble_eq_true rfl) dX11_undo_8) ?_
    exact q_iret hC hF dX11_undo_11 (Option.some.inj hx)

theorem dX11_of_0 : decode cX11_of 0 = .ok (.aload_n 0, 1) := by decide +kernel
theorem dX11_of_1 : decode cX11_of 1 = .ok (.iload_n 1, 1) := by decide +kernel
theorem dX11_of_2 : decode cX11_of 2 = .ok (.invokevirtual 85, 3) := by decide +kernel
theorem dX11_of_5 : decode cX11_of 5 = .ok (.ifCond .eq 15, 3) := by decide +kernel
theorem dX11_of_8 : decode cX11_of 8 = .ok (.iload_n 2, 1) := by decide +kernel
theorem dX11_of_9 : decode cX11_of 9 = .ok (.i2l, 1) := by decide +kernel
theorem dX11_of_10 : decode cX11_of 10 = .ok (.lconst 0, 1) := by decide +kernel
theorem dX11_of_11 : decode cX11_of 11 = .ok (.ldc2_w 178, 3) := by decide +kernel
theorem dX11_of_14 : decode cX11_of 14 = .ok (.invokestatic 57, 3) := by decide +kernel
theorem dX11_of_17 : decode cX11_of 17 = .ok (.ifCond .ne 8, 3) := by decide +kernel
theorem dX11_of_20 : decode cX11_of 20 = .ok (.aload_n 0, 1) := by decide +kernel
theorem dX11_of_21 : decode cX11_of 21 = .ok (.invokevirtual 89, 3) := by decide +kernel
theorem dX11_of_24 : decode cX11_of 24 = .ok (.ireturn, 1) := by decide +kernel
theorem dX11_of_25 : decode cX11_of 25 = .ok (.iload_n 2, 1) := by decide +kernel
theorem dX11_of_26 : decode cX11_of 26 = .ok (.tableswitch 93 0 5 #[38, 48, 58, 68, 77, 87], 38) := by decide +kernel
theorem dX11_of_64 : decode cX11_of 64 = .ok (.aload_n 0, 1) := by decide +kernel
theorem dX11_of_65 : decode cX11_of 65 = .ok (.getfield 7, 3) := by decide +kernel
theorem dX11_of_68 : decode cX11_of 68 = .ok (.bipush 17, 2) := by decide +kernel
theorem dX11_of_70 : decode cX11_of 70 = .ok (.iload_n 1, 1) := by decide +kernel
theorem dX11_of_71 : decode cX11_of 71 = .ok (.iadd, 1) := by decide +kernel
theorem dX11_of_72 : decode cX11_of 72 = .ok (.iaload, 1) := by decide +kernel
theorem dX11_of_73 : decode cX11_of 73 = .ok (.ireturn, 1) := by decide +kernel
theorem dX11_of_74 : decode cX11_of 74 = .ok (.aload_n 0, 1) := by decide +kernel
theorem dX11_of_75 : decode cX11_of 75 = .ok (.getfield 7, 3) := by decide +kernel
theorem dX11_of_78 : decode cX11_of 78 = .ok (.bipush 24, 2) := by decide +kernel
theorem dX11_of_80 : decode cX11_of 80 = .ok (.iload_n 1, 1) := by decide +kernel
theorem dX11_of_81 : decode cX11_of 81 = .ok (.iadd, 1) := by decide +kernel
theorem dX11_of_82 : decode cX11_of 82 = .ok (.iaload, 1) := by decide +kernel
theorem dX11_of_83 : decode cX11_of 83 = .ok (.ireturn, 1) := by decide +kernel
theorem dX11_of_84 : decode cX11_of 84 = .ok (.aload_n 0, 1) := by decide +kernel
theorem dX11_of_85 : decode cX11_of 85 = .ok (.getfield 7, 3) := by decide +kernel
theorem dX11_of_88 : decode cX11_of 88 = .ok (.bipush 31, 2) := by decide +kernel
theorem dX11_of_90 : decode cX11_of 90 = .ok (.iload_n 1, 1) := by decide +kernel
theorem dX11_of_91 : decode cX11_of 91 = .ok (.iadd, 1) := by decide +kernel
theorem dX11_of_92 : decode cX11_of 92 = .ok (.iaload, 1) := by decide +kernel
theorem dX11_of_93 : decode cX11_of 93 = .ok (.ireturn, 1) := by decide +kernel
theorem dX11_of_94 : decode cX11_of 94 = .ok (.aload_n 0, 1) := by decide +kernel
theorem dX11_of_95 : decode cX11_of 95 = .ok (.getfield 7, 3) := by decide +kernel
theorem dX11_of_98 : decode cX11_of 98 = .ok (.iconst 2, 1) := by decide +kernel
theorem dX11_of_99 : decode cX11_of 99 = .ok (.iload_n 1, 1) := by decide +kernel
theorem dX11_of_100 : decode cX11_of 100 = .ok (.iadd, 1) := by decide +kernel
theorem dX11_of_101 : decode cX11_of 101 = .ok (.iaload, 1) := by decide +kernel
theorem dX11_of_102 : decode cX11_of 102 = .ok (.ireturn, 1) := by decide +kernel
theorem dX11_of_103 : decode cX11_of 103 = .ok (.aload_n 0, 1) := by decide +kernel
theorem dX11_of_104 : decode cX11_of 104 = .ok (.getfield 7, 3) := by decide +kernel
theorem dX11_of_107 : decode cX11_of 107 = .ok (.bipush 9, 2) := by decide +kernel
theorem dX11_of_109 : decode cX11_of 109 = .ok (.iload_n 1, 1) := by decide +kernel
theorem dX11_of_110 : decode cX11_of 110 = .ok (.iadd, 1) := by decide +kernel
theorem dX11_of_111 : decode cX11_of 111 = .ok (.iaload, 1) := by decide +kernel
theorem dX11_of_112 : decode cX11_of 112 = .ok (.ireturn, 1) := by decide +kernel
theorem dX11_of_113 : decode cX11_of 113 = .ok (.aload_n 0, 1) := by decide +kernel
theorem dX11_of_114 : decode cX11_of 114 = .ok (.iload_n 1, 1) := by decide +kernel
theorem dX11_of_115 : decode cX11_of 115 = .ok (.invokevirtual 163, 3) := by decide +kernel
theorem dX11_of_118 : decode cX11_of 118 = .ok (.ireturn, 1) := by decide +kernel
theorem dX11_of_119 : decode cX11_of 119 = .ok (.aload_n 0, 1) := by decide +kernel
theorem dX11_of_120 : decode cX11_of 120 = .ok (.iload_n 1, 1) := by decide +kernel
theorem dX11_of_121 : decode cX11_of 121 = .ok (.aload_n 0, 1) := by decide +kernel
theorem dX11_of_122 : decode cX11_of 122 = .ok (.iload_n 1, 1) := by decide +kernel
theorem dX11_of_123 : decode cX11_of 123 = .ok (.invokevirtual 163, 3) := by decide +kernel
theorem dX11_of_126 : decode cX11_of 126 = .ok (.invokevirtual 166, 3) := by decide +kernel
theorem dX11_of_129 : decode cX11_of 129 = .ok (.ireturn, 1) := by decide +kernel
def j_X11_of_20 (M : gMem) (p1 : Int32) (p2 : Int32) (N : gMem) : Option (Int32 × gMem) := Option.bind (x_X11_badFar N) (fun v5 => some (v5.1, v5.2))
def x_X11_of (M : gMem) (p1 : Int32) (p2 : Int32) : Option (Int32 × gMem) := Option.bind (x_X11_isGuest M p1) (fun v1 => (if v1 = 0 then j_X11_of_20 M p1 p2 M else Option.bind (x_X11_in (Int32.toInt64 p2) 0 6) (fun v7 => (if v7 = 0 then j_X11_of_20 M p1 p2 M else (if p2 = 0 then gd (gin (17 + p1) 70) (some (M.1 0 60 (17 + p1).toNatClampNeg, M)) else (if p2 = 1 then gd (gin (24 + p1) 70) (some (M.1 0 60 (24 + p1).toNatClampNeg, M)) else (if p2 = 2 then gd (gin (31 + p1) 70) (some (M.1 0 60 (31 + p1).toNatClampNeg, M)) else (if p2 = 3 then gd (gin (2 + p1) 70) (some (M.1 0 60 (2 + p1).toNatClampNeg, M)) else (if p2 = 4 then gd (gin (9 + p1) 70) (some (M.1 0 60 (9 + p1).toNatClampNeg, M)) else (if p2 = 5 then Option.bind (x_X11_serverOf M p1) (fun v22 => some (v22, M)) else Option.bind (x_X11_serverOf M p1) (fun v24 => Option.bind (x_X11_contentOf M p1 v24) (fun v26 => some (v26, M)))))))))))))
set_option maxRecDepth 100000 in
set_option maxHeartbeats 4000000 in
theorem c_X11_of {l : Launch} {Y : gY} {M : gMem} {p1 : Int32} {p2 : Int32} {r : (Int32 × gMem)} (hx : x_X11_of M p1 p2 = some r) : Met l yX11_of (gws yX11_of cX11_of 3 (some .int)) { frames := 3, cells := 0, slots := 0, locals := 65 } (va_Pc [.ref (gad Y 0 59), .int p1, .int p2] (gS0 Y M)) (gQi Y r) 0 0 (gA Y) := by
  refine gmet (lv := [(0, .ref (gad Y 0 59)), (1, .int p1), (2, .int p2)]) "GuestStaffModel" (by decide) rfl (Nat.le_of_ble_eq_true rfl) rfl (fun X hC hF => ?_)
  have J20 : ∀ (N : gMem) , j_X11_of_20 M p1 p2 N = some r → gWW X Y 3 20 [(0, .ref (gad Y 0 59))] [] N := by
    intro N hx
    unfold j_X11_of_20 at hx
    refine q_aload_n hC 0 dX11_of_20 rfl rfl ?_
    obtain ⟨v5, q6, hx⟩ := gb_e hx
    refine q_ki (q_rV (As := []) (rest := []) hC mm_X11_badFar wM_X11_89 (c_X11_badFar q6) ⟨rfl, rfl, Nat.le_of_ble_eq_true rfl, Nat.le_of_ble_eq_true rfl⟩ (gV_t (by decide) (by decide)) rfl rfl rfl rfl (Nat.le_of_ble_eq_true rfl) dX11_of_21) ?_
    exact q_iret hC hF dX11_of_24 (Option.some.inj hx)
  unfold x_X11_of at hx
  refine q_aload_n hC 0 dX11_of_0 rfl rfl ?_
  refine q_iload_n hC 1 dX11_of_1 rfl rfl ?_
  obtain ⟨v1, q2, hx⟩ := gb_e hx
  refine q_kzp (q_rV (As := [.int p1]) (rest := []) hC mm_X11_isGuest wM_X11_85 (c_X11_isGuest q2) ⟨rfl, rfl, Nat.le_of_ble_eq_true rfl, Nat.le_of_ble_eq_true rfl⟩ (gV_t (by decide) (by decide)) rfl rfl rfl rfl (Nat.le_of_ble_eq_true rfl) dX11_of_2) (fun z3 => ?_)
  refine q_if_eq hC 20 dX11_of_5 rfl (fun h4 => ?_) (fun h4 => ?_)
  · have hx := gi_p h4 hx
    exact q_sub [0] rfl (J20 M hx)
  · have hx := gi_n h4 hx
    refine q_iload_n hC 2 dX11_of_8 rfl rfl ?_
    refine q_i2l hC dX11_of_9 ?_
    refine q_lconst hC 0 dX11_of_10 rfl ?_
    refine q_ldc2 hC 6 dX11_of_11 wC_X11_178 ?_
    obtain ⟨v7, q8, hx⟩ := gb_e hx
    refine q_kzp (q_rS (As := [.long (Int32.toInt64 p2), .long 0, .long 6]) (rest := []) hC mm_X11_in wM_X11_57 (c_X11_in q8) ⟨rfl, rfl, Nat.le_of_ble_eq_true rfl, Nat.le_of_ble_eq_true rfl⟩ rfl rfl (Nat.le_of_ble_eq_true rfl) dX11_of_14) (fun z9 => ?_)
    refine q_if_ne hC 25 dX11_of_17 rfl (fun h10 => ?_) (fun h10 => ?_)
    · have hx := gi_n h10 hx
      refine q_iload_n hC 2 dX11_of_25 rfl rfl ?_
      by_cases h11 : p2 = 0
      · have hx := gi_p h11 hx
        refine q_tin hC 0 64 h11 dX11_of_26 (by decide) (by decide) rfl rfl ?_
        refine q_aload_n hC 0 dX11_of_64 rfl rfl ?_
        refine gf_X11_7 hC dX11_of_65 ?_
        refine q_bipush hC 17 dX11_of_68 rfl ?_
        refine q_iload_n hC 1 dX11_of_70 rfl rfl ?_
        refine q_iadd hC dX11_of_71 ?_
        have g12 := (gd_e hx).1
        have hx := (gd_e hx).2
        refine q_iald hC 69 (gV_t (by decide) (by decide)) rfl g12 dX11_of_72 ?_
        exact q_iret hC hF dX11_of_73 (Option.some.inj hx)
      have hx := gi_n h11 hx
      by_cases h13 : p2 = 1
      · have hx := gi_p h13 hx
        refine q_tin hC 1 74 h13 dX11_of_26 (by decide) (by decide) rfl rfl ?_
        refine q_aload_n hC 0 dX11_of_74 rfl rfl ?_
        refine gf_X11_7 hC dX11_of_75 ?_
        refine q_bipush hC 24 dX11_of_78 rfl ?_
        refine q_iload_n hC 1 dX11_of_80 rfl rfl ?_
        refine q_iadd hC dX11_of_81 ?_
        have g14 := (gd_e hx).1
        have hx := (gd_e hx).2
        refine q_iald hC 69 (gV_t (by decide) (by decide)) rfl g14 dX11_of_82 ?_
        exact q_iret hC hF dX11_of_83 (Option.some.inj hx)
      have hx := gi_n h13 hx
      by_cases h15 : p2 = 2
      · have hx := gi_p h15 hx
        refine q_tin hC 2 84 h15 dX11_of_26 (by decide) (by decide) rfl rfl ?_
        refine q_aload_n hC 0 dX11_of_84 rfl rfl ?_
        refine gf_X11_7 hC dX11_of_85 ?_
        refine q_bipush hC 31 dX11_of_88 rfl ?_
        refine q_iload_n hC 1 dX11_of_90 rfl rfl ?_
        refine q_iadd hC dX11_of_91 ?_
        have g16 := (gd_e hx).1
        have hx := (gd_e hx).2
        refine q_iald hC 69 (gV_t (by decide) (by decide)) rfl g16 dX11_of_92 ?_
        exact q_iret hC hF dX11_of_93 (Option.some.inj hx)
      have hx := gi_n h15 hx
      by_cases h17 : p2 = 3
      · have hx := gi_p h17 hx
        refine q_tin hC 3 94 h17 dX11_of_26 (by decide) (by decide) rfl rfl ?_
        refine q_aload_n hC 0 dX11_of_94 rfl rfl ?_
        refine gf_X11_7 hC dX11_of_95 ?_
        refine q_iconst hC 2 dX11_of_98 rfl ?_
        refine q_iload_n hC 1 dX11_of_99 rfl rfl ?_
        refine q_iadd hC dX11_of_100 ?_
        have g18 := (gd_e hx).1
        have hx := (gd_e hx).2
        refine q_iald hC 69 (gV_t (by decide) (by decide)) rfl g18 dX11_of_101 ?_
        exact q_iret hC hF dX11_of_102 (Option.some.inj hx)
      have hx := gi_n h17 hx
      by_cases h19 : p2 = 4
      · have hx := gi_p h19 hx
        refine q_tin hC 4 103 h19 dX11_of_26 (by decide) (by decide) rfl rfl ?_
        refine q_aload_n hC 0 dX11_of_103 rfl rfl ?_
        refine gf_X11_7 hC dX11_of_104 ?_
        refine q_bipush hC 9 dX11_of_107 rfl ?_
        refine q_iload_n hC 1 dX11_of_109 rfl rfl ?_
        refine q_iadd hC dX11_of_110 ?_
        have g20 := (gd_e hx).1
        have hx := (gd_e hx).2
        refine q_iald hC 69 (gV_t (by decide) (by decide)) rfl g20 dX11_of_111 ?_
        exact q_iret hC hF dX11_of_112 (Option.some.inj hx)
      have hx := gi_n h19 hx
      by_cases h21 : p2 = 5
      · have hx := gi_p h21 hx
        refine q_tin hC 5 113 h21 dX11_of_26 (by decide) (by decide) rfl rfl ?_
        refine q_aload_n hC 0 dX11_of_113 rfl rfl ?_
        refine q_iload_n hC 1 dX11_of_114 rfl rfl ?_
        obtain ⟨v22, q23, hx⟩ := gb_e hx
        refine q_kip (q_rV (As := [.int p1]) (rest := []) hC mm_X11_serverOf wM_X11_163 (c_X11_serverOf q23) ⟨rfl, rfl, Nat.le_of_ble_eq_true rfl, Nat.le_of_ble_eq_true rfl⟩ (gV_t (by decide) (by decide)) rfl rfl rfl rfl (Nat.le_of_ble_eq_true rfl) dX11_of_115) ?_
        exact q_iret hC hF dX11_of_118 (Option.some.inj hx)
      have hx := gi_n h21 hx
      have th11 := lv_neT (a := 0) h11 (by decide)
      have th13 := lv_neT (a := 1) h13 (by decide)
      have th15 := lv_neT (a := 2) h15 (by decide)
      have th17 := lv_neT (a := 3) h17 (by decide)
      have th19 := lv_neT (a := 4) h19 (by decide)
      have th21 := lv_neT (a := 5) h21 (by decide)
      refine q_tout hC 119 (by omega) dX11_of_26 rfl ?_
      refine q_aload_n hC 0 dX11_of_119 rfl rfl ?_
      refine q_iload_n hC 1 dX11_of_120 rfl rfl ?_
      refine q_aload_n hC 0 dX11_of_121 rfl rfl ?_
      refine q_iload_n hC 1 dX11_of_122 rfl rfl ?_
      obtain ⟨v24, q25, hx⟩ := gb_e hx
      refine q_kip (q_rV (As := [.int p1]) (rest := [.int p1, .ref (gad Y 0 59)]) hC mm_X11_serverOf wM_X11_163 (c_X11_serverOf q25) ⟨rfl, rfl, Nat.le_of_ble_eq_true rfl, Nat.le_of_ble_eq_true rfl⟩ (gV_t (by decide) (by decide)) rfl rfl rfl rfl (Nat.le_of_ble_eq_true rfl) dX11_of_123) ?_
      obtain ⟨v26, q27, hx⟩ := gb_e hx
      refine q_kip (q_rV (As := [.int p1, .int v24]) (rest := []) hC mm_X11_contentOf wM_X11_166 (c_X11_contentOf q27) ⟨rfl, rfl, Nat.le_of_ble_eq_true rfl, Nat.le_of_ble_eq_true rfl⟩ (gV_t (by decide) (by decide)) rfl rfl rfl rfl (Nat.le_of_ble_eq_true rfl) dX11_of_126) ?_
      exact q_iret hC hF dX11_of_129 (Option.some.inj hx)
    · have hx := gi_p h10 hx
      exact q_sub [0] rfl (J20 M hx)

theorem dX11_can_0 : decode cX11_can 0 = .ok (.aload_n 0, 1) := by decide +kernel
theorem dX11_can_1 : decode cX11_can 1 = .ok (.iload_n 1, 1) := by decide +kernel
theorem dX11_can_2 : decode cX11_can 2 = .ok (.invokevirtual 85, 3) := by decide +kernel
theorem dX11_can_5 : decode cX11_can 5 = .ok (.ifCond .eq 16, 3) := by decide +kernel
theorem dX11_can_8 : decode cX11_can 8 = .ok (.aload_n 0, 1) := by decide +kernel
theorem dX11_can_9 : decode cX11_can 9 = .ok (.iload_n 2, 1) := by decide +kernel
theorem dX11_can_10 : decode cX11_can 10 = .ok (.invokevirtual 85, 3) := by decide +kernel
theorem dX11_can_13 : decode cX11_can 13 = .ok (.ifCond .eq 8, 3) := by decide +kernel
theorem dX11_can_16 : decode cX11_can 16 = .ok (.iload_n 1, 1) := by decide +kernel
theorem dX11_can_17 : decode cX11_can 17 = .ok (.iload_n 2, 1) := by decide +kernel
theorem dX11_can_18 : decode cX11_can 18 = .ok (.if_icmp .ne 10, 3) := by decide +kernel
theorem dX11_can_21 : decode cX11_can 21 = .ok (.aload_n 0, 1) := by decide +kernel
theorem dX11_can_22 : decode cX11_can 22 = .ok (.invokevirtual 74, 3) := by decide +kernel
theorem dX11_can_25 : decode cX11_can 25 = .ok (.goto 17, 3) := by decide +kernel
theorem dX11_can_28 : decode cX11_can 28 = .ok (.aload_n 0, 1) := by decide +kernel
theorem dX11_can_29 : decode cX11_can 29 = .ok (.iload_n 1, 1) := by decide +kernel
theorem dX11_can_30 : decode cX11_can 30 = .ok (.iload_n 2, 1) := by decide +kernel
theorem dX11_can_31 : decode cX11_can 31 = .ok (.invokevirtual 156, 3) := by decide +kernel
theorem dX11_can_34 : decode cX11_can 34 = .ok (.ifCond .eq 7, 3) := by decide +kernel
theorem dX11_can_37 : decode cX11_can 37 = .ok (.iconst 1, 1) := by decide +kernel
theorem dX11_can_38 : decode cX11_can 38 = .ok (.goto 4, 3) := by decide +kernel
theorem dX11_can_41 : decode cX11_can 41 = .ok (.iconst 0, 1) := by decide +kernel
theorem dX11_can_42 : decode cX11_can 42 = .ok (.ireturn, 1) := by decide +kernel
def j_X11_can_21 (M : gMem) (p1 : Int32) (p2 : Int32) (N : gMem) : Option (Int32 × gMem) := Option.bind (x_X11_bad N) (fun v5 => some (v5.1, v5.2))
def x_X11_can (M : gMem) (p1 : Int32) (p2 : Int32) : Option (Int32 × gMem) := Option.bind (x_X11_isGuest M p1) (fun v1 => (if v1 = 0 then j_X11_can_21 M p1 p2 M else Option.bind (x_X11_isGuest M p2) (fun v7 => (if v7 = 0 then j_X11_can_21 M p1 p2 M else (if p1 = p2 then j_X11_can_21 M p1 p2 M else Option.bind (x_X11_canServe M p1 p2) (fun v12 => (if v12 = 0 then some (0, M) else some (1, M))))))))
set_option maxRecDepth 100000 in
set_option maxHeartbeats 4000000 in
theorem c_X11_can {l : Launch} {Y : gY} {M : gMem} {p1 : Int32} {p2 : Int32} {r : (Int32 × gMem)} (hx : x_X11_can M p1 p2 = some r) : Met l yX11_can (gws yX11_can cX11_can 3 (some .int)) { frames := 2, cells := 0, slots := 0, locals := 46 } (va_Pc [.ref (gad Y 0 59), .int p1, .int p2] (gS0 Y M)) (gQi Y r) 0 0 (gA Y) := by
  refine gmet (lv := [(0, .ref (gad Y 0 59)), (1, .int p1), (2, .int p2)]) "GuestStaffModel" (by decide) rfl (Nat.le_of_ble_eq_true rfl) rfl (fun X hC hF => ?_)
  have J21 : ∀ (N : gMem) , j_X11_can_21 M p1 p2 N = some r → gWW X Y 3 21 [(0, .ref (gad Y 0 59))] [] N := by
    intro N hx
    unfold j_X11_can_21 at hx
    refine q_aload_n hC 0 dX11_can_21 rfl rfl ?_
    obtain ⟨v5, q6, hx⟩ := gb_e hx
    refine q_ki (q_rV (As := []) (rest := []) hC mm_X11_bad wM_X11_74 (c_X11_bad q6) ⟨rfl, rfl, Nat.le_of_ble_eq_true rfl, Nat.le_of_ble_eq_true rfl⟩ (gV_t (by decide) (by decide)) rfl rfl rfl rfl (Nat.le_of_ble_eq_true rfl) dX11_can_22) ?_
    refine q_goto hC 42 dX11_can_25 rfl ?_
    exact q_iret hC hF dX11_can_42 (Option.some.inj hx)
  unfold x_X11_can at hx
  refine q_aload_n hC 0 dX11_can_0 rfl rfl ?_
  refine q_iload_n hC 1 dX11_can_1 rfl rfl ?_
  obtain ⟨v1, q2, hx⟩ := gb_e hx
  refine q_kzp (q_rV (As := [.int p1]) (rest := []) hC mm_X11_isGuest wM_X11_85 (c_X11_isGuest q2) ⟨rfl, rfl, Nat.le_of_ble_eq_true rfl, Nat.le_of_ble_eq_true rfl⟩ (gV_t (by decide) (by decide)) rfl rfl rfl rfl (Nat.le_of_ble_eq_true rfl) dX11_can_2) (fun z3 => ?_)
  refine q_if_eq hC 21 dX11_can_5 rfl (fun h4 => ?_) (fun h4 => ?_)
  · have hx := gi_p h4 hx
    exact q_sub [0] rfl (J21 M hx)
  · have hx := gi_n h4 hx
    refine q_aload_n hC 0 dX11_can_8 rfl rfl ?_
    refine q_iload_n hC 2 dX11_can_9 rfl rfl ?_
    obtain ⟨v7, q8, hx⟩ := gb_e hx
    refine q_kzp (q_rV (As := [.int p2]) (rest := []) hC mm_X11_isGuest wM_X11_85 (c_X11_isGuest q8) ⟨rfl, rfl, Nat.le_of_ble_eq_true rfl, Nat.le_of_ble_eq_true rfl⟩ (gV_t (by decide) (by decide)) rfl rfl rfl rfl (Nat.le_of_ble_eq_true rfl) dX11_can_10) (fun z9 => ?_)
    refine q_if_eq hC 21 dX11_can_13 rfl (fun h10 => ?_) (fun h10 => ?_)
    · have hx := gi_p h10 hx
      exact q_sub [0] rfl (J21 M hx)
    · have hx := gi_n h10 hx
      refine q_iload_n hC 1 dX11_can_16 rfl rfl ?_
      refine q_iload_n hC 2 dX11_can_17 rfl rfl ?_
      refine q_ic_ne hC 28 dX11_can_18 rfl (fun h11 => ?_) (fun h11 => ?_)
      · have hx := gi_n h11 hx
        refine q_aload_n hC 0 dX11_can_28 rfl rfl ?_
        refine q_iload_n hC 1 dX11_can_29 rfl rfl ?_
        refine q_iload_n hC 2 dX11_can_30 rfl rfl ?_
        obtain ⟨v12, q13, hx⟩ := gb_e hx
        refine q_kzp (q_rV (As := [.int p1, .int p2]) (rest := []) hC mm_X11_canServe wM_X11_156 (c_X11_canServe q13) ⟨rfl, rfl, Nat.le_of_ble_eq_true rfl, Nat.le_of_ble_eq_true rfl⟩ (gV_t (by decide) (by decide)) rfl rfl rfl rfl (Nat.le_of_ble_eq_true rfl) dX11_can_31) (fun z14 => ?_)
        refine q_if_eq hC 41 dX11_can_34 rfl (fun h15 => ?_) (fun h15 => ?_)
        · have hx := gi_p h15 hx
          refine q_iconst hC 0 dX11_can_41 rfl ?_
          exact q_iret hC hF dX11_can_42 (Option.some.inj hx)
        · have hx := gi_n h15 hx
          refine q_iconst hC 1 dX11_can_37 rfl ?_
          refine q_goto hC 42 dX11_can_38 rfl ?_
          exact q_iret hC hF dX11_can_42 (Option.some.inj hx)
      · have hx := gi_p h11 hx
        exact q_sub [0] rfl (J21 M hx)

theorem dX11_work_0 : decode cX11_work 0 = .ok (.aload_n 0, 1) := by decide +kernel
theorem dX11_work_1 : decode cX11_work 1 = .ok (.iload_n 1, 1) := by decide +kernel
theorem dX11_work_2 : decode cX11_work 2 = .ok (.invokevirtual 85, 3) := by decide +kernel
theorem dX11_work_5 : decode cX11_work 5 = .ok (.ifCond .eq 15, 3) := by decide +kernel
theorem dX11_work_8 : decode cX11_work 8 = .ok (.iload_n 2, 1) := by decide +kernel
theorem dX11_work_9 : decode cX11_work 9 = .ok (.i2l, 1) := by decide +kernel
theorem dX11_work_10 : decode cX11_work 10 = .ok (.lconst 0, 1) := by decide +kernel
theorem dX11_work_11 : decode cX11_work 11 = .ok (.ldc2_w 70, 3) := by decide +kernel
theorem dX11_work_14 : decode cX11_work 14 = .ok (.invokestatic 57, 3) := by decide +kernel
theorem dX11_work_17 : decode cX11_work 17 = .ok (.ifCond .ne 10, 3) := by decide +kernel
theorem dX11_work_20 : decode cX11_work 20 = .ok (.aload_n 0, 1) := by decide +kernel
theorem dX11_work_21 : decode cX11_work 21 = .ok (.invokevirtual 74, 3) := by decide +kernel
theorem dX11_work_24 : decode cX11_work 24 = .ok (.goto 9, 3) := by decide +kernel
theorem dX11_work_27 : decode cX11_work 27 = .ok (.aload_n 0, 1) := by decide +kernel
theorem dX11_work_28 : decode cX11_work 28 = .ok (.iload_n 1, 1) := by decide +kernel
theorem dX11_work_29 : decode cX11_work 29 = .ok (.iload_n 2, 1) := by decide +kernel
theorem dX11_work_30 : decode cX11_work 30 = .ok (.invokevirtual 180, 3) := by decide +kernel
theorem dX11_work_33 : decode cX11_work 33 = .ok (.ireturn, 1) := by decide +kernel
def j_X11_work_20 (M : gMem) (p1 : Int32) (p2 : Int32) (N : gMem) : Option (Int32 × gMem) := Option.bind (x_X11_bad N) (fun v5 => some (v5.1, v5.2))
def x_X11_work (M : gMem) (p1 : Int32) (p2 : Int32) : Option (Int32 × gMem) := Option.bind (x_X11_isGuest M p1) (fun v1 => (if v1 = 0 then j_X11_work_20 M p1 p2 M else Option.bind (x_X11_in (Int32.toInt64 p2) 0 7) (fun v7 => (if v7 = 0 then j_X11_work_20 M p1 p2 M else Option.bind (x_X11_workBy M p1 p2) (fun v11 => some (v11, M))))))
set_option maxRecDepth 100000 in
set_option maxHeartbeats 4000000 in
theorem c_X11_work {l : Launch} {Y : gY} {M : gMem} {p1 : Int32} {p2 : Int32} {r : (Int32 × gMem)} (hx : x_X11_work M p1 p2 = some r) : Met l yX11_work (gws yX11_work cX11_work 3 (some .int)) { frames := 2, cells := 0, slots := 0, locals := 46 } (va_Pc [.ref (gad Y 0 59), .int p1, .int p2] (gS0 Y M)) (gQi Y r) 0 0 (gA Y) := by
  refine gmet (lv := [(0, .ref (gad Y 0 59)), (1, .int p1), (2, .int p2)]) "GuestStaffModel" (by decide) rfl (Nat.le_of_ble_eq_true rfl) rfl (fun X hC hF => ?_)
  have J20 : ∀ (N : gMem) , j_X11_work_20 M p1 p2 N = some r → gWW X Y 3 20 [(0, .ref (gad Y 0 59))] [] N := by
    intro N hx
    unfold j_X11_work_20 at hx
    refine q_aload_n hC 0 dX11_work_20 rfl rfl ?_
    obtain ⟨v5, q6, hx⟩ := gb_e hx
    refine q_ki (q_rV (As := []) (rest := []) hC mm_X11_bad wM_X11_74 (c_X11_bad q6) ⟨rfl, rfl, Nat.le_of_ble_eq_true rfl, Nat.le_of_ble_eq_true rfl⟩ (gV_t (by decide) (by decide)) rfl rfl rfl rfl (Nat.le_of_ble_eq_true rfl) dX11_work_21) ?_
    refine q_goto hC 33 dX11_work_24 rfl ?_
    exact q_iret hC hF dX11_work_33 (Option.some.inj hx)
  unfold x_X11_work at hx
  refine q_aload_n hC 0 dX11_work_0 rfl rfl ?_
  refine q_iload_n hC 1 dX11_work_1 rfl rfl ?_
  obtain ⟨v1, q2, hx⟩ := gb_e hx
  refine q_kzp (q_rV (As := [.int p1]) (rest := []) hC mm_X11_isGuest wM_X11_85 (c_X11_isGuest q2) ⟨rfl, rfl, Nat.le_of_ble_eq_true rfl, Nat.le_of_ble_eq_true rfl⟩ (gV_t (by decide) (by decide)) rfl rfl rfl rfl (Nat.le_of_ble_eq_true rfl) dX11_work_2) (fun z3 => ?_)
  refine q_if_eq hC 20 dX11_work_5 rfl (fun h4 => ?_) (fun h4 => ?_)
  · have hx := gi_p h4 hx
    exact q_sub [0] rfl (J20 M hx)
  · have hx := gi_n h4 hx
    refine q_iload_n hC 2 dX11_work_8 rfl rfl ?_
    refine q_i2l hC dX11_work_9 ?_
    refine q_lconst hC 0 dX11_work_10 rfl ?_
    refine q_ldc2 hC 7 dX11_work_11 wC_X11_70 ?_
    obtain ⟨v7, q8, hx⟩ := gb_e hx
    refine q_kzp (q_rS (As := [.long (Int32.toInt64 p2), .long 0, .long 7]) (rest := []) hC mm_X11_in wM_X11_57 (c_X11_in q8) ⟨rfl, rfl, Nat.le_of_ble_eq_true rfl, Nat.le_of_ble_eq_true rfl⟩ rfl rfl (Nat.le_of_ble_eq_true rfl) dX11_work_14) (fun z9 => ?_)
    refine q_if_ne hC 27 dX11_work_17 rfl (fun h10 => ?_) (fun h10 => ?_)
    · have hx := gi_n h10 hx
      refine q_aload_n hC 0 dX11_work_27 rfl rfl ?_
      refine q_iload_n hC 1 dX11_work_28 rfl rfl ?_
      refine q_iload_n hC 2 dX11_work_29 rfl rfl ?_
      obtain ⟨v11, q12, hx⟩ := gb_e hx
      refine q_kip (q_rV (As := [.int p1, .int p2]) (rest := []) hC mm_X11_workBy wM_X11_180 (c_X11_workBy q12) ⟨rfl, rfl, Nat.le_of_ble_eq_true rfl, Nat.le_of_ble_eq_true rfl⟩ (gV_t (by decide) (by decide)) rfl rfl rfl rfl (Nat.le_of_ble_eq_true rfl) dX11_work_30) ?_
      exact q_iret hC hF dX11_work_33 (Option.some.inj hx)
    · have hx := gi_p h10 hx
      exact q_sub [0] rfl (J20 M hx)

theorem dX11_factorial_0 : decode cX11_factorial 0 = .ok (.iconst 1, 1) := by decide +kernel
theorem dX11_factorial_1 : decode cX11_factorial 1 = .ok (.istore_n 1, 1) := by decide +kernel
theorem dX11_factorial_2 : decode cX11_factorial 2 = .ok (.iconst 2, 1) := by decide +kernel
theorem dX11_factorial_3 : decode cX11_factorial 3 = .ok (.istore_n 2, 1) := by decide +kernel
theorem dX11_factorial_4 : decode cX11_factorial 4 = .ok (.iload_n 2, 1) := by decide +kernel
theorem dX11_factorial_5 : decode cX11_factorial 5 = .ok (.iload_n 0, 1) := by decide +kernel
theorem dX11_factorial_6 : decode cX11_factorial 6 = .ok (.if_icmp .gt 13, 3) := by decide +kernel
theorem dX11_factorial_9 : decode cX11_factorial 9 = .ok (.iload_n 1, 1) := by decide +kernel
theorem dX11_factorial_10 : decode cX11_factorial 10 = .ok (.iload_n 2, 1) := by decide +kernel
theorem dX11_factorial_11 : decode cX11_factorial 11 = .ok (.imul, 1) := by decide +kernel
theorem dX11_factorial_12 : decode cX11_factorial 12 = .ok (.istore_n 1, 1) := by decide +kernel
theorem dX11_factorial_13 : decode cX11_factorial 13 = .ok (.iinc 2 1, 3) := by decide +kernel
theorem dX11_factorial_16 : decode cX11_factorial 16 = .ok (.goto (-12), 3) := by decide +kernel
theorem dX11_factorial_19 : decode cX11_factorial 19 = .ok (.iload_n 1, 1) := by decide +kernel
theorem dX11_factorial_20 : decode cX11_factorial 20 = .ok (.ireturn, 1) := by decide +kernel
def s_X11_factorial_4 (a0 : Int32) (b1 : Int32) (b2 : Int32) : Option ((Int32 × Int32) ⊕ (Int32 × Int32)) := (if a0 < b2 then some (.inr (b1, b2)) else some (.inl (b1 * b2, b2 + 1)))
def x_X11_factorial (p0 : Int32) : Option Int32 := Option.bind (itr FU (fun s => s_X11_factorial_4 p0 s.1 s.2) (1, 2)) (fun e2 => some e2.1)
set_option maxRecDepth 100000 in
set_option maxHeartbeats 4000000 in
theorem w_X11_factorial_4 {X : gX} {Y : gY} {M : gMem} {a0 : Int32} {r : Int32} (hC : gC X Y cX11_factorial "GuestStaffModel" 3 0 0) (hF : gF X Y (some .int) (gQi Y (r, M))) {e : (Int32 × Int32)} (kE : ∀ s : (Int32 × Int32), e = s → gWW X Y 3 19 [(1, .int s.1)] [] M) : ∀ (F : Nat) (s : (Int32 × Int32)), itr F (fun s => s_X11_factorial_4 a0 s.1 s.2) s = some e → gWW X Y 3 4 [(0, .int a0), (1, .int s.1), (2, .int s.2)] [] M := by
  intro F s
  refine itr_w (P := fun s => gWW X Y 3 4 [(0, .int a0), (1, .int s.1), (2, .int s.2)] [] M) (fun s o hx kI kx => ?_) F s
  obtain ⟨b1, b2⟩ := s
  have hx : s_X11_factorial_4 a0 b1 b2 = some o := hx
  have kE : ∀ s : (Int32 × Int32), o = .inr s → gWW X Y 3 19 [(1, .int s.1)] [] M := fun s q => kE s (kx _ q).symm
  unfold s_X11_factorial_4 at hx
  refine q_iload_n hC 2 dX11_factorial_4 rfl rfl ?_
  refine q_iload_n hC 0 dX11_factorial_5 rfl rfl ?_
  refine q_ic_gt hC 19 dX11_factorial_6 rfl (fun h1 => ?_) (fun h1 => ?_)
  · have hx := gi_p h1 hx
    exact q_sub [1] rfl (kE (b1, b2) (Option.some.inj hx).symm)
  · have hx := gi_n h1 hx
    refine q_iload_n hC 1 dX11_factorial_9 rfl rfl ?_
    refine q_iload_n hC 2 dX11_factorial_10 rfl rfl ?_
    refine q_imul hC dX11_factorial_11 ?_
    refine q_istore_n hC [(1, .int (b1 * b2)), (0, .int a0), (2, .int b2)] dX11_factorial_12 rfl (by decide) rfl ?_
    refine q_iinc hC 2 1 [(2, .int (b2 + 1)), (1, .int (b1 * b2)), (0, .int a0)] dX11_factorial_13 rfl rfl (by decide) rfl ?_
    refine q_goto hC 4 dX11_factorial_16 rfl ?_
    exact q_sub [2, 1, 0] rfl (kI (b1 * b2, b2 + 1) (Option.some.inj hx).symm)
set_option maxRecDepth 100000 in
set_option maxHeartbeats 4000000 in
theorem c_X11_factorial {l : Launch} {Y : gY} {M : gMem} {p0 : Int32} {r : Int32} (hx : x_X11_factorial p0 = some r) : Met l yX11_factorial (gws yX11_factorial cX11_factorial 3 (some .int)) { frames := 0, cells := 0, slots := 0, locals := 0 } (va_Pc [.int p0] (gS0 Y M)) (gQi Y (r, M)) 0 0 (gA Y) := by
  refine gmet (lv := [(0, .int p0)]) "GuestStaffModel" (by decide) rfl (Nat.le_of_ble_eq_true rfl) rfl (fun X hC hF => ?_)
  unfold x_X11_factorial at hx
  refine q_iconst hC 1 dX11_factorial_0 rfl ?_
  refine q_istore_n hC [(1, .int 1), (0, .int p0)] dX11_factorial_1 rfl (by decide) rfl ?_
  refine q_iconst hC 2 dX11_factorial_2 rfl ?_
  refine q_istore_n hC [(2, .int 2), (1, .int 1), (0, .int p0)] dX11_factorial_3 rfl (by decide) rfl ?_
  obtain ⟨e2, qe2, hx⟩ := gb_e hx
  refine q_sub [2, 1, 0] rfl (w_X11_factorial_4 hC hF (e := e2) (fun s q => ?_) _ _ qe2)
  · subst q
    refine q_iload_n hC 0 dX11_factorial_19 rfl rfl ?_
    exact q_iret hC hF dX11_factorial_20 (congrArg (fun z => (z, M)) (Option.some.inj hx))

theorem dX11_takeSet_0 : decode cX11_takeSet 0 = .ok (.aload_n 0, 1) := by decide +kernel
theorem dX11_takeSet_1 : decode cX11_takeSet 1 = .ok (.iconst 0, 1) := by decide +kernel
theorem dX11_takeSet_2 : decode cX11_takeSet 2 = .ok (.putfield 183, 3) := by decide +kernel
theorem dX11_takeSet_5 : decode cX11_takeSet 5 = .ok (.iconst 0, 1) := by decide +kernel
theorem dX11_takeSet_6 : decode cX11_takeSet 6 = .ok (.istore_n 2, 1) := by decide +kernel
theorem dX11_takeSet_7 : decode cX11_takeSet 7 = .ok (.iload_n 2, 1) := by decide +kernel
theorem dX11_takeSet_8 : decode cX11_takeSet 8 = .ok (.bipush 7, 2) := by decide +kernel
theorem dX11_takeSet_10 : decode cX11_takeSet 10 = .ok (.if_icmp .ge 37, 3) := by decide +kernel
theorem dX11_takeSet_13 : decode cX11_takeSet 13 = .ok (.iload_n 1, 1) := by decide +kernel
theorem dX11_takeSet_14 : decode cX11_takeSet 14 = .ok (.iload_n 2, 1) := by decide +kernel
theorem dX11_takeSet_15 : decode cX11_takeSet 15 = .ok (.invokestatic 153, 3) := by decide +kernel
theorem dX11_takeSet_18 : decode cX11_takeSet 18 = .ok (.ifCond .eq 23, 3) := by decide +kernel
theorem dX11_takeSet_21 : decode cX11_takeSet 21 = .ok (.aload_n 0, 1) := by decide +kernel
theorem dX11_takeSet_22 : decode cX11_takeSet 22 = .ok (.getfield 29, 3) := by decide +kernel
theorem dX11_takeSet_25 : decode cX11_takeSet 25 = .ok (.aload_n 0, 1) := by decide +kernel
theorem dX11_takeSet_26 : decode cX11_takeSet 26 = .ok (.getfield 183, 3) := by decide +kernel
theorem dX11_takeSet_29 : decode cX11_takeSet 29 = .ok (.iload_n 2, 1) := by decide +kernel
theorem dX11_takeSet_30 : decode cX11_takeSet 30 = .ok (.iastore, 1) := by decide +kernel
theorem dX11_takeSet_31 : decode cX11_takeSet 31 = .ok (.aload_n 0, 1) := by decide +kernel
theorem dX11_takeSet_32 : decode cX11_takeSet 32 = .ok (.dup, 1) := by decide +kernel
theorem dX11_takeSet_33 : decode cX11_takeSet 33 = .ok (.getfield 183, 3) := by decide +kernel
theorem dX11_takeSet_36 : decode cX11_takeSet 36 = .ok (.iconst 1, 1) := by decide +kernel
theorem dX11_takeSet_37 : decode cX11_takeSet 37 = .ok (.iadd, 1) := by decide +kernel
theorem dX11_takeSet_38 : decode cX11_takeSet 38 = .ok (.putfield 183, 3) := by decide +kernel
theorem dX11_takeSet_41 : decode cX11_takeSet 41 = .ok (.iinc 2 1, 3) := by decide +kernel
theorem dX11_takeSet_44 : decode cX11_takeSet 44 = .ok (.goto (-37), 3) := by decide +kernel
theorem dX11_takeSet_47 : decode cX11_takeSet 47 = .ok (.return_, 1) := by decide +kernel
def j_X11_takeSet_7_41 (a1 : Int32) (N : gMem) (b2 : Int32) : Option ((Int32 × gMem) ⊕ (Int32 × gMem)) := some (.inl (b2 + 1, N))
def s_X11_takeSet_7 (a1 : Int32) (b2 : Int32) (N : gMem) : Option ((Int32 × gMem) ⊕ (Int32 × gMem)) := (if 7 ≤ b2 then some (.inr (b2, N)) else Option.bind (x_X11_has a1 b2) (fun v2 => (if v2 = 0 then j_X11_takeSet_7_41 a1 N b2 else gd (gin (N.1 0 59 16) 7) (j_X11_takeSet_7_41 a1 (gwr (gwr N 0 65 (N.1 0 59 16).toNatClampNeg b2) 0 59 16 (((gwr N 0 65 (N.1 0 59 16).toNatClampNeg b2).1 0 59 16) + 1)) b2))))
def x_X11_takeSet (M : gMem) (p1 : Int32) : Option gMem := Option.bind (itr FU (fun s => s_X11_takeSet_7 p1 s.1 s.2) (0, gwr M 0 59 16 0)) (fun e7 => some e7.2)
set_option maxRecDepth 100000 in
set_option maxHeartbeats 4000000 in
theorem w_X11_takeSet_7 {X : gX} {Y : gY} {a1 : Int32} {r : gMem} (hC : gC X Y cX11_takeSet "GuestStaffModel" 3 1 21) (hF : gF X Y none (gQv Y r)) {e : (Int32 × gMem)} (kE : ∀ s : (Int32 × gMem), e = s → gWW X Y 3 47 [] [] s.2) : ∀ (F : Nat) (s : (Int32 × gMem)), itr F (fun s => s_X11_takeSet_7 a1 s.1 s.2) s = some e → gWW X Y 3 7 [(0, .ref (gad Y 0 59)), (1, .int a1), (2, .int s.1)] [] s.2 := by
  intro F s
  refine itr_w (P := fun s => gWW X Y 3 7 [(0, .ref (gad Y 0 59)), (1, .int a1), (2, .int s.1)] [] s.2) (fun s o hx kI kx => ?_) F s
  obtain ⟨b2, N⟩ := s
  have hx : s_X11_takeSet_7 a1 b2 N = some o := hx
  have kE : ∀ s : (Int32 × gMem), o = .inr s → gWW X Y 3 47 [] [] s.2 := fun s q => kE s (kx _ q).symm
  have J41 : ∀ (N : gMem) (b2 : Int32) , j_X11_takeSet_7_41 a1 N b2 = some o → gWW X Y 3 41 [(0, .ref (gad Y 0 59)), (1, .int a1), (2, .int b2)] [] N := by
    intro N b2 hx
    unfold j_X11_takeSet_7_41 at hx
    refine q_iinc hC 2 1 [(2, .int (b2 + 1)), (0, .ref (gad Y 0 59)), (1, .int a1)] dX11_takeSet_41 rfl rfl (by decide) rfl ?_
    refine q_goto hC 7 dX11_takeSet_44 rfl ?_
    exact q_sub [1, 2, 0] rfl (kI (b2 + 1, N) (Option.some.inj hx).symm)
  unfold s_X11_takeSet_7 at hx
  refine q_iload_n hC 2 dX11_takeSet_7 rfl rfl ?_
  refine q_bipush hC 7 dX11_takeSet_8 rfl ?_
  refine q_ic_ge hC 47 dX11_takeSet_10 rfl (fun h1 => ?_) (fun h1 => ?_)
  · have hx := gi_p h1 hx
    exact q_sub [] rfl (kE (b2, N) (Option.some.inj hx).symm)
  · have hx := gi_n h1 hx
    refine q_iload_n hC 1 dX11_takeSet_13 rfl rfl ?_
    refine q_iload_n hC 2 dX11_takeSet_14 rfl rfl ?_
    obtain ⟨v2, q3, hx⟩ := gb_e hx
    refine q_kzp (q_rS (As := [.int a1, .int b2]) (rest := []) hC mm_X11_has wM_X11_153 (c_X11_has q3) ⟨rfl, rfl, Nat.le_of_ble_eq_true rfl, Nat.le_of_ble_eq_true rfl⟩ rfl rfl (Nat.le_of_ble_eq_true rfl) dX11_takeSet_15) (fun z4 => ?_)
    refine q_if_eq hC 41 dX11_takeSet_18 rfl (fun h5 => ?_) (fun h5 => ?_)
    · have hx := gi_p h5 hx
      exact q_sub [0, 1, 2] rfl (J41 N b2 hx)
    · have hx := gi_n h5 hx
      refine q_aload_n hC 0 dX11_takeSet_21 rfl rfl ?_
      refine gf_X11_29 hC dX11_takeSet_22 ?_
      refine q_aload_n hC 0 dX11_takeSet_25 rfl rfl ?_
      refine gf_X11_183 hC dX11_takeSet_26 ?_
      refine q_iload_n hC 2 dX11_takeSet_29 rfl rfl ?_
      have g6 := (gd_e hx).1
      have hx := (gd_e hx).2
      refine q_iast hC 6 (gV_t (by decide) (by decide)) rfl g6 dX11_takeSet_30 ?_
      refine q_aload_n hC 0 dX11_takeSet_31 rfl rfl ?_
      refine q_dup hC dX11_takeSet_32 rfl ?_
      refine gf_X11_183 hC dX11_takeSet_33 ?_
      refine q_iconst hC 1 dX11_takeSet_36 rfl ?_
      refine q_iadd hC dX11_takeSet_37 ?_
      refine pf_X11_183 hC dX11_takeSet_38 ?_
      exact q_sub [0, 1, 2] rfl (J41 (gwr (gwr N 0 65 (N.1 0 59 16).toNatClampNeg b2) 0 59 16 (((gwr N 0 65 (N.1 0 59 16).toNatClampNeg b2).1 0 59 16) + 1)) b2 hx)
set_option maxRecDepth 100000 in
set_option maxHeartbeats 4000000 in
theorem c_X11_takeSet {l : Launch} {Y : gY} {M : gMem} {p1 : Int32} {r : gMem} (hx : x_X11_takeSet M p1 = some r) : Met l yX11_takeSet (gws yX11_takeSet cX11_takeSet 3 none) { frames := 1, cells := 0, slots := 0, locals := 21 } (va_Pc [.ref (gad Y 0 59), .int p1] (gS0 Y M)) (gQv Y r) 0 0 (gA Y) := by
  refine gmet (lv := [(0, .ref (gad Y 0 59)), (1, .int p1)]) "GuestStaffModel" (by decide) rfl (Nat.le_of_ble_eq_true rfl) rfl (fun X hC hF => ?_)
  unfold x_X11_takeSet at hx
  refine q_aload_n hC 0 dX11_takeSet_0 rfl rfl ?_
  refine q_iconst hC 0 dX11_takeSet_1 rfl ?_
  refine pf_X11_183 hC dX11_takeSet_2 ?_
  refine q_iconst hC 0 dX11_takeSet_5 rfl ?_
  refine q_istore_n hC [(2, .int 0), (0, .ref (gad Y 0 59)), (1, .int p1)] dX11_takeSet_6 rfl (by decide) rfl ?_
  obtain ⟨e7, qe7, hx⟩ := gb_e hx
  refine q_sub [1, 2, 0] rfl (w_X11_takeSet_7 hC hF (e := e7) (fun s q => ?_) _ _ qe7)
  · subst q
    exact q_vret hC hF dX11_takeSet_47 (Option.some.inj hx)

theorem dX11_isRow_0 : decode cX11_isRow 0 = .ok (.iconst 1, 1) := by decide +kernel
theorem dX11_isRow_1 : decode cX11_isRow 1 = .ok (.aload_n 0, 1) := by decide +kernel
theorem dX11_isRow_2 : decode cX11_isRow 2 = .ok (.getfield 183, 3) := by decide +kernel
theorem dX11_isRow_5 : decode cX11_isRow 5 = .ok (.ishl, 1) := by decide +kernel
theorem dX11_isRow_6 : decode cX11_isRow 6 = .ok (.iconst 1, 1) := by decide +kernel
theorem dX11_isRow_7 : decode cX11_isRow 7 = .ok (.isub, 1) := by decide +kernel
theorem dX11_isRow_8 : decode cX11_isRow 8 = .ok (.istore_n 2, 1) := by decide +kernel
theorem dX11_isRow_9 : decode cX11_isRow 9 = .ok (.iload_n 1, 1) := by decide +kernel
theorem dX11_isRow_10 : decode cX11_isRow 10 = .ok (.istore_n 3, 1) := by decide +kernel
theorem dX11_isRow_11 : decode cX11_isRow 11 = .ok (.iconst 1, 1) := by decide +kernel
theorem dX11_isRow_12 : decode cX11_isRow 12 = .ok (.istore 4, 2) := by decide +kernel
theorem dX11_isRow_14 : decode cX11_isRow 14 = .ok (.iconst 0, 1) := by decide +kernel
theorem dX11_isRow_15 : decode cX11_isRow 15 = .ok (.istore 5, 2) := by decide +kernel
theorem dX11_isRow_17 : decode cX11_isRow 17 = .ok (.iload 5, 2) := by decide +kernel
theorem dX11_isRow_19 : decode cX11_isRow 19 = .ok (.aload_n 0, 1) := by decide +kernel
theorem dX11_isRow_20 : decode cX11_isRow 20 = .ok (.getfield 183, 3) := by decide +kernel
theorem dX11_isRow_23 : decode cX11_isRow 23 = .ok (.if_icmp .ge 134, 3) := by decide +kernel
theorem dX11_isRow_26 : decode cX11_isRow 26 = .ok (.iload 4, 2) := by decide +kernel
theorem dX11_isRow_28 : decode cX11_isRow 28 = .ok (.ifCond .eq 129, 3) := by decide +kernel
theorem dX11_isRow_31 : decode cX11_isRow 31 = .ok (.aload_n 0, 1) := by decide +kernel
theorem dX11_isRow_32 : decode cX11_isRow 32 = .ok (.getfield 183, 3) := by decide +kernel
theorem dX11_isRow_35 : decode cX11_isRow 35 = .ok (.iconst 1, 1) := by decide +kernel
theorem dX11_isRow_36 : decode cX11_isRow 36 = .ok (.isub, 1) := by decide +kernel
theorem dX11_isRow_37 : decode cX11_isRow 37 = .ok (.iload 5, 2) := by decide +kernel
theorem dX11_isRow_39 : decode cX11_isRow 39 = .ok (.isub, 1) := by decide +kernel
theorem dX11_isRow_40 : decode cX11_isRow 40 = .ok (.invokestatic 186, 3) := by decide +kernel
theorem dX11_isRow_43 : decode cX11_isRow 43 = .ok (.istore 6, 2) := by decide +kernel
theorem dX11_isRow_45 : decode cX11_isRow 45 = .ok (.iload_n 3, 1) := by decide +kernel
theorem dX11_isRow_46 : decode cX11_isRow 46 = .ok (.iload 6, 2) := by decide +kernel
theorem dX11_isRow_48 : decode cX11_isRow 48 = .ok (.idiv, 1) := by decide +kernel
theorem dX11_isRow_49 : decode cX11_isRow 49 = .ok (.istore 7, 2) := by decide +kernel
theorem dX11_isRow_51 : decode cX11_isRow 51 = .ok (.iload_n 3, 1) := by decide +kernel
theorem dX11_isRow_52 : decode cX11_isRow 52 = .ok (.iload 6, 2) := by decide +kernel
theorem dX11_isRow_54 : decode cX11_isRow 54 = .ok (.irem, 1) := by decide +kernel
theorem dX11_isRow_55 : decode cX11_isRow 55 = .ok (.istore_n 3, 1) := by decide +kernel
theorem dX11_isRow_56 : decode cX11_isRow 56 = .ok (.iconst 0, 1) := by decide +kernel
theorem dX11_isRow_57 : decode cX11_isRow 57 = .ok (.istore 8, 2) := by decide +kernel
theorem dX11_isRow_59 : decode cX11_isRow 59 = .ok (.iconst 0, 1) := by decide +kernel
theorem dX11_isRow_60 : decode cX11_isRow 60 = .ok (.istore 9, 2) := by decide +kernel
theorem dX11_isRow_62 : decode cX11_isRow 62 = .ok (.iload_n 2, 1) := by decide +kernel
theorem dX11_isRow_63 : decode cX11_isRow 63 = .ok (.iload 8, 2) := by decide +kernel
theorem dX11_isRow_65 : decode cX11_isRow 65 = .ok (.invokestatic 153, 3) := by decide +kernel
theorem dX11_isRow_68 : decode cX11_isRow 68 = .ok (.ifCond .eq 10, 3) := by decide +kernel
theorem dX11_isRow_71 : decode cX11_isRow 71 = .ok (.iload 9, 2) := by decide +kernel
theorem dX11_isRow_73 : decode cX11_isRow 73 = .ok (.iload 7, 2) := by decide +kernel
theorem dX11_isRow_75 : decode cX11_isRow 75 = .ok (.if_icmp .ge 28, 3) := by decide +kernel
theorem dX11_isRow_78 : decode cX11_isRow 78 = .ok (.iload 9, 2) := by decide +kernel
theorem dX11_isRow_80 : decode cX11_isRow 80 = .ok (.iload_n 2, 1) := by decide +kernel
theorem dX11_isRow_81 : decode cX11_isRow 81 = .ok (.iload 8, 2) := by decide +kernel
theorem dX11_isRow_83 : decode cX11_isRow 83 = .ok (.invokestatic 153, 3) := by decide +kernel
theorem dX11_isRow_86 : decode cX11_isRow 86 = .ok (.ifCond .eq 7, 3) := by decide +kernel
theorem dX11_isRow_89 : decode cX11_isRow 89 = .ok (.iconst 1, 1) := by decide +kernel
theorem dX11_isRow_90 : decode cX11_isRow 90 = .ok (.goto 4, 3) := by decide +kernel
theorem dX11_isRow_93 : decode cX11_isRow 93 = .ok (.iconst 0, 1) := by decide +kernel
theorem dX11_isRow_94 : decode cX11_isRow 94 = .ok (.iadd, 1) := by decide +kernel
theorem dX11_isRow_95 : decode cX11_isRow 95 = .ok (.istore 9, 2) := by decide +kernel
theorem dX11_isRow_97 : decode cX11_isRow 97 = .ok (.iinc 8 1, 3) := by decide +kernel
theorem dX11_isRow_100 : decode cX11_isRow 100 = .ok (.goto (-38), 3) := by decide +kernel
theorem dX11_isRow_103 : decode cX11_isRow 103 = .ok (.iload_n 2, 1) := by decide +kernel
theorem dX11_isRow_104 : decode cX11_isRow 104 = .ok (.iconst 1, 1) := by decide +kernel
theorem dX11_isRow_105 : decode cX11_isRow 105 = .ok (.iload 8, 2) := by decide +kernel
theorem dX11_isRow_107 : decode cX11_isRow 107 = .ok (.ishl, 1) := by decide +kernel
theorem dX11_isRow_108 : decode cX11_isRow 108 = .ok (.iconst (-1), 1) := by decide +kernel
theorem dX11_isRow_109 : decode cX11_isRow 109 = .ok (.ixor, 1) := by decide +kernel
theorem dX11_isRow_110 : decode cX11_isRow 110 = .ok (.iand, 1) := by decide +kernel
theorem dX11_isRow_111 : decode cX11_isRow 111 = .ok (.istore_n 2, 1) := by decide +kernel
theorem dX11_isRow_112 : decode cX11_isRow 112 = .ok (.aload_n 0, 1) := by decide +kernel
theorem dX11_isRow_113 : decode cX11_isRow 113 = .ok (.getfield 32, 3) := by decide +kernel
theorem dX11_isRow_116 : decode cX11_isRow 116 = .ok (.aload_n 0, 1) := by decide +kernel
theorem dX11_isRow_117 : decode cX11_isRow 117 = .ok (.getfield 29, 3) := by decide +kernel
theorem dX11_isRow_120 : decode cX11_isRow 120 = .ok (.iload 5, 2) := by decide +kernel
theorem dX11_isRow_122 : decode cX11_isRow 122 = .ok (.iaload, 1) := by decide +kernel
theorem dX11_isRow_123 : decode cX11_isRow 123 = .ok (.aload_n 0, 1) := by decide +kernel
theorem dX11_isRow_124 : decode cX11_isRow 124 = .ok (.getfield 29, 3) := by decide +kernel
theorem dX11_isRow_127 : decode cX11_isRow 127 = .ok (.iload 8, 2) := by decide +kernel
theorem dX11_isRow_129 : decode cX11_isRow 129 = .ok (.iaload, 1) := by decide +kernel
theorem dX11_isRow_130 : decode cX11_isRow 130 = .ok (.iastore, 1) := by decide +kernel
theorem dX11_isRow_131 : decode cX11_isRow 131 = .ok (.aload_n 0, 1) := by decide +kernel
theorem dX11_isRow_132 : decode cX11_isRow 132 = .ok (.aload_n 0, 1) := by decide +kernel
theorem dX11_isRow_133 : decode cX11_isRow 133 = .ok (.getfield 29, 3) := by decide +kernel
theorem dX11_isRow_136 : decode cX11_isRow 136 = .ok (.iload 5, 2) := by decide +kernel
theorem dX11_isRow_138 : decode cX11_isRow 138 = .ok (.iaload, 1) := by decide +kernel
theorem dX11_isRow_139 : decode cX11_isRow 139 = .ok (.aload_n 0, 1) := by decide +kernel
theorem dX11_isRow_140 : decode cX11_isRow 140 = .ok (.getfield 29, 3) := by decide +kernel
theorem dX11_isRow_143 : decode cX11_isRow 143 = .ok (.iload 8, 2) := by decide +kernel
theorem dX11_isRow_145 : decode cX11_isRow 145 = .ok (.iaload, 1) := by decide +kernel
theorem dX11_isRow_146 : decode cX11_isRow 146 = .ok (.invokevirtual 156, 3) := by decide +kernel
theorem dX11_isRow_149 : decode cX11_isRow 149 = .ok (.istore 4, 2) := by decide +kernel
theorem dX11_isRow_151 : decode cX11_isRow 151 = .ok (.iinc 5 1, 3) := by decide +kernel
theorem dX11_isRow_154 : decode cX11_isRow 154 = .ok (.goto (-137), 3) := by decide +kernel
theorem dX11_isRow_157 : decode cX11_isRow 157 = .ok (.iload 4, 2) := by decide +kernel
theorem dX11_isRow_159 : decode cX11_isRow 159 = .ok (.ireturn, 1) := by decide +kernel
def j_X11_isRow_62_94 (M : gMem) (a2 : Int32) (a3 : Int32) (a5 : Int32) (a7 : Int32) (b8 : Int32) (t0 : Int32) (t1 : Int32) : Option ((Int32 × Int32) ⊕ (Int32 × Int32)) := some (.inl (b8 + 1, t1 + t0))
def j_X11_isRow_62_78 (M : gMem) (a2 : Int32) (a3 : Int32) (a5 : Int32) (a7 : Int32) (b8 : Int32) (b9 : Int32) : Option ((Int32 × Int32) ⊕ (Int32 × Int32)) := Option.bind (x_X11_has a2 b8) (fun v11 => (if v11 = 0 then j_X11_isRow_62_94 M a2 a3 a5 a7 b8 0 b9 else j_X11_isRow_62_94 M a2 a3 a5 a7 b8 1 b9))
def s_X11_isRow_62 (M : gMem) (a2 : Int32) (a3 : Int32) (a5 : Int32) (a7 : Int32) (b8 : Int32) (b9 : Int32) : Option ((Int32 × Int32) ⊕ (Int32 × Int32)) := Option.bind (x_X11_has a2 b8) (fun v7 => (if v7 = 0 then j_X11_isRow_62_78 M a2 a3 a5 a7 b8 b9 else (if a7 ≤ b9 then some (.inr (b8, b9)) else j_X11_isRow_62_78 M a2 a3 a5 a7 b8 b9)))
def s_X11_isRow_17 (b2 : Int32) (b3 : Int32) (b4 : Int32) (b5 : Int32) (N : gMem) : Option ((Int32 × Int32 × Int32 × Int32 × gMem) ⊕ (Int32 × Int32 × Int32 × Int32 × gMem)) := (if (N.1 0 59 16) ≤ b5 then some (.inr (b2, b3, b4, b5, N)) else (if b4 = 0 then some (.inr (b2, b3, b4, b5, N)) else Option.bind (x_X11_factorial (((N.1 0 59 16) - 1) - b5)) (fun v3 => gd (¬ v3 = 0) (gd (¬ v3 = 0) (Option.bind (itr FU (fun s => s_X11_isRow_62 N b2 (b3 - b3 / v3 * v3) b5 (b3 / v3) s.1 s.2) (0, 0)) (fun e16 => gd (gin b5 7) (gd (gin e16.1 7) (gd (gin (N.1 0 65 (b5).toNatClampNeg) 7) (gd (gin b5 7) (gd (gin e16.1 7) (Option.bind (x_X11_canServe (gwr N 0 66 (N.1 0 65 (b5).toNatClampNeg).toNatClampNeg (N.1 0 65 (e16.1).toNatClampNeg)) ((gwr N 0 66 (N.1 0 65 (b5).toNatClampNeg).toNatClampNeg (N.1 0 65 (e16.1).toNatClampNeg)).1 0 65 (b5).toNatClampNeg) ((gwr N 0 66 (N.1 0 65 (b5).toNatClampNeg).toNatClampNeg (N.1 0 65 (e16.1).toNatClampNeg)).1 0 65 (e16.1).toNatClampNeg)) (fun v22 => some (.inl (b2 &&& ((1 <<< (e16.1 &&& 31)) ^^^ (-1)), b3 - b3 / v3 * v3, v22, b5 + 1, gwr N 0 66 (N.1 0 65 (b5).toNatClampNeg).toNatClampNeg (N.1 0 65 (e16.1).toNatClampNeg)))))))))))))))
def x_X11_isRow (M : gMem) (p1 : Int32) : Option (Int32 × gMem) := Option.bind (itr FU (fun s => s_X11_isRow_17 s.1 s.2.1 s.2.2.1 s.2.2.2.1 s.2.2.2.2) ((1 <<< ((M.1 0 59 16) &&& 31)) - 1, p1, 1, 0, M)) (fun e25 => gd (e25.2.2.1 = 0 ∨ e25.2.2.1 = 1) (some (e25.2.2.1, e25.2.2.2.2)))
set_option maxRecDepth 100000 in
set_option maxHeartbeats 4000000 in
theorem w_X11_isRow_62 {X : gX} {Y : gY} {M : gMem} {a2 : Int32} {a3 : Int32} {a5 : Int32} {a7 : Int32} {r : (Int32 × gMem)} (hC : gC X Y cX11_isRow "GuestStaffModel" 10 2 43) (hF : gF X Y (some .boolean) (gQz Y r)) {e : (Int32 × Int32)} (kE : ∀ s : (Int32 × Int32), e = s → gWW X Y 10 103 [(0, .ref (gad Y 0 59)), (2, .int a2), (3, .int a3), (5, .int a5), (8, .int s.1)] [] M) : ∀ (F : Nat) (s : (Int32 × Int32)), itr F (fun s => s_X11_isRow_62 M a2 a3 a5 a7 s.1 s.2) s = some e → gWW X Y 10 62 [(0, .ref (gad Y 0 59)), (2, .int a2), (3, .int a3), (5, .int a5), (7, .int a7), (8, .int s.1), (9, .int s.2)] [] M := by
  intro F s
  refine itr_w (P := fun s => gWW X Y 10 62 [(0, .ref (gad Y 0 59)), (2, .int a2), (3, .int a3), (5, .int a5), (7, .int a7), (8, .int s.1), (9, .int s.2)] [] M) (fun s o hx kI kx => ?_) F s
  obtain ⟨b8, b9⟩ := s
  have hx : s_X11_isRow_62 M a2 a3 a5 a7 b8 b9 = some o := hx
  have kE : ∀ s : (Int32 × Int32), o = .inr s → gWW X Y 10 103 [(0, .ref (gad Y 0 59)), (2, .int a2), (3, .int a3), (5, .int a5), (8, .int s.1)] [] M := fun s q => kE s (kx _ q).symm
  have J94 : ∀ (b8 : Int32) (t0 : Int32) (t1 : Int32) , j_X11_isRow_62_94 M a2 a3 a5 a7 b8 t0 t1 = some o → gWW X Y 10 94 [(0, .ref (gad Y 0 59)), (2, .int a2), (3, .int a3), (5, .int a5), (7, .int a7), (8, .int b8)] [.int t0, .int t1] M := by
    intro b8 t0 t1 hx
    unfold j_X11_isRow_62_94 at hx
    refine q_iadd hC dX11_isRow_94 ?_
    refine q_istore hC [(9, .int (t1 + t0)), (0, .ref (gad Y 0 59)), (2, .int a2), (3, .int a3), (5, .int a5), (7, .int a7), (8, .int b8)] dX11_isRow_95 (by decide) rfl ?_
    refine q_iinc hC 6 1 [(8, .int (b8 + 1)), (9, .int (t1 + t0)), (0, .ref (gad Y 0 59)), (2, .int a2), (3, .int a3), (5, .int a5), (7, .int a7)] dX11_isRow_97 rfl rfl (by decide) rfl ?_
    refine q_goto hC 62 dX11_isRow_100 rfl ?_
    exact q_sub [2, 3, 4, 5, 6, 0, 1] rfl (kI (b8 + 1, t1 + t0) (Option.some.inj hx).symm)
  have J78 : ∀ (b8 : Int32) (b9 : Int32) , j_X11_isRow_62_78 M a2 a3 a5 a7 b8 b9 = some o → gWW X Y 10 78 [(0, .ref (gad Y 0 59)), (2, .int a2), (3, .int a3), (5, .int a5), (7, .int a7), (8, .int b8), (9, .int b9)] [] M := by
    intro b8 b9 hx
    unfold j_X11_isRow_62_78 at hx
    refine q_iload hC 6 dX11_isRow_78 rfl ?_
    refine q_iload_n hC 1 dX11_isRow_80 rfl rfl ?_
    refine q_iload hC 5 dX11_isRow_81 rfl ?_
    obtain ⟨v11, q12, hx⟩ := gb_e hx
    refine q_kzp (q_rS (As := [.int a2, .int b8]) (rest := [.int b9]) hC mm_X11_has wM_X11_153 (c_X11_has q12) ⟨rfl, rfl, Nat.le_of_ble_eq_true rfl, Nat.le_of_ble_eq_true rfl⟩ rfl rfl (Nat.le_of_ble_eq_true rfl) dX11_isRow_83) (fun z13 => ?_)
    refine q_if_eq hC 93 dX11_isRow_86 rfl (fun h14 => ?_) (fun h14 => ?_)
    · have hx := gi_p h14 hx
      refine q_iconst hC 0 dX11_isRow_93 rfl ?_
      exact q_sub [0, 1, 2, 3, 4, 5] rfl (J94 b8 0 b9 hx)
    · have hx := gi_n h14 hx
      refine q_iconst hC 1 dX11_isRow_89 rfl ?_
      refine q_goto hC 94 dX11_isRow_90 rfl ?_
      exact q_sub [0, 1, 2, 3, 4, 5] rfl (J94 b8 1 b9 hx)
  unfold s_X11_isRow_62 at hx
  refine q_iload_n hC 1 dX11_isRow_62 rfl rfl ?_
  refine q_iload hC 5 dX11_isRow_63 rfl ?_
  obtain ⟨v7, q8, hx⟩ := gb_e hx
  refine q_kzp (q_rS (As := [.int a2, .int b8]) (rest := []) hC mm_X11_has wM_X11_153 (c_X11_has q8) ⟨rfl, rfl, Nat.le_of_ble_eq_true rfl, Nat.le_of_ble_eq_true rfl⟩ rfl rfl (Nat.le_of_ble_eq_true rfl) dX11_isRow_65) (fun z9 => ?_)
  refine q_if_eq hC 78 dX11_isRow_68 rfl (fun h10 => ?_) (fun h10 => ?_)
  · have hx := gi_p h10 hx
    exact q_sub [0, 1, 2, 3, 4, 5, 6] rfl (J78 b8 b9 hx)
  · have hx := gi_n h10 hx
    refine q_iload hC 6 dX11_isRow_71 rfl ?_
    refine q_iload hC 4 dX11_isRow_73 rfl ?_
    refine q_ic_ge hC 103 dX11_isRow_75 rfl (fun h15 => ?_) (fun h15 => ?_)
    · have hx := gi_p h15 hx
      exact q_sub [0, 1, 2, 3, 5] rfl (kE (b8, b9) (Option.some.inj hx).symm)
    · have hx := gi_n h15 hx
      exact q_sub [0, 1, 2, 3, 4, 5, 6] rfl (J78 b8 b9 hx)
set_option maxRecDepth 100000 in
set_option maxHeartbeats 4000000 in
theorem w_X11_isRow_17 {X : gX} {Y : gY} {r : (Int32 × gMem)} (hC : gC X Y cX11_isRow "GuestStaffModel" 10 2 43) (hF : gF X Y (some .boolean) (gQz Y r)) {e : (Int32 × Int32 × Int32 × Int32 × gMem)} (kE : ∀ s : (Int32 × Int32 × Int32 × Int32 × gMem), e = s → gWW X Y 10 157 [(4, .int s.2.2.1)] [] s.2.2.2.2) : ∀ (F : Nat) (s : (Int32 × Int32 × Int32 × Int32 × gMem)), itr F (fun s => s_X11_isRow_17 s.1 s.2.1 s.2.2.1 s.2.2.2.1 s.2.2.2.2) s = some e → gWW X Y 10 17 [(0, .ref (gad Y 0 59)), (2, .int s.1), (3, .int s.2.1), (4, .int s.2.2.1), (5, .int s.2.2.2.1)] [] s.2.2.2.2 := by
  intro F s
  refine itr_w (P := fun s => gWW X Y 10 17 [(0, .ref (gad Y 0 59)), (2, .int s.1), (3, .int s.2.1), (4, .int s.2.2.1), (5, .int s.2.2.2.1)] [] s.2.2.2.2) (fun s o hx kI kx => ?_) F s
  obtain ⟨b2, b3, b4, b5, N⟩ := s
  have hx : s_X11_isRow_17 b2 b3 b4 b5 N = some o := hx
  have kE : ∀ s : (Int32 × Int32 × Int32 × Int32 × gMem), o = .inr s → gWW X Y 10 157 [(4, .int s.2.2.1)] [] s.2.2.2.2 := fun s q => kE s (kx _ q).symm
  unfold s_X11_isRow_17 at hx
  refine q_iload hC 4 dX11_isRow_17 rfl ?_
  refine q_aload_n hC 0 dX11_isRow_19 rfl rfl ?_
  refine gf_X11_183 hC dX11_isRow_20 ?_
  refine q_ic_ge hC 157 dX11_isRow_23 rfl (fun h1 => ?_) (fun h1 => ?_)
  · have hx := gi_p h1 hx
    exact q_sub [3] rfl (kE (b2, b3, b4, b5, N) (Option.some.inj hx).symm)
  · have hx := gi_n h1 hx
    refine q_iload hC 3 dX11_isRow_26 rfl ?_
    refine q_if_eq hC 157 dX11_isRow_28 rfl (fun h2 => ?_) (fun h2 => ?_)
    · have hx := gi_p h2 hx
      exact q_sub [3] rfl (kE (b2, b3, b4, b5, N) (Option.some.inj hx).symm)
    · have hx := gi_n h2 hx
      refine q_aload_n hC 0 dX11_isRow_31 rfl rfl ?_
      refine gf_X11_183 hC dX11_isRow_32 ?_
      refine q_iconst hC 1 dX11_isRow_35 rfl ?_
      refine q_isub hC dX11_isRow_36 ?_
      refine q_iload hC 4 dX11_isRow_37 rfl ?_
      refine q_isub hC dX11_isRow_39 ?_
      obtain ⟨v3, q4, hx⟩ := gb_e hx
      refine q_kip (q_rS (As := [.int (((N.1 0 59 16) - 1) - b5)]) (rest := []) hC mm_X11_factorial wM_X11_186 (c_X11_factorial q4) ⟨rfl, rfl, Nat.le_of_ble_eq_true rfl, Nat.le_of_ble_eq_true rfl⟩ rfl rfl (Nat.le_of_ble_eq_true rfl) dX11_isRow_40) ?_
      refine q_istore hC [(6, .int v3), (0, .ref (gad Y 0 59)), (2, .int b2), (3, .int b3), (4, .int b4), (5, .int b5)] dX11_isRow_43 (by decide) rfl ?_
      refine q_iload_n hC 3 dX11_isRow_45 rfl rfl ?_
      refine q_iload hC 0 dX11_isRow_46 rfl ?_
      have g5 := (gd_e hx).1
      have hx := (gd_e hx).2
      refine q_idiv hC dX11_isRow_48 g5 ?_
      refine q_istore hC [(7, .int (b3 / v3)), (6, .int v3), (0, .ref (gad Y 0 59)), (2, .int b2), (3, .int b3), (4, .int b4), (5, .int b5)] dX11_isRow_49 (by decide) rfl ?_
      refine q_iload_n hC 4 dX11_isRow_51 rfl rfl ?_
      refine q_iload hC 1 dX11_isRow_52 rfl ?_
      have g6 := (gd_e hx).1
      have hx := (gd_e hx).2
      refine q_irem hC dX11_isRow_54 g6 ?_
      refine q_istore_n hC [(3, .int (b3 - b3 / v3 * v3)), (7, .int (b3 / v3)), (6, .int v3), (0, .ref (gad Y 0 59)), (2, .int b2), (4, .int b4), (5, .int b5)] dX11_isRow_55 rfl (by decide) rfl ?_
      refine q_iconst hC 0 dX11_isRow_56 rfl ?_
      refine q_istore hC [(8, .int 0), (3, .int (b3 - b3 / v3 * v3)), (7, .int (b3 / v3)), (6, .int v3), (0, .ref (gad Y 0 59)), (2, .int b2), (4, .int b4), (5, .int b5)] dX11_isRow_57 (by decide) rfl ?_
      refine q_iconst hC 0 dX11_isRow_59 rfl ?_
      refine q_istore hC [(9, .int 0), (8, .int 0), (3, .int (b3 - b3 / v3 * v3)), (7, .int (b3 / v3)), (6, .int v3), (0, .ref (gad Y 0 59)), (2, .int b2), (4, .int b4), (5, .int b5)] dX11_isRow_60 (by decide) rfl ?_
      obtain ⟨e16, qe16, hx⟩ := gb_e hx
      refine q_sub [5, 6, 2, 8, 3, 1, 0] rfl (w_X11_isRow_62 hC hF (e := e16) (fun s q => ?_) _ _ qe16)
      · subst q
        refine q_iload_n hC 1 dX11_isRow_103 rfl rfl ?_
        refine q_iconst hC 1 dX11_isRow_104 rfl ?_
        refine q_iload hC 4 dX11_isRow_105 rfl ?_
        refine q_ishl hC dX11_isRow_107 ?_
        refine q_iconst hC (-1) dX11_isRow_108 rfl ?_
        refine q_ixor hC dX11_isRow_109 ?_
        refine q_iand hC dX11_isRow_110 ?_
        refine q_istore_n hC [(2, .int (b2 &&& ((1 <<< (e16.1 &&& 31)) ^^^ (-1)))), (0, .ref (gad Y 0 59)), (3, .int (b3 - b3 / v3 * v3)), (5, .int b5), (8, .int e16.1)] dX11_isRow_111 rfl (by decide) rfl ?_
        refine q_aload_n hC 1 dX11_isRow_112 rfl rfl ?_
        refine gf_X11_32 hC dX11_isRow_113 ?_
        refine q_aload_n hC 1 dX11_isRow_116 rfl rfl ?_
        refine gf_X11_29 hC dX11_isRow_117 ?_
        refine q_iload hC 3 dX11_isRow_120 rfl ?_
        have g17 := (gd_e hx).1
        have hx := (gd_e hx).2
        refine q_iald hC 6 (gV_t (by decide) (by decide)) rfl g17 dX11_isRow_122 ?_
        refine q_aload_n hC 1 dX11_isRow_123 rfl rfl ?_
        refine gf_X11_29 hC dX11_isRow_124 ?_
        refine q_iload hC 4 dX11_isRow_127 rfl ?_
        have g18 := (gd_e hx).1
        have hx := (gd_e hx).2
        refine q_iald hC 6 (gV_t (by decide) (by decide)) rfl g18 dX11_isRow_129 ?_
        have g19 := (gd_e hx).1
        have hx := (gd_e hx).2
        refine q_iast hC 6 (gV_t (by decide) (by decide)) rfl g19 dX11_isRow_130 ?_
        refine q_aload_n hC 1 dX11_isRow_131 rfl rfl ?_
        refine q_aload_n hC 1 dX11_isRow_132 rfl rfl ?_
        refine gf_X11_29 hC dX11_isRow_133 ?_
        refine q_iload hC 3 dX11_isRow_136 rfl ?_
        have g20 := (gd_e hx).1
        have hx := (gd_e hx).2
        refine q_iald hC 6 (gV_t (by decide) (by decide)) rfl g20 dX11_isRow_138 ?_
        refine q_aload_n hC 1 dX11_isRow_139 rfl rfl ?_
        refine gf_X11_29 hC dX11_isRow_140 ?_
        refine q_iload hC 4 dX11_isRow_143 rfl ?_
        have g21 := (gd_e hx).1
        have hx := (gd_e hx).2
        refine q_iald hC 6 (gV_t (by decide) (by decide)) rfl g21 dX11_isRow_145 ?_
        obtain ⟨v22, q23, hx⟩ := gb_e hx
        refine q_kzp (q_rV (As := [.int ((gwr N 0 66 (N.1 0 65 (b5).toNatClampNeg).toNatClampNeg (N.1 0 65 (e16.1).toNatClampNeg)).1 0 65 (b5).toNatClampNeg), .int ((gwr N 0 66 (N.1 0 65 (b5).toNatClampNeg).toNatClampNeg (N.1 0 65 (e16.1).toNatClampNeg)).1 0 65 (e16.1).toNatClampNeg)]) (rest := []) hC mm_X11_canServe wM_X11_156 (c_X11_canServe q23) ⟨rfl, rfl, Nat.le_of_ble_eq_true rfl, Nat.le_of_ble_eq_true rfl⟩ (gV_t (by decide) (by decide)) rfl rfl rfl rfl (Nat.le_of_ble_eq_true rfl) dX11_isRow_146) (fun z24 => ?_)
        refine q_istore hC [(4, .int v22), (2, .int (b2 &&& ((1 <<< (e16.1 &&& 31)) ^^^ (-1)))), (0, .ref (gad Y 0 59)), (3, .int (b3 - b3 / v3 * v3)), (5, .int b5), (8, .int e16.1)] dX11_isRow_149 (by decide) rfl ?_
        refine q_iinc hC 4 1 [(5, .int (b5 + 1)), (4, .int v22), (2, .int (b2 &&& ((1 <<< (e16.1 &&& 31)) ^^^ (-1)))), (0, .ref (gad Y 0 59)), (3, .int (b3 - b3 / v3 * v3)), (8, .int e16.1)] dX11_isRow_151 rfl rfl (by decide) rfl ?_
        refine q_goto hC 17 dX11_isRow_154 rfl ?_
        exact q_sub [3, 2, 4, 1, 0] rfl (kI (b2 &&& ((1 <<< (e16.1 &&& 31)) ^^^ (-1)), b3 - b3 / v3 * v3, v22, b5 + 1, gwr N 0 66 (N.1 0 65 (b5).toNatClampNeg).toNatClampNeg (N.1 0 65 (e16.1).toNatClampNeg)) (Option.some.inj hx).symm)
set_option maxRecDepth 100000 in
set_option maxHeartbeats 4000000 in
theorem c_X11_isRow {l : Launch} {Y : gY} {M : gMem} {p1 : Int32} {r : (Int32 × gMem)} (hx : x_X11_isRow M p1 = some r) : Met l yX11_isRow (gws yX11_isRow cX11_isRow 10 (some .boolean)) { frames := 2, cells := 0, slots := 0, locals := 43 } (va_Pc [.ref (gad Y 0 59), .int p1] (gS0 Y M)) (gQz Y r) 0 0 (gA Y) := by
  refine gmet (lv := [(0, .ref (gad Y 0 59)), (1, .int p1)]) "GuestStaffModel" (by decide) rfl (Nat.le_of_ble_eq_true rfl) rfl (fun X hC hF => ?_)
  unfold x_X11_isRow at hx
  refine q_iconst hC 1 dX11_isRow_0 rfl ?_
  refine q_aload_n hC 0 dX11_isRow_1 rfl rfl ?_
  refine gf_X11_183 hC dX11_isRow_2 ?_
  refine q_ishl hC dX11_isRow_5 ?_
  refine q_iconst hC 1 dX11_isRow_6 rfl ?_
  refine q_isub hC dX11_isRow_7 ?_
  refine q_istore_n hC [(2, .int ((1 <<< ((M.1 0 59 16) &&& 31)) - 1)), (0, .ref (gad Y 0 59)), (1, .int p1)] dX11_isRow_8 rfl (by decide) rfl ?_
  refine q_iload_n hC 2 dX11_isRow_9 rfl rfl ?_
  refine q_istore_n hC [(3, .int p1), (2, .int ((1 <<< ((M.1 0 59 16) &&& 31)) - 1)), (0, .ref (gad Y 0 59)), (1, .int p1)] dX11_isRow_10 rfl (by decide) rfl ?_
  refine q_iconst hC 1 dX11_isRow_11 rfl ?_
  refine q_istore hC [(4, .int 1), (3, .int p1), (2, .int ((1 <<< ((M.1 0 59 16) &&& 31)) - 1)), (0, .ref (gad Y 0 59)), (1, .int p1)] dX11_isRow_12 (by decide) rfl ?_
  refine q_iconst hC 0 dX11_isRow_14 rfl ?_
  refine q_istore hC [(5, .int 0), (4, .int 1), (3, .int p1), (2, .int ((1 <<< ((M.1 0 59 16) &&& 31)) - 1)), (0, .ref (gad Y 0 59)), (1, .int p1)] dX11_isRow_15 (by decide) rfl ?_
  obtain ⟨e25, qe25, hx⟩ := gb_e hx
  refine q_sub [4, 3, 2, 1, 0] rfl (w_X11_isRow_17 hC hF (e := e25) (fun s q => ?_) _ _ qe25)
  · subst q
    refine q_iload hC 0 dX11_isRow_157 rfl ?_
    have g26 := (gd_e hx).1
    have hx := (gd_e hx).2
    exact q_zret hC hF dX11_isRow_159 g26 (Option.some.inj hx)

theorem dX11_rowWork_0 : decode cX11_rowWork 0 = .ok (.iconst 0, 1) := by decide +kernel
theorem dX11_rowWork_1 : decode cX11_rowWork 1 = .ok (.istore_n 1, 1) := by decide +kernel
theorem dX11_rowWork_2 : decode cX11_rowWork 2 = .ok (.iconst 0, 1) := by decide +kernel
theorem dX11_rowWork_3 : decode cX11_rowWork 3 = .ok (.istore_n 2, 1) := by decide +kernel
theorem dX11_rowWork_4 : decode cX11_rowWork 4 = .ok (.iload_n 2, 1) := by decide +kernel
theorem dX11_rowWork_5 : decode cX11_rowWork 5 = .ok (.aload_n 0, 1) := by decide +kernel
theorem dX11_rowWork_6 : decode cX11_rowWork 6 = .ok (.getfield 183, 3) := by decide +kernel
theorem dX11_rowWork_9 : decode cX11_rowWork 9 = .ok (.if_icmp .ge 31, 3) := by decide +kernel
theorem dX11_rowWork_12 : decode cX11_rowWork 12 = .ok (.iload_n 1, 1) := by decide +kernel
theorem dX11_rowWork_13 : decode cX11_rowWork 13 = .ok (.aload_n 0, 1) := by decide +kernel
theorem dX11_rowWork_14 : decode cX11_rowWork 14 = .ok (.iload_n 2, 1) := by decide +kernel
theorem dX11_rowWork_15 : decode cX11_rowWork 15 = .ok (.aload_n 0, 1) := by decide +kernel
theorem dX11_rowWork_16 : decode cX11_rowWork 16 = .ok (.getfield 7, 3) := by decide +kernel
theorem dX11_rowWork_19 : decode cX11_rowWork 19 = .ok (.bipush 24, 2) := by decide +kernel
theorem dX11_rowWork_21 : decode cX11_rowWork 21 = .ok (.aload_n 0, 1) := by decide +kernel
theorem dX11_rowWork_22 : decode cX11_rowWork 22 = .ok (.getfield 32, 3) := by decide +kernel
theorem dX11_rowWork_25 : decode cX11_rowWork 25 = .ok (.iload_n 2, 1) := by decide +kernel
theorem dX11_rowWork_26 : decode cX11_rowWork 26 = .ok (.iaload, 1) := by decide +kernel
theorem dX11_rowWork_27 : decode cX11_rowWork 27 = .ok (.iadd, 1) := by decide +kernel
theorem dX11_rowWork_28 : decode cX11_rowWork 28 = .ok (.iaload, 1) := by decide +kernel
theorem dX11_rowWork_29 : decode cX11_rowWork 29 = .ok (.invokevirtual 180, 3) := by decide +kernel
theorem dX11_rowWork_32 : decode cX11_rowWork 32 = .ok (.iadd, 1) := by decide +kernel
theorem dX11_rowWork_33 : decode cX11_rowWork 33 = .ok (.istore_n 1, 1) := by decide +kernel
theorem dX11_rowWork_34 : decode cX11_rowWork 34 = .ok (.iinc 2 1, 3) := by decide +kernel
theorem dX11_rowWork_37 : decode cX11_rowWork 37 = .ok (.goto (-33), 3) := by decide +kernel
theorem dX11_rowWork_40 : decode cX11_rowWork 40 = .ok (.iload_n 1, 1) := by decide +kernel
theorem dX11_rowWork_41 : decode cX11_rowWork 41 = .ok (.ireturn, 1) := by decide +kernel
def s_X11_rowWork_4 (M : gMem) (b1 : Int32) (b2 : Int32) : Option ((Int32 × Int32) ⊕ (Int32 × Int32)) := (if (M.1 0 59 16) ≤ b2 then some (.inr (b1, b2)) else gd (gin b2 7) (gd (gin (24 + (M.1 0 66 (b2).toNatClampNeg)) 70) (Option.bind (x_X11_workBy M b2 (M.1 0 60 (24 + (M.1 0 66 (b2).toNatClampNeg)).toNatClampNeg)) (fun v4 => some (.inl (b1 + v4, b2 + 1))))))
def x_X11_rowWork (M : gMem) : Option Int32 := Option.bind (itr FU (fun s => s_X11_rowWork_4 M s.1 s.2) (0, 0)) (fun e6 => some e6.1)
set_option maxRecDepth 100000 in
set_option maxHeartbeats 4000000 in
theorem w_X11_rowWork_4 {X : gX} {Y : gY} {M : gMem} {r : Int32} (hC : gC X Y cX11_rowWork "GuestStaffModel" 3 1 24) (hF : gF X Y (some .int) (gQi Y (r, M))) {e : (Int32 × Int32)} (kE : ∀ s : (Int32 × Int32), e = s → gWW X Y 3 40 [(1, .int s.1)] [] M) : ∀ (F : Nat) (s : (Int32 × Int32)), itr F (fun s => s_X11_rowWork_4 M s.1 s.2) s = some e → gWW X Y 3 4 [(0, .ref (gad Y 0 59)), (1, .int s.1), (2, .int s.2)] [] M := by
  intro F s
  refine itr_w (P := fun s => gWW X Y 3 4 [(0, .ref (gad Y 0 59)), (1, .int s.1), (2, .int s.2)] [] M) (fun s o hx kI kx => ?_) F s
  obtain ⟨b1, b2⟩ := s
  have hx : s_X11_rowWork_4 M b1 b2 = some o := hx
  have kE : ∀ s : (Int32 × Int32), o = .inr s → gWW X Y 3 40 [(1, .int s.1)] [] M := fun s q => kE s (kx _ q).symm
  unfold s_X11_rowWork_4 at hx
  refine q_iload_n hC 2 dX11_rowWork_4 rfl rfl ?_
  refine q_aload_n hC 0 dX11_rowWork_5 rfl rfl ?_
  refine gf_X11_183 hC dX11_rowWork_6 ?_
  refine q_ic_ge hC 40 dX11_rowWork_9 rfl (fun h1 => ?_) (fun h1 => ?_)
  · have hx := gi_p h1 hx
    exact q_sub [1] rfl (kE (b1, b2) (Option.some.inj hx).symm)
  · have hx := gi_n h1 hx
    refine q_iload_n hC 1 dX11_rowWork_12 rfl rfl ?_
    refine q_aload_n hC 0 dX11_rowWork_13 rfl rfl ?_
    refine q_iload_n hC 2 dX11_rowWork_14 rfl rfl ?_
    refine q_aload_n hC 0 dX11_rowWork_15 rfl rfl ?_
    refine gf_X11_7 hC dX11_rowWork_16 ?_
    refine q_bipush hC 24 dX11_rowWork_19 rfl ?_
    refine q_aload_n hC 0 dX11_rowWork_21 rfl rfl ?_
    refine gf_X11_32 hC dX11_rowWork_22 ?_
    refine q_iload_n hC 2 dX11_rowWork_25 rfl rfl ?_
    have g2 := (gd_e hx).1
    have hx := (gd_e hx).2
    refine q_iald hC 6 (gV_t (by decide) (by decide)) rfl g2 dX11_rowWork_26 ?_
    refine q_iadd hC dX11_rowWork_27 ?_
    have g3 := (gd_e hx).1
    have hx := (gd_e hx).2
    refine q_iald hC 69 (gV_t (by decide) (by decide)) rfl g3 dX11_rowWork_28 ?_
    obtain ⟨v4, q5, hx⟩ := gb_e hx
    refine q_kip (q_rV (As := [.int b2, .int (M.1 0 60 (24 + (M.1 0 66 (b2).toNatClampNeg)).toNatClampNeg)]) (rest := [.int b1]) hC mm_X11_workBy wM_X11_180 (c_X11_workBy q5) ⟨rfl, rfl, Nat.le_of_ble_eq_true rfl, Nat.le_of_ble_eq_true rfl⟩ (gV_t (by decide) (by decide)) rfl rfl rfl rfl (Nat.le_of_ble_eq_true rfl) dX11_rowWork_29) ?_
    refine q_iadd hC dX11_rowWork_32 ?_
    refine q_istore_n hC [(1, .int (b1 + v4)), (0, .ref (gad Y 0 59)), (2, .int b2)] dX11_rowWork_33 rfl (by decide) rfl ?_
    refine q_iinc hC 2 1 [(2, .int (b2 + 1)), (1, .int (b1 + v4)), (0, .ref (gad Y 0 59))] dX11_rowWork_34 rfl rfl (by decide) rfl ?_
    refine q_goto hC 4 dX11_rowWork_37 rfl ?_
    exact q_sub [2, 1, 0] rfl (kI (b1 + v4, b2 + 1) (Option.some.inj hx).symm)
set_option maxRecDepth 100000 in
set_option maxHeartbeats 4000000 in
theorem c_X11_rowWork {l : Launch} {Y : gY} {M : gMem} {r : Int32} (hx : x_X11_rowWork M = some r) : Met l yX11_rowWork (gws yX11_rowWork cX11_rowWork 3 (some .int)) { frames := 1, cells := 0, slots := 0, locals := 24 } (va_Pc [.ref (gad Y 0 59)] (gS0 Y M)) (gQi Y (r, M)) 0 0 (gA Y) := by
  refine gmet (lv := [(0, .ref (gad Y 0 59))]) "GuestStaffModel" (by decide) rfl (Nat.le_of_ble_eq_true rfl) rfl (fun X hC hF => ?_)
  unfold x_X11_rowWork at hx
  refine q_iconst hC 0 dX11_rowWork_0 rfl ?_
  refine q_istore_n hC [(1, .int 0), (0, .ref (gad Y 0 59))] dX11_rowWork_1 rfl (by decide) rfl ?_
  refine q_iconst hC 0 dX11_rowWork_2 rfl ?_
  refine q_istore_n hC [(2, .int 0), (1, .int 0), (0, .ref (gad Y 0 59))] dX11_rowWork_3 rfl (by decide) rfl ?_
  obtain ⟨e6, qe6, hx⟩ := gb_e hx
  refine q_sub [2, 1, 0] rfl (w_X11_rowWork_4 hC hF (e := e6) (fun s q => ?_) _ _ qe6)
  · subst q
    refine q_iload_n hC 0 dX11_rowWork_40 rfl rfl ?_
    exact q_iret hC hF dX11_rowWork_41 (congrArg (fun z => (z, M)) (Option.some.inj hx))

theorem dX11_rowContent_0 : decode cX11_rowContent 0 = .ok (.iconst 0, 1) := by decide +kernel
theorem dX11_rowContent_1 : decode cX11_rowContent 1 = .ok (.istore_n 1, 1) := by decide +kernel
theorem dX11_rowContent_2 : decode cX11_rowContent 2 = .ok (.iconst 0, 1) := by decide +kernel
theorem dX11_rowContent_3 : decode cX11_rowContent 3 = .ok (.istore_n 2, 1) := by decide +kernel
theorem dX11_rowContent_4 : decode cX11_rowContent 4 = .ok (.iload_n 2, 1) := by decide +kernel
theorem dX11_rowContent_5 : decode cX11_rowContent 5 = .ok (.aload_n 0, 1) := by decide +kernel
theorem dX11_rowContent_6 : decode cX11_rowContent 6 = .ok (.getfield 183, 3) := by decide +kernel
theorem dX11_rowContent_9 : decode cX11_rowContent 9 = .ok (.if_icmp .ge 23, 3) := by decide +kernel
theorem dX11_rowContent_12 : decode cX11_rowContent 12 = .ok (.iload_n 1, 1) := by decide +kernel
theorem dX11_rowContent_13 : decode cX11_rowContent 13 = .ok (.aload_n 0, 1) := by decide +kernel
theorem dX11_rowContent_14 : decode cX11_rowContent 14 = .ok (.aload_n 0, 1) := by decide +kernel
theorem dX11_rowContent_15 : decode cX11_rowContent 15 = .ok (.getfield 32, 3) := by decide +kernel
theorem dX11_rowContent_18 : decode cX11_rowContent 18 = .ok (.iload_n 2, 1) := by decide +kernel
theorem dX11_rowContent_19 : decode cX11_rowContent 19 = .ok (.iaload, 1) := by decide +kernel
theorem dX11_rowContent_20 : decode cX11_rowContent 20 = .ok (.iload_n 2, 1) := by decide +kernel
theorem dX11_rowContent_21 : decode cX11_rowContent 21 = .ok (.invokevirtual 166, 3) := by decide +kernel
theorem dX11_rowContent_24 : decode cX11_rowContent 24 = .ok (.iadd, 1) := by decide +kernel
theorem dX11_rowContent_25 : decode cX11_rowContent 25 = .ok (.istore_n 1, 1) := by decide +kernel
theorem dX11_rowContent_26 : decode cX11_rowContent 26 = .ok (.iinc 2 1, 3) := by decide +kernel
theorem dX11_rowContent_29 : decode cX11_rowContent 29 = .ok (.goto (-25), 3) := by decide +kernel
theorem dX11_rowContent_32 : decode cX11_rowContent 32 = .ok (.iload_n 1, 1) := by decide +kernel
theorem dX11_rowContent_33 : decode cX11_rowContent 33 = .ok (.ireturn, 1) := by decide +kernel
def s_X11_rowContent_4 (M : gMem) (b1 : Int32) (b2 : Int32) : Option ((Int32 × Int32) ⊕ (Int32 × Int32)) := (if (M.1 0 59 16) ≤ b2 then some (.inr (b1, b2)) else gd (gin b2 7) (Option.bind (x_X11_contentOf M (M.1 0 66 (b2).toNatClampNeg) b2) (fun v3 => some (.inl (b1 + v3, b2 + 1)))))
def x_X11_rowContent (M : gMem) : Option Int32 := Option.bind (itr FU (fun s => s_X11_rowContent_4 M s.1 s.2) (0, 0)) (fun e5 => some e5.1)
set_option maxRecDepth 100000 in
set_option maxHeartbeats 4000000 in
theorem w_X11_rowContent_4 {X : gX} {Y : gY} {M : gMem} {r : Int32} (hC : gC X Y cX11_rowContent "GuestStaffModel" 3 2 44) (hF : gF X Y (some .int) (gQi Y (r, M))) {e : (Int32 × Int32)} (kE : ∀ s : (Int32 × Int32), e = s → gWW X Y 3 32 [(1, .int s.1)] [] M) : ∀ (F : Nat) (s : (Int32 × Int32)), itr F (fun s => s_X11_rowContent_4 M s.1 s.2) s = some e → gWW X Y 3 4 [(0, .ref (gad Y 0 59)), (1, .int s.1), (2, .int s.2)] [] M := by
  intro F s
  refine itr_w (P := fun s => gWW X Y 3 4 [(0, .ref (gad Y 0 59)), (1, .int s.1), (2, .int s.2)] [] M) (fun s o hx kI kx => ?_) F s
  obtain ⟨b1, b2⟩ := s
  have hx : s_X11_rowContent_4 M b1 b2 = some o := hx
  have kE : ∀ s : (Int32 × Int32), o = .inr s → gWW X Y 3 32 [(1, .int s.1)] [] M := fun s q => kE s (kx _ q).symm
  unfold s_X11_rowContent_4 at hx
  refine q_iload_n hC 2 dX11_rowContent_4 rfl rfl ?_
  refine q_aload_n hC 0 dX11_rowContent_5 rfl rfl ?_
  refine gf_X11_183 hC dX11_rowContent_6 ?_
  refine q_ic_ge hC 32 dX11_rowContent_9 rfl (fun h1 => ?_) (fun h1 => ?_)
  · have hx := gi_p h1 hx
    exact q_sub [1] rfl (kE (b1, b2) (Option.some.inj hx).symm)
  · have hx := gi_n h1 hx
    refine q_iload_n hC 1 dX11_rowContent_12 rfl rfl ?_
    refine q_aload_n hC 0 dX11_rowContent_13 rfl rfl ?_
    refine q_aload_n hC 0 dX11_rowContent_14 rfl rfl ?_
    refine gf_X11_32 hC dX11_rowContent_15 ?_
    refine q_iload_n hC 2 dX11_rowContent_18 rfl rfl ?_
    have g2 := (gd_e hx).1
    have hx := (gd_e hx).2
    refine q_iald hC 6 (gV_t (by decide) (by decide)) rfl g2 dX11_rowContent_19 ?_
    refine q_iload_n hC 2 dX11_rowContent_20 rfl rfl ?_
    obtain ⟨v3, q4, hx⟩ := gb_e hx
    refine q_kip (q_rV (As := [.int (M.1 0 66 (b2).toNatClampNeg), .int b2]) (rest := [.int b1]) hC mm_X11_contentOf wM_X11_166 (c_X11_contentOf q4) ⟨rfl, rfl, Nat.le_of_ble_eq_true rfl, Nat.le_of_ble_eq_true rfl⟩ (gV_t (by decide) (by decide)) rfl rfl rfl rfl (Nat.le_of_ble_eq_true rfl) dX11_rowContent_21) ?_
    refine q_iadd hC dX11_rowContent_24 ?_
    refine q_istore_n hC [(1, .int (b1 + v3)), (0, .ref (gad Y 0 59)), (2, .int b2)] dX11_rowContent_25 rfl (by decide) rfl ?_
    refine q_iinc hC 2 1 [(2, .int (b2 + 1)), (1, .int (b1 + v3)), (0, .ref (gad Y 0 59))] dX11_rowContent_26 rfl rfl (by decide) rfl ?_
    refine q_goto hC 4 dX11_rowContent_29 rfl ?_
    exact q_sub [2, 1, 0] rfl (kI (b1 + v3, b2 + 1) (Option.some.inj hx).symm)
set_option maxRecDepth 100000 in
set_option maxHeartbeats 4000000 in
theorem c_X11_rowContent {l : Launch} {Y : gY} {M : gMem} {r : Int32} (hx : x_X11_rowContent M = some r) : Met l yX11_rowContent (gws yX11_rowContent cX11_rowContent 3 (some .int)) { frames := 2, cells := 0, slots := 0, locals := 44 } (va_Pc [.ref (gad Y 0 59)] (gS0 Y M)) (gQi Y (r, M)) 0 0 (gA Y) := by
  refine gmet (lv := [(0, .ref (gad Y 0 59))]) "GuestStaffModel" (by decide) rfl (Nat.le_of_ble_eq_true rfl) rfl (fun X hC hF => ?_)
  unfold x_X11_rowContent at hx
  refine q_iconst hC 0 dX11_rowContent_0 rfl ?_
  refine q_istore_n hC [(1, .int 0), (0, .ref (gad Y 0 59))] dX11_rowContent_1 rfl (by decide) rfl ?_
  refine q_iconst hC 0 dX11_rowContent_2 rfl ?_
  refine q_istore_n hC [(2, .int 0), (1, .int 0), (0, .ref (gad Y 0 59))] dX11_rowContent_3 rfl (by decide) rfl ?_
  obtain ⟨e5, qe5, hx⟩ := gb_e hx
  refine q_sub [2, 1, 0] rfl (w_X11_rowContent_4 hC hF (e := e5) (fun s q => ?_) _ _ qe5)
  · subst q
    refine q_iload_n hC 0 dX11_rowContent_32 rfl rfl ?_
    exact q_iret hC hF dX11_rowContent_33 (congrArg (fun z => (z, M)) (Option.some.inj hx))

theorem dX11_findRows_0 : decode cX11_findRows 0 = .ok (.aload_n 0, 1) := by decide +kernel
theorem dX11_findRows_1 : decode cX11_findRows 1 = .ok (.aload_n 0, 1) := by decide +kernel
theorem dX11_findRows_2 : decode cX11_findRows 2 = .ok (.invokevirtual 189, 3) := by decide +kernel
theorem dX11_findRows_5 : decode cX11_findRows 5 = .ok (.invokevirtual 192, 3) := by decide +kernel
theorem dX11_findRows_8 : decode cX11_findRows 8 = .ok (.aload_n 0, 1) := by decide +kernel
theorem dX11_findRows_9 : decode cX11_findRows 9 = .ok (.iconst 0, 1) := by decide +kernel
theorem dX11_findRows_10 : decode cX11_findRows 10 = .ok (.putfield 196, 3) := by decide +kernel
theorem dX11_findRows_13 : decode cX11_findRows 13 = .ok (.aload_n 0, 1) := by decide +kernel
theorem dX11_findRows_14 : decode cX11_findRows 14 = .ok (.iconst (-1), 1) := by decide +kernel
theorem dX11_findRows_15 : decode cX11_findRows 15 = .ok (.putfield 199, 3) := by decide +kernel
theorem dX11_findRows_18 : decode cX11_findRows 18 = .ok (.aload_n 0, 1) := by decide +kernel
theorem dX11_findRows_19 : decode cX11_findRows 19 = .ok (.iconst (-1), 1) := by decide +kernel
theorem dX11_findRows_20 : decode cX11_findRows 20 = .ok (.putfield 202, 3) := by decide +kernel
theorem dX11_findRows_23 : decode cX11_findRows 23 = .ok (.aload_n 0, 1) := by decide +kernel
theorem dX11_findRows_24 : decode cX11_findRows 24 = .ok (.getfield 183, 3) := by decide +kernel
theorem dX11_findRows_27 : decode cX11_findRows 27 = .ok (.invokestatic 186, 3) := by decide +kernel
theorem dX11_findRows_30 : decode cX11_findRows 30 = .ok (.istore_n 1, 1) := by decide +kernel
theorem dX11_findRows_31 : decode cX11_findRows 31 = .ok (.iconst 0, 1) := by decide +kernel
theorem dX11_findRows_32 : decode cX11_findRows 32 = .ok (.istore_n 2, 1) := by decide +kernel
theorem dX11_findRows_33 : decode cX11_findRows 33 = .ok (.iload_n 2, 1) := by decide +kernel
theorem dX11_findRows_34 : decode cX11_findRows 34 = .ok (.iload_n 1, 1) := by decide +kernel
theorem dX11_findRows_35 : decode cX11_findRows 35 = .ok (.if_icmp .ge 169, 3) := by decide +kernel
theorem dX11_findRows_38 : decode cX11_findRows 38 = .ok (.aload_n 0, 1) := by decide +kernel
theorem dX11_findRows_39 : decode cX11_findRows 39 = .ok (.iload_n 2, 1) := by decide +kernel
theorem dX11_findRows_40 : decode cX11_findRows 40 = .ok (.invokevirtual 205, 3) := by decide +kernel
theorem dX11_findRows_43 : decode cX11_findRows 43 = .ok (.ifCond .eq 155, 3) := by decide +kernel
theorem dX11_findRows_46 : decode cX11_findRows 46 = .ok (.aload_n 0, 1) := by decide +kernel
theorem dX11_findRows_47 : decode cX11_findRows 47 = .ok (.invokevirtual 208, 3) := by decide +kernel
theorem dX11_findRows_50 : decode cX11_findRows 50 = .ok (.istore_n 3, 1) := by decide +kernel
theorem dX11_findRows_51 : decode cX11_findRows 51 = .ok (.aload_n 0, 1) := by decide +kernel
theorem dX11_findRows_52 : decode cX11_findRows 52 = .ok (.invokevirtual 211, 3) := by decide +kernel
theorem dX11_findRows_55 : decode cX11_findRows 55 = .ok (.istore 4, 2) := by decide +kernel
theorem dX11_findRows_57 : decode cX11_findRows 57 = .ok (.iconst 0, 1) := by decide +kernel
theorem dX11_findRows_58 : decode cX11_findRows 58 = .ok (.istore 5, 2) := by decide +kernel
theorem dX11_findRows_60 : decode cX11_findRows 60 = .ok (.iload 5, 2) := by decide +kernel
theorem dX11_findRows_62 : decode cX11_findRows 62 = .ok (.aload_n 0, 1) := by decide +kernel
theorem dX11_findRows_63 : decode cX11_findRows 63 = .ok (.getfield 183, 3) := by decide +kernel
theorem dX11_findRows_66 : decode cX11_findRows 66 = .ok (.if_icmp .ge 73, 3) := by decide +kernel
theorem dX11_findRows_69 : decode cX11_findRows 69 = .ok (.aload_n 0, 1) := by decide +kernel
theorem dX11_findRows_70 : decode cX11_findRows 70 = .ok (.getfield 35, 3) := by decide +kernel
theorem dX11_findRows_73 : decode cX11_findRows 73 = .ok (.iload 5, 2) := by decide +kernel
theorem dX11_findRows_75 : decode cX11_findRows 75 = .ok (.aload_n 0, 1) := by decide +kernel
theorem dX11_findRows_76 : decode cX11_findRows 76 = .ok (.getfield 196, 3) := by decide +kernel
theorem dX11_findRows_79 : decode cX11_findRows 79 = .ok (.ifCond .ne 13, 3) := by decide +kernel
theorem dX11_findRows_82 : decode cX11_findRows 82 = .ok (.aload_n 0, 1) := by decide +kernel
theorem dX11_findRows_83 : decode cX11_findRows 83 = .ok (.getfield 32, 3) := by decide +kernel
theorem dX11_findRows_86 : decode cX11_findRows 86 = .ok (.iload 5, 2) := by decide +kernel
theorem dX11_findRows_88 : decode cX11_findRows 88 = .ok (.iaload, 1) := by decide +kernel
theorem dX11_findRows_89 : decode cX11_findRows 89 = .ok (.goto 10, 3) := by decide +kernel
theorem dX11_findRows_92 : decode cX11_findRows 92 = .ok (.aload_n 0, 1) := by decide +kernel
theorem dX11_findRows_93 : decode cX11_findRows 93 = .ok (.getfield 35, 3) := by decide +kernel
theorem dX11_findRows_96 : decode cX11_findRows 96 = .ok (.iload 5, 2) := by decide +kernel
theorem dX11_findRows_98 : decode cX11_findRows 98 = .ok (.iaload, 1) := by decide +kernel
theorem dX11_findRows_99 : decode cX11_findRows 99 = .ok (.iastore, 1) := by decide +kernel
theorem dX11_findRows_100 : decode cX11_findRows 100 = .ok (.aload_n 0, 1) := by decide +kernel
theorem dX11_findRows_101 : decode cX11_findRows 101 = .ok (.getfield 38, 3) := by decide +kernel
theorem dX11_findRows_104 : decode cX11_findRows 104 = .ok (.iload 5, 2) := by decide +kernel
theorem dX11_findRows_106 : decode cX11_findRows 106 = .ok (.iload 4, 2) := by decide +kernel
theorem dX11_findRows_108 : decode cX11_findRows 108 = .ok (.aload_n 0, 1) := by decide +kernel
theorem dX11_findRows_109 : decode cX11_findRows 109 = .ok (.getfield 202, 3) := by decide +kernel
theorem dX11_findRows_112 : decode cX11_findRows 112 = .ok (.if_icmp .le 13, 3) := by decide +kernel
theorem dX11_findRows_115 : decode cX11_findRows 115 = .ok (.aload_n 0, 1) := by decide +kernel
theorem dX11_findRows_116 : decode cX11_findRows 116 = .ok (.getfield 32, 3) := by decide +kernel
theorem dX11_findRows_119 : decode cX11_findRows 119 = .ok (.iload 5, 2) := by decide +kernel
theorem dX11_findRows_121 : decode cX11_findRows 121 = .ok (.iaload, 1) := by decide +kernel
theorem dX11_findRows_122 : decode cX11_findRows 122 = .ok (.goto 10, 3) := by decide +kernel
theorem dX11_findRows_125 : decode cX11_findRows 125 = .ok (.aload_n 0, 1) := by decide +kernel
theorem dX11_findRows_126 : decode cX11_findRows 126 = .ok (.getfield 38, 3) := by decide +kernel
theorem dX11_findRows_129 : decode cX11_findRows 129 = .ok (.iload 5, 2) := by decide +kernel
theorem dX11_findRows_131 : decode cX11_findRows 131 = .ok (.iaload, 1) := by decide +kernel
theorem dX11_findRows_132 : decode cX11_findRows 132 = .ok (.iastore, 1) := by decide +kernel
theorem dX11_findRows_133 : decode cX11_findRows 133 = .ok (.iinc 5 1, 3) := by decide +kernel
theorem dX11_findRows_136 : decode cX11_findRows 136 = .ok (.goto (-76), 3) := by decide +kernel
theorem dX11_findRows_139 : decode cX11_findRows 139 = .ok (.aload_n 0, 1) := by decide +kernel
theorem dX11_findRows_140 : decode cX11_findRows 140 = .ok (.aload_n 0, 1) := by decide +kernel
theorem dX11_findRows_141 : decode cX11_findRows 141 = .ok (.getfield 199, 3) := by decide +kernel
theorem dX11_findRows_144 : decode cX11_findRows 144 = .ok (.ifCond .lt 11, 3) := by decide +kernel
theorem dX11_findRows_147 : decode cX11_findRows 147 = .ok (.iload_n 3, 1) := by decide +kernel
theorem dX11_findRows_148 : decode cX11_findRows 148 = .ok (.aload_n 0, 1) := by decide +kernel
theorem dX11_findRows_149 : decode cX11_findRows 149 = .ok (.getfield 199, 3) := by decide +kernel
theorem dX11_findRows_152 : decode cX11_findRows 152 = .ok (.if_icmp .ge 7, 3) := by decide +kernel
theorem dX11_findRows_155 : decode cX11_findRows 155 = .ok (.iload_n 3, 1) := by decide +kernel
theorem dX11_findRows_156 : decode cX11_findRows 156 = .ok (.goto 7, 3) := by decide +kernel
theorem dX11_findRows_159 : decode cX11_findRows 159 = .ok (.aload_n 0, 1) := by decide +kernel
theorem dX11_findRows_160 : decode cX11_findRows 160 = .ok (.getfield 199, 3) := by decide +kernel
theorem dX11_findRows_163 : decode cX11_findRows 163 = .ok (.putfield 199, 3) := by decide +kernel
theorem dX11_findRows_166 : decode cX11_findRows 166 = .ok (.aload_n 0, 1) := by decide +kernel
theorem dX11_findRows_167 : decode cX11_findRows 167 = .ok (.iload 4, 2) := by decide +kernel
theorem dX11_findRows_169 : decode cX11_findRows 169 = .ok (.aload_n 0, 1) := by decide +kernel
theorem dX11_findRows_170 : decode cX11_findRows 170 = .ok (.getfield 202, 3) := by decide +kernel
theorem dX11_findRows_173 : decode cX11_findRows 173 = .ok (.if_icmp .le 8, 3) := by decide +kernel
theorem dX11_findRows_176 : decode cX11_findRows 176 = .ok (.iload 4, 2) := by decide +kernel
theorem dX11_findRows_178 : decode cX11_findRows 178 = .ok (.goto 7, 3) := by decide +kernel
theorem dX11_findRows_181 : decode cX11_findRows 181 = .ok (.aload_n 0, 1) := by decide +kernel
theorem dX11_findRows_182 : decode cX11_findRows 182 = .ok (.getfield 202, 3) := by decide +kernel
theorem dX11_findRows_185 : decode cX11_findRows 185 = .ok (.putfield 202, 3) := by decide +kernel
theorem dX11_findRows_188 : decode cX11_findRows 188 = .ok (.aload_n 0, 1) := by decide +kernel
theorem dX11_findRows_189 : decode cX11_findRows 189 = .ok (.dup, 1) := by decide +kernel
theorem dX11_findRows_190 : decode cX11_findRows 190 = .ok (.getfield 196, 3) := by decide +kernel
theorem dX11_findRows_193 : decode cX11_findRows 193 = .ok (.iconst 1, 1) := by decide +kernel
theorem dX11_findRows_194 : decode cX11_findRows 194 = .ok (.iadd, 1) := by decide +kernel
theorem dX11_findRows_195 : decode cX11_findRows 195 = .ok (.putfield 196, 3) := by decide +kernel
theorem dX11_findRows_198 : decode cX11_findRows 198 = .ok (.iinc 2 1, 3) := by decide +kernel
theorem dX11_findRows_201 : decode cX11_findRows 201 = .ok (.goto (-168), 3) := by decide +kernel
theorem dX11_findRows_204 : decode cX11_findRows 204 = .ok (.return_, 1) := by decide +kernel
def j_X11_findRows_33_198 (a1 : Int32) (N : gMem) (b2 : Int32) : Option ((Int32 × gMem) ⊕ (Int32 × gMem)) := some (.inl (b2 + 1, N))
def j_X11_findRows_60_132 (a1 : Int32) (a2 : Int32) (a3 : Int32) (a4 : Int32) (N : gMem) (b5 : Int32) (t0 : Int32) (t1 : Int32) : Option ((Int32 × gMem) ⊕ (Int32 × gMem)) := gd (gin t1 7) (some (.inl (b5 + 1, gwr N 0 68 (t1).toNatClampNeg t0)))
def j_X11_findRows_60_99 (a1 : Int32) (a2 : Int32) (a3 : Int32) (a4 : Int32) (N : gMem) (b5 : Int32) (t0 : Int32) (t1 : Int32) : Option ((Int32 × gMem) ⊕ (Int32 × gMem)) := gd (gin t1 7) ((if a4 ≤ ((gwr N 0 67 (t1).toNatClampNeg t0).1 0 59 21) then gd (gin b5 7) (j_X11_findRows_60_132 a1 a2 a3 a4 (gwr N 0 67 (t1).toNatClampNeg t0) b5 ((gwr N 0 67 (t1).toNatClampNeg t0).1 0 68 (b5).toNatClampNeg) b5) else gd (gin b5 7) (j_X11_findRows_60_132 a1 a2 a3 a4 (gwr N 0 67 (t1).toNatClampNeg t0) b5 ((gwr N 0 67 (t1).toNatClampNeg t0).1 0 66 (b5).toNatClampNeg) b5)))
def s_X11_findRows_60 (a1 : Int32) (a2 : Int32) (a3 : Int32) (a4 : Int32) (b5 : Int32) (N : gMem) : Option ((Int32 × gMem) ⊕ (Int32 × gMem)) := (if (N.1 0 59 16) ≤ b5 then some (.inr (b5, N)) else (if (N.1 0 59 19) = 0 then gd (gin b5 7) (j_X11_findRows_60_99 a1 a2 a3 a4 N b5 (N.1 0 66 (b5).toNatClampNeg) b5) else gd (gin b5 7) (j_X11_findRows_60_99 a1 a2 a3 a4 N b5 (N.1 0 67 (b5).toNatClampNeg) b5)))
def j_X11_findRows_33_185 (a1 : Int32) (N : gMem) (b2 : Int32) (t0 : Int32) : Option ((Int32 × gMem) ⊕ (Int32 × gMem)) := j_X11_findRows_33_198 a1 (gwr (gwr N 0 59 21 t0) 0 59 19 (((gwr N 0 59 21 t0).1 0 59 19) + 1)) b2
def j_X11_findRows_33_163 (a1 : Int32) (N : gMem) (b2 : Int32) (b4 : Int32) (t0 : Int32) : Option ((Int32 × gMem) ⊕ (Int32 × gMem)) := (if b4 ≤ ((gwr N 0 59 20 t0).1 0 59 21) then j_X11_findRows_33_185 a1 (gwr N 0 59 20 t0) b2 ((gwr N 0 59 20 t0).1 0 59 21) else j_X11_findRows_33_185 a1 (gwr N 0 59 20 t0) b2 b4)
def j_X11_findRows_33_155 (a1 : Int32) (N : gMem) (b2 : Int32) (b3 : Int32) (b4 : Int32) : Option ((Int32 × gMem) ⊕ (Int32 × gMem)) := j_X11_findRows_33_163 a1 N b2 b4 b3
def s_X11_findRows_33 (a1 : Int32) (b2 : Int32) (N : gMem) : Option ((Int32 × gMem) ⊕ (Int32 × gMem)) := (if a1 ≤ b2 then some (.inr (b2, N)) else Option.bind (x_X11_isRow N b2) (fun v8 => (if v8.1 = 0 then j_X11_findRows_33_198 a1 v8.2 b2 else Option.bind (x_X11_rowWork v8.2) (fun v12 => Option.bind (x_X11_rowContent v8.2) (fun v14 => Option.bind (itr FU (fun s => s_X11_findRows_60 a1 b2 v12 v14 s.1 s.2) (0, v8.2)) (fun e25 => (if (e25.2.1 0 59 20) < 0 then j_X11_findRows_33_155 a1 e25.2 b2 v12 v14 else (if (e25.2.1 0 59 20) ≤ v12 then j_X11_findRows_33_163 a1 e25.2 b2 v14 (e25.2.1 0 59 20) else j_X11_findRows_33_155 a1 e25.2 b2 v12 v14))))))))
def x_X11_findRows (M : gMem) : Option gMem := Option.bind (x_X11_everybody M) (fun v1 => Option.bind (x_X11_takeSet M v1) (fun v3 => Option.bind (x_X11_factorial ((gwr (gwr (gwr v3 0 59 19 0) 0 59 20 (-1)) 0 59 21 (-1)).1 0 59 16)) (fun v5 => Option.bind (itr FU (fun s => s_X11_findRows_33 v5 s.1 s.2) (0, gwr (gwr (gwr v3 0 59 19 0) 0 59 20 (-1)) 0 59 21 (-1))) (fun e29 => some e29.2))))
set_option maxRecDepth 100000 in
set_option maxHeartbeats 4000000 in
theorem w_X11_findRows_60 {X : gX} {Y : gY} {a1 : Int32} {a2 : Int32} {a3 : Int32} {a4 : Int32} {r : gMem} (hC : gC X Y cX11_findRows "GuestStaffModel" 6 3 72) (hF : gF X Y none (gQv Y r)) {e : (Int32 × gMem)} (kE : ∀ s : (Int32 × gMem), e = s → gWW X Y 6 139 [(0, .ref (gad Y 0 59)), (1, .int a1), (2, .int a2), (3, .int a3), (4, .int a4)] [] s.2) : ∀ (F : Nat) (s : (Int32 × gMem)), itr F (fun s => s_X11_findRows_60 a1 a2 a3 a4 s.1 s.2) s = some e → gWW X Y 6 60 [(0, .ref (gad Y 0 59)), (1, .int a1), (2, .int a2), (3, .int a3), (4, .int a4), (5, .int s.1)] [] s.2 := by
  intro F s
  refine itr_w (P := fun s => gWW X Y 6 60 [(0, .ref (gad Y 0 59)), (1, .int a1), (2, .int a2), (3, .int a3), (4, .int a4), (5, .int s.1)] [] s.2) (fun s o hx kI kx => ?_) F s
  obtain ⟨b5, N⟩ := s
  have hx : s_X11_findRows_60 a1 a2 a3 a4 b5 N = some o := hx
  have kE : ∀ s : (Int32 × gMem), o = .inr s → gWW X Y 6 139 [(0, .ref (gad Y 0 59)), (1, .int a1), (2, .int a2), (3, .int a3), (4, .int a4)] [] s.2 := fun s q => kE s (kx _ q).symm
  have J132 : ∀ (N : gMem) (b5 : Int32) (t0 : Int32) (t1 : Int32) , j_X11_findRows_60_132 a1 a2 a3 a4 N b5 t0 t1 = some o → gWW X Y 6 132 [(0, .ref (gad Y 0 59)), (1, .int a1), (2, .int a2), (3, .int a3), (4, .int a4), (5, .int b5)] [.int t0, .int t1, .ref (gad Y 0 68)] N := by
    intro N b5 t0 t1 hx
    unfold j_X11_findRows_60_132 at hx
    have g22 := (gd_e hx).1
    have hx := (gd_e hx).2
    refine q_iast hC 6 (gV_t (by decide) (by decide)) rfl g22 dX11_findRows_132 ?_
    refine q_iinc hC 5 1 [(5, .int (b5 + 1)), (0, .ref (gad Y 0 59)), (1, .int a1), (2, .int a2), (3, .int a3), (4, .int a4)] dX11_findRows_133 rfl rfl (by decide) rfl ?_
    refine q_goto hC 60 dX11_findRows_136 rfl ?_
    exact q_sub [1, 2, 3, 4, 5, 0] rfl (kI (b5 + 1, gwr N 0 68 (t1).toNatClampNeg t0) (Option.some.inj hx).symm)
  have J99 : ∀ (N : gMem) (b5 : Int32) (t0 : Int32) (t1 : Int32) , j_X11_findRows_60_99 a1 a2 a3 a4 N b5 t0 t1 = some o → gWW X Y 6 99 [(0, .ref (gad Y 0 59)), (1, .int a1), (2, .int a2), (3, .int a3), (4, .int a4), (5, .int b5)] [.int t0, .int t1, .ref (gad Y 0 67)] N := by
    intro N b5 t0 t1 hx
    unfold j_X11_findRows_60_99 at hx
    have g19 := (gd_e hx).1
    have hx := (gd_e hx).2
    refine q_iast hC 6 (gV_t (by decide) (by decide)) rfl g19 dX11_findRows_99 ?_
    refine q_aload_n hC 0 dX11_findRows_100 rfl rfl ?_
    refine gf_X11_38 hC dX11_findRows_101 ?_
    refine q_iload hC 5 dX11_findRows_104 rfl ?_
    refine q_iload hC 4 dX11_findRows_106 rfl ?_
    refine q_aload_n hC 0 dX11_findRows_108 rfl rfl ?_
    refine gf_X11_202 hC dX11_findRows_109 ?_
    refine q_ic_le hC 125 dX11_findRows_112 rfl (fun h20 => ?_) (fun h20 => ?_)
    · have hx := gi_p h20 hx
      refine q_aload_n hC 0 dX11_findRows_125 rfl rfl ?_
      refine gf_X11_38 hC dX11_findRows_126 ?_
      refine q_iload hC 5 dX11_findRows_129 rfl ?_
      have g21 := (gd_e hx).1
      have hx := (gd_e hx).2
      refine q_iald hC 6 (gV_t (by decide) (by decide)) rfl g21 dX11_findRows_131 ?_
      exact q_sub [0, 1, 2, 3, 4, 5] rfl (J132 (gwr N 0 67 (t1).toNatClampNeg t0) b5 ((gwr N 0 67 (t1).toNatClampNeg t0).1 0 68 (b5).toNatClampNeg) b5 hx)
    · have hx := gi_n h20 hx
      refine q_aload_n hC 0 dX11_findRows_115 rfl rfl ?_
      refine gf_X11_32 hC dX11_findRows_116 ?_
      refine q_iload hC 5 dX11_findRows_119 rfl ?_
      have g23 := (gd_e hx).1
      have hx := (gd_e hx).2
      refine q_iald hC 6 (gV_t (by decide) (by decide)) rfl g23 dX11_findRows_121 ?_
      refine q_goto hC 132 dX11_findRows_122 rfl ?_
      exact q_sub [0, 1, 2, 3, 4, 5] rfl (J132 (gwr N 0 67 (t1).toNatClampNeg t0) b5 ((gwr N 0 67 (t1).toNatClampNeg t0).1 0 66 (b5).toNatClampNeg) b5 hx)
  unfold s_X11_findRows_60 at hx
  refine q_iload hC 5 dX11_findRows_60 rfl ?_
  refine q_aload_n hC 0 dX11_findRows_62 rfl rfl ?_
  refine gf_X11_183 hC dX11_findRows_63 ?_
  refine q_ic_ge hC 139 dX11_findRows_66 rfl (fun h16 => ?_) (fun h16 => ?_)
  · have hx := gi_p h16 hx
    exact q_sub [0, 1, 2, 3, 4] rfl (kE (b5, N) (Option.some.inj hx).symm)
  · have hx := gi_n h16 hx
    refine q_aload_n hC 0 dX11_findRows_69 rfl rfl ?_
    refine gf_X11_35 hC dX11_findRows_70 ?_
    refine q_iload hC 5 dX11_findRows_73 rfl ?_
    refine q_aload_n hC 0 dX11_findRows_75 rfl rfl ?_
    refine gf_X11_196 hC dX11_findRows_76 ?_
    refine q_if_ne hC 92 dX11_findRows_79 rfl (fun h17 => ?_) (fun h17 => ?_)
    · have hx := gi_n h17 hx
      refine q_aload_n hC 0 dX11_findRows_92 rfl rfl ?_
      refine gf_X11_35 hC dX11_findRows_93 ?_
      refine q_iload hC 5 dX11_findRows_96 rfl ?_
      have g18 := (gd_e hx).1
      have hx := (gd_e hx).2
      refine q_iald hC 6 (gV_t (by decide) (by decide)) rfl g18 dX11_findRows_98 ?_
      exact q_sub [0, 1, 2, 3, 4, 5] rfl (J99 N b5 (N.1 0 67 (b5).toNatClampNeg) b5 hx)
    · have hx := gi_p h17 hx
      refine q_aload_n hC 0 dX11_findRows_82 rfl rfl ?_
      refine gf_X11_32 hC dX11_findRows_83 ?_
      refine q_iload hC 5 dX11_findRows_86 rfl ?_
      have g24 := (gd_e hx).1
      have hx := (gd_e hx).2
      refine q_iald hC 6 (gV_t (by decide) (by decide)) rfl g24 dX11_findRows_88 ?_
      refine q_goto hC 99 dX11_findRows_89 rfl ?_
      exact q_sub [0, 1, 2, 3, 4, 5] rfl (J99 N b5 (N.1 0 66 (b5).toNatClampNeg) b5 hx)
set_option maxRecDepth 100000 in
set_option maxHeartbeats 4000000 in
theorem w_X11_findRows_33 {X : gX} {Y : gY} {a1 : Int32} {r : gMem} (hC : gC X Y cX11_findRows "GuestStaffModel" 6 3 72) (hF : gF X Y none (gQv Y r)) {e : (Int32 × gMem)} (kE : ∀ s : (Int32 × gMem), e = s → gWW X Y 6 204 [] [] s.2) : ∀ (F : Nat) (s : (Int32 × gMem)), itr F (fun s => s_X11_findRows_33 a1 s.1 s.2) s = some e → gWW X Y 6 33 [(0, .ref (gad Y 0 59)), (1, .int a1), (2, .int s.1)] [] s.2 := by
  intro F s
  refine itr_w (P := fun s => gWW X Y 6 33 [(0, .ref (gad Y 0 59)), (1, .int a1), (2, .int s.1)] [] s.2) (fun s o hx kI kx => ?_) F s
  obtain ⟨b2, N⟩ := s
  have hx : s_X11_findRows_33 a1 b2 N = some o := hx
  have kE : ∀ s : (Int32 × gMem), o = .inr s → gWW X Y 6 204 [] [] s.2 := fun s q => kE s (kx _ q).symm
  have J198 : ∀ (N : gMem) (b2 : Int32) , j_X11_findRows_33_198 a1 N b2 = some o → gWW X Y 6 198 [(0, .ref (gad Y 0 59)), (1, .int a1), (2, .int b2)] [] N := by
    intro N b2 hx
    unfold j_X11_findRows_33_198 at hx
    refine q_iinc hC 2 1 [(2, .int (b2 + 1)), (0, .ref (gad Y 0 59)), (1, .int a1)] dX11_findRows_198 rfl rfl (by decide) rfl ?_
    refine q_goto hC 33 dX11_findRows_201 rfl ?_
    exact q_sub [1, 2, 0] rfl (kI (b2 + 1, N) (Option.some.inj hx).symm)
  have J185 : ∀ (N : gMem) (b2 : Int32) (t0 : Int32) , j_X11_findRows_33_185 a1 N b2 t0 = some o → gWW X Y 6 185 [(0, .ref (gad Y 0 59)), (1, .int a1), (2, .int b2)] [.int t0, .ref (gad Y 0 59)] N := by
    intro N b2 t0 hx
    unfold j_X11_findRows_33_185 at hx
    refine pf_X11_202 hC dX11_findRows_185 ?_
    refine q_aload_n hC 0 dX11_findRows_188 rfl rfl ?_
    refine q_dup hC dX11_findRows_189 rfl ?_
    refine gf_X11_196 hC dX11_findRows_190 ?_
    refine q_iconst hC 1 dX11_findRows_193 rfl ?_
    refine q_iadd hC dX11_findRows_194 ?_
    refine pf_X11_196 hC dX11_findRows_195 ?_
    exact q_sub [0, 1, 2] rfl (J198 (gwr (gwr N 0 59 21 t0) 0 59 19 (((gwr N 0 59 21 t0).1 0 59 19) + 1)) b2 hx)
  have J163 : ∀ (N : gMem) (b2 : Int32) (b4 : Int32) (t0 : Int32) , j_X11_findRows_33_163 a1 N b2 b4 t0 = some o → gWW X Y 6 163 [(0, .ref (gad Y 0 59)), (1, .int a1), (2, .int b2), (4, .int b4)] [.int t0, .ref (gad Y 0 59)] N := by
    intro N b2 b4 t0 hx
    unfold j_X11_findRows_33_163 at hx
    refine pf_X11_199 hC dX11_findRows_163 ?_
    refine q_aload_n hC 0 dX11_findRows_166 rfl rfl ?_
    refine q_iload hC 3 dX11_findRows_167 rfl ?_
    refine q_aload_n hC 0 dX11_findRows_169 rfl rfl ?_
    refine gf_X11_202 hC dX11_findRows_170 ?_
    refine q_ic_le hC 181 dX11_findRows_173 rfl (fun h27 => ?_) (fun h27 => ?_)
    · have hx := gi_p h27 hx
      refine q_aload_n hC 0 dX11_findRows_181 rfl rfl ?_
      refine gf_X11_202 hC dX11_findRows_182 ?_
      exact q_sub [0, 1, 2] rfl (J185 (gwr N 0 59 20 t0) b2 ((gwr N 0 59 20 t0).1 0 59 21) hx)
    · have hx := gi_n h27 hx
      refine q_iload hC 3 dX11_findRows_176 rfl ?_
      refine q_goto hC 185 dX11_findRows_178 rfl ?_
      exact q_sub [0, 1, 2] rfl (J185 (gwr N 0 59 20 t0) b2 b4 hx)
  have J155 : ∀ (N : gMem) (b2 : Int32) (b3 : Int32) (b4 : Int32) , j_X11_findRows_33_155 a1 N b2 b3 b4 = some o → gWW X Y 6 155 [(0, .ref (gad Y 0 59)), (1, .int a1), (2, .int b2), (3, .int b3), (4, .int b4)] [.ref (gad Y 0 59)] N := by
    intro N b2 b3 b4 hx
    unfold j_X11_findRows_33_155 at hx
    refine q_iload_n hC 3 dX11_findRows_155 rfl rfl ?_
    refine q_goto hC 163 dX11_findRows_156 rfl ?_
    exact q_sub [0, 1, 2, 4] rfl (J163 N b2 b4 b3 hx)
  unfold s_X11_findRows_33 at hx
  refine q_iload_n hC 2 dX11_findRows_33 rfl rfl ?_
  refine q_iload_n hC 1 dX11_findRows_34 rfl rfl ?_
  refine q_ic_ge hC 204 dX11_findRows_35 rfl (fun h7 => ?_) (fun h7 => ?_)
  · have hx := gi_p h7 hx
    exact q_sub [] rfl (kE (b2, N) (Option.some.inj hx).symm)
  · have hx := gi_n h7 hx
    refine q_aload_n hC 0 dX11_findRows_38 rfl rfl ?_
    refine q_iload_n hC 2 dX11_findRows_39 rfl rfl ?_
    obtain ⟨v8, q9, hx⟩ := gb_e hx
    refine q_kz (q_rV (As := [.int b2]) (rest := []) hC mm_X11_isRow wM_X11_205 (c_X11_isRow q9) ⟨rfl, rfl, Nat.le_of_ble_eq_true rfl, Nat.le_of_ble_eq_true rfl⟩ (gV_t (by decide) (by decide)) rfl rfl rfl rfl (Nat.le_of_ble_eq_true rfl) dX11_findRows_40) (fun z10 => ?_)
    refine q_if_eq hC 198 dX11_findRows_43 rfl (fun h11 => ?_) (fun h11 => ?_)
    · have hx := gi_p h11 hx
      exact q_sub [0, 1, 2] rfl (J198 v8.2 b2 hx)
    · have hx := gi_n h11 hx
      refine q_aload_n hC 0 dX11_findRows_46 rfl rfl ?_
      obtain ⟨v12, q13, hx⟩ := gb_e hx
      refine q_kip (q_rV (As := []) (rest := []) hC mm_X11_rowWork wM_X11_208 (c_X11_rowWork q13) ⟨rfl, rfl, Nat.le_of_ble_eq_true rfl, Nat.le_of_ble_eq_true rfl⟩ (gV_t (by decide) (by decide)) rfl rfl rfl rfl (Nat.le_of_ble_eq_true rfl) dX11_findRows_47) ?_
      refine q_istore_n hC [(3, .int v12), (0, .ref (gad Y 0 59)), (1, .int a1), (2, .int b2)] dX11_findRows_50 rfl (by decide) rfl ?_
      refine q_aload_n hC 1 dX11_findRows_51 rfl rfl ?_
      obtain ⟨v14, q15, hx⟩ := gb_e hx
      refine q_kip (q_rV (As := []) (rest := []) hC mm_X11_rowContent wM_X11_211 (c_X11_rowContent q15) ⟨rfl, rfl, Nat.le_of_ble_eq_true rfl, Nat.le_of_ble_eq_true rfl⟩ (gV_t (by decide) (by decide)) rfl rfl rfl rfl (Nat.le_of_ble_eq_true rfl) dX11_findRows_52) ?_
      refine q_istore hC [(4, .int v14), (3, .int v12), (0, .ref (gad Y 0 59)), (1, .int a1), (2, .int b2)] dX11_findRows_55 (by decide) rfl ?_
      refine q_iconst hC 0 dX11_findRows_57 rfl ?_
      refine q_istore hC [(5, .int 0), (4, .int v14), (3, .int v12), (0, .ref (gad Y 0 59)), (1, .int a1), (2, .int b2)] dX11_findRows_58 (by decide) rfl ?_
      obtain ⟨e25, qe25, hx⟩ := gb_e hx
      refine q_sub [3, 4, 5, 2, 1, 0] rfl (w_X11_findRows_60 hC hF (e := e25) (fun s q => ?_) _ _ qe25)
      · subst q
        refine q_aload_n hC 0 dX11_findRows_139 rfl rfl ?_
        refine q_aload_n hC 0 dX11_findRows_140 rfl rfl ?_
        refine gf_X11_199 hC dX11_findRows_141 ?_
        refine q_if_lt hC 155 dX11_findRows_144 rfl (fun h26 => ?_) (fun h26 => ?_)
        · have hx := gi_p h26 hx
          exact q_sub [0, 1, 2, 3, 4] rfl (J155 e25.2 b2 v12 v14 hx)
        · have hx := gi_n h26 hx
          refine q_iload_n hC 3 dX11_findRows_147 rfl rfl ?_
          refine q_aload_n hC 0 dX11_findRows_148 rfl rfl ?_
          refine gf_X11_199 hC dX11_findRows_149 ?_
          refine q_ic_ge hC 159 dX11_findRows_152 rfl (fun h28 => ?_) (fun h28 => ?_)
          · have hx := gi_p h28 hx
            refine q_aload_n hC 0 dX11_findRows_159 rfl rfl ?_
            refine gf_X11_199 hC dX11_findRows_160 ?_
            exact q_sub [0, 1, 2, 4] rfl (J163 e25.2 b2 v14 (e25.2.1 0 59 20) hx)
          · have hx := gi_n h28 hx
            exact q_sub [0, 1, 2, 3, 4] rfl (J155 e25.2 b2 v12 v14 hx)
set_option maxRecDepth 100000 in
set_option maxHeartbeats 4000000 in
theorem c_X11_findRows {l : Launch} {Y : gY} {M : gMem} {r : gMem} (hx : x_X11_findRows M = some r) : Met l yX11_findRows (gws yX11_findRows cX11_findRows 6 none) { frames := 3, cells := 0, slots := 0, locals := 72 } (va_Pc [.ref (gad Y 0 59)] (gS0 Y M)) (gQv Y r) 0 0 (gA Y) := by
  refine gmet (lv := [(0, .ref (gad Y 0 59))]) "GuestStaffModel" (by decide) rfl (Nat.le_of_ble_eq_true rfl) rfl (fun X hC hF => ?_)
  unfold x_X11_findRows at hx
  refine q_aload_n hC 0 dX11_findRows_0 rfl rfl ?_
  refine q_aload_n hC 0 dX11_findRows_1 rfl rfl ?_
  obtain ⟨v1, q2, hx⟩ := gb_e hx
  refine q_kip (q_rV (As := []) (rest := [.ref (gad Y 0 59)]) hC mm_X11_everybody wM_X11_189 (c_X11_everybody q2) ⟨rfl, rfl, Nat.le_of_ble_eq_true rfl, Nat.le_of_ble_eq_true rfl⟩ (gV_t (by decide) (by decide)) rfl rfl rfl rfl (Nat.le_of_ble_eq_true rfl) dX11_findRows_2) ?_
  obtain ⟨v3, q4, hx⟩ := gb_e hx
  refine q_kv (q_rV (As := [.int v1]) (rest := []) hC mm_X11_takeSet wM_X11_192 (c_X11_takeSet q4) ⟨rfl, rfl, Nat.le_of_ble_eq_true rfl, Nat.le_of_ble_eq_true rfl⟩ (gV_t (by decide) (by decide)) rfl rfl rfl rfl (Nat.le_of_ble_eq_true rfl) dX11_findRows_5) ?_
  refine q_aload_n hC 0 dX11_findRows_8 rfl rfl ?_
  refine q_iconst hC 0 dX11_findRows_9 rfl ?_
  refine pf_X11_196 hC dX11_findRows_10 ?_
  refine q_aload_n hC 0 dX11_findRows_13 rfl rfl ?_
  refine q_iconst hC (-1) dX11_findRows_14 rfl ?_
  refine pf_X11_199 hC dX11_findRows_15 ?_
  refine q_aload_n hC 0 dX11_findRows_18 rfl rfl ?_
  refine q_iconst hC (-1) dX11_findRows_19 rfl ?_
  refine pf_X11_202 hC dX11_findRows_20 ?_
  refine q_aload_n hC 0 dX11_findRows_23 rfl rfl ?_
  refine gf_X11_183 hC dX11_findRows_24 ?_
  obtain ⟨v5, q6, hx⟩ := gb_e hx
  refine q_kip (q_rS (As := [.int ((gwr (gwr (gwr v3 0 59 19 0) 0 59 20 (-1)) 0 59 21 (-1)).1 0 59 16)]) (rest := []) hC mm_X11_factorial wM_X11_186 (c_X11_factorial q6) ⟨rfl, rfl, Nat.le_of_ble_eq_true rfl, Nat.le_of_ble_eq_true rfl⟩ rfl rfl (Nat.le_of_ble_eq_true rfl) dX11_findRows_27) ?_
  refine q_istore_n hC [(1, .int v5), (0, .ref (gad Y 0 59))] dX11_findRows_30 rfl (by decide) rfl ?_
  refine q_iconst hC 0 dX11_findRows_31 rfl ?_
  refine q_istore_n hC [(2, .int 0), (1, .int v5), (0, .ref (gad Y 0 59))] dX11_findRows_32 rfl (by decide) rfl ?_
  obtain ⟨e29, qe29, hx⟩ := gb_e hx
  refine q_sub [2, 1, 0] rfl (w_X11_findRows_33 hC hF (e := e29) (fun s q => ?_) _ _ qe29)
  · subst q
    exact q_vret hC hF dX11_findRows_204 (Option.some.inj hx)

theorem dX11_isOne_0 : decode cX11_isOne 0 = .ok (.iload_n 1, 1) := by decide +kernel
theorem dX11_isOne_1 : decode cX11_isOne 1 = .ok (.iconst (-1), 1) := by decide +kernel
theorem dX11_isOne_2 : decode cX11_isOne 2 = .ok (.if_icmp .eq 11, 3) := by decide +kernel
theorem dX11_isOne_5 : decode cX11_isOne 5 = .ok (.aload_n 0, 1) := by decide +kernel
theorem dX11_isOne_6 : decode cX11_isOne 6 = .ok (.iload_n 1, 1) := by decide +kernel
theorem dX11_isOne_7 : decode cX11_isOne 7 = .ok (.invokevirtual 85, 3) := by decide +kernel
theorem dX11_isOne_10 : decode cX11_isOne 10 = .ok (.ifCond .eq 7, 3) := by decide +kernel
theorem dX11_isOne_13 : decode cX11_isOne 13 = .ok (.iconst 1, 1) := by decide +kernel
theorem dX11_isOne_14 : decode cX11_isOne 14 = .ok (.goto 4, 3) := by decide +kernel
theorem dX11_isOne_17 : decode cX11_isOne 17 = .ok (.iconst 0, 1) := by decide +kernel
theorem dX11_isOne_18 : decode cX11_isOne 18 = .ok (.ireturn, 1) := by decide +kernel
def x_X11_isOne (M : gMem) (p1 : Int32) : Option Int32 := (if p1 = (-1) then some 1 else Option.bind (x_X11_isGuest M p1) (fun v2 => (if v2 = 0 then some 0 else some 1)))
set_option maxRecDepth 100000 in
set_option maxHeartbeats 4000000 in
theorem c_X11_isOne {l : Launch} {Y : gY} {M : gMem} {p1 : Int32} {r : Int32} (hx : x_X11_isOne M p1 = some r) : Met l yX11_isOne (gws yX11_isOne cX11_isOne 2 (some .boolean)) { frames := 2, cells := 0, slots := 0, locals := 46 } (va_Pc [.ref (gad Y 0 59), .int p1] (gS0 Y M)) (gQz Y (r, M)) 0 0 (gA Y) := by
  refine gmet (lv := [(0, .ref (gad Y 0 59)), (1, .int p1)]) "GuestStaffModel" (by decide) rfl (Nat.le_of_ble_eq_true rfl) rfl (fun X hC hF => ?_)
  unfold x_X11_isOne at hx
  refine q_iload_n hC 1 dX11_isOne_0 rfl rfl ?_
  refine q_iconst hC (-1) dX11_isOne_1 rfl ?_
  refine q_ic_eq hC 13 dX11_isOne_2 rfl (fun h1 => ?_) (fun h1 => ?_)
  · have hx := gi_p h1 hx
    refine q_iconst hC 1 dX11_isOne_13 rfl ?_
    refine q_goto hC 18 dX11_isOne_14 rfl ?_
    exact q_zret hC hF dX11_isOne_18 (Or.inr rfl) (congrArg (fun z => (z, M)) (Option.some.inj hx))
  · have hx := gi_n h1 hx
    refine q_aload_n hC 0 dX11_isOne_5 rfl rfl ?_
    refine q_iload_n hC 1 dX11_isOne_6 rfl rfl ?_
    obtain ⟨v2, q3, hx⟩ := gb_e hx
    refine q_kzp (q_rV (As := [.int p1]) (rest := []) hC mm_X11_isGuest wM_X11_85 (c_X11_isGuest q3) ⟨rfl, rfl, Nat.le_of_ble_eq_true rfl, Nat.le_of_ble_eq_true rfl⟩ (gV_t (by decide) (by decide)) rfl rfl rfl rfl (Nat.le_of_ble_eq_true rfl) dX11_isOne_7) (fun z4 => ?_)
    refine q_if_eq hC 17 dX11_isOne_10 rfl (fun h5 => ?_) (fun h5 => ?_)
    · have hx := gi_p h5 hx
      refine q_iconst hC 0 dX11_isOne_17 rfl ?_
      exact q_zret hC hF dX11_isOne_18 (Or.inl rfl) (congrArg (fun z => (z, M)) (Option.some.inj hx))
    · have hx := gi_n h5 hx
      refine q_iconst hC 1 dX11_isOne_13 rfl ?_
      refine q_goto hC 18 dX11_isOne_14 rfl ?_
      exact q_zret hC hF dX11_isOne_18 (Or.inr rfl) (congrArg (fun z => (z, M)) (Option.some.inj hx))
