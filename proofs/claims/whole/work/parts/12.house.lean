theorem dX1_empty_0 : decode cX1_empty 0 = .ok (.aload_n 0, 1) := by decide +kernel
theorem dX1_empty_1 : decode cX1_empty 1 = .ok (.iconst 0, 1) := by decide +kernel
theorem dX1_empty_2 : decode cX1_empty 2 = .ok (.putfield 55, 3) := by decide +kernel
theorem dX1_empty_5 : decode cX1_empty 5 = .ok (.aload_n 0, 1) := by decide +kernel
theorem dX1_empty_6 : decode cX1_empty 6 = .ok (.iconst 0, 1) := by decide +kernel
theorem dX1_empty_7 : decode cX1_empty 7 = .ok (.putfield 58, 3) := by decide +kernel
theorem dX1_empty_10 : decode cX1_empty 10 = .ok (.aload_n 0, 1) := by decide +kernel
theorem dX1_empty_11 : decode cX1_empty 11 = .ok (.iconst 0, 1) := by decide +kernel
theorem dX1_empty_12 : decode cX1_empty 12 = .ok (.putfield 61, 3) := by decide +kernel
theorem dX1_empty_15 : decode cX1_empty 15 = .ok (.aload_n 0, 1) := by decide +kernel
theorem dX1_empty_16 : decode cX1_empty 16 = .ok (.iconst 0, 1) := by decide +kernel
theorem dX1_empty_17 : decode cX1_empty 17 = .ok (.putfield 52, 3) := by decide +kernel
theorem dX1_empty_20 : decode cX1_empty 20 = .ok (.aload_n 0, 1) := by decide +kernel
theorem dX1_empty_21 : decode cX1_empty 21 = .ok (.getfield 30, 3) := by decide +kernel
theorem dX1_empty_24 : decode cX1_empty 24 = .ok (.iconst 0, 1) := by decide +kernel
theorem dX1_empty_25 : decode cX1_empty 25 = .ok (.putfield 68, 3) := by decide +kernel
theorem dX1_empty_28 : decode cX1_empty 28 = .ok (.return_, 1) := by decide +kernel
def x_X1_empty (M : gMem) (c : Nat) : Option gMem := some (gwr (gwr (gwr (gwr (gwr M c 0 13 0) c 0 14 0) c 0 15 0) c 0 12 0) c 6 1 0)
set_option maxRecDepth 100000 in
set_option maxHeartbeats 4000000 in
theorem c_X1_empty {l : Launch} {Y : gY} {M : gMem} {c : Nat} {r : gMem} (hc : c < 4) (hx : x_X1_empty M c = some r) : Met l yX1_empty (gws yX1_empty cX1_empty 1 none) { frames := 0, cells := 0, slots := 0, locals := 0 } (va_Pc [.ref (gad Y c 0)] (gS0 Y M)) (gQv Y r) 0 0 (gA Y) := by
  refine gmet (lv := [(0, .ref (gad Y c 0))]) "GuestStaff$House" (by decide) rfl (Nat.le_of_ble_eq_true rfl) rfl (fun X hC hF => ?_)
  unfold x_X1_empty at hx
  refine q_aload_n hC 0 dX1_empty_0 rfl rfl ?_
  refine q_iconst hC 0 dX1_empty_1 rfl ?_
  refine pf_X1_55 hC hc dX1_empty_2 ?_
  refine q_aload_n hC 0 dX1_empty_5 rfl rfl ?_
  refine q_iconst hC 0 dX1_empty_6 rfl ?_
  refine pf_X1_58 hC hc dX1_empty_7 ?_
  refine q_aload_n hC 0 dX1_empty_10 rfl rfl ?_
  refine q_iconst hC 0 dX1_empty_11 rfl ?_
  refine pf_X1_61 hC hc dX1_empty_12 ?_
  refine q_aload_n hC 0 dX1_empty_15 rfl rfl ?_
  refine q_iconst hC 0 dX1_empty_16 rfl ?_
  refine pf_X1_52 hC hc dX1_empty_17 ?_
  refine q_aload_n hC 0 dX1_empty_20 rfl rfl ?_
  refine gf_X1_30 hC hc dX1_empty_21 ?_
  refine q_iconst hC 0 dX1_empty_24 rfl ?_
  refine pf_X1_68 hC hc dX1_empty_25 ?_
  exact q_vret hC hF dX1_empty_28 (Option.some.inj hx)

theorem dX1_copyRow_0 : decode cX1_copyRow 0 = .ok (.aload_n 0, 1) := by decide +kernel
theorem dX1_copyRow_1 : decode cX1_copyRow 1 = .ok (.iconst 0, 1) := by decide +kernel
theorem dX1_copyRow_2 : decode cX1_copyRow 2 = .ok (.aload_n 1, 1) := by decide +kernel
theorem dX1_copyRow_3 : decode cX1_copyRow 3 = .ok (.iconst 0, 1) := by decide +kernel
theorem dX1_copyRow_4 : decode cX1_copyRow 4 = .ok (.bipush 7, 2) := by decide +kernel
theorem dX1_copyRow_6 : decode cX1_copyRow 6 = .ok (.invokestatic 79, 3) := by decide +kernel
theorem dX1_copyRow_9 : decode cX1_copyRow 9 = .ok (.return_, 1) := by decide +kernel
def x_X1_copyRow (M : gMem) (c0 : Nat) (o0 : Nat) (c1 : Nat) (o1 : Nat) : Option gMem := some (gup M c1 o1 (va_cpy (M.1 c0 o0) (M.1 c1 o1) 0 0 7))
set_option maxRecDepth 100000 in
set_option maxHeartbeats 4000000 in
theorem c_X1_copyRow {l : Launch} {Y : gY} {M : gMem} {c0 : Nat} {o0 : Nat} {c1 : Nat} {o1 : Nat} {r : gMem} (hV0 : gV c0 o0) (hL0 : glen o0 = 7) (hV1 : gV c1 o1) (hL1 : glen o1 = 7) (hx : x_X1_copyRow M c0 o0 c1 o1 = some r) : Met l yX1_copyRow (gws yX1_copyRow cX1_copyRow 2 none) { frames := 1, cells := 0, slots := 0, locals := 40 } (va_Pc [.ref (gad Y c0 o0), .ref (gad Y c1 o1)] (gS0 Y M)) (gQv Y r) 0 0 (gA Y) := by
  refine gmet (lv := [(0, .ref (gad Y c0 o0)), (1, .ref (gad Y c1 o1))]) "GuestStaff$House" (by decide) rfl (Nat.le_of_ble_eq_true rfl) rfl (fun X hC hF => ?_)
  unfold x_X1_copyRow at hx
  refine q_aload_n hC 0 dX1_copyRow_0 rfl rfl ?_
  refine q_iconst hC 0 dX1_copyRow_1 rfl ?_
  refine q_aload_n hC 1 dX1_copyRow_2 rfl rfl ?_
  refine q_iconst hC 0 dX1_copyRow_3 rfl ?_
  refine q_bipush hC 7 dX1_copyRow_4 rfl ?_
  refine q_copy hC 6 6 hV0 hV1 hL0 hL1 wM_X1_79 (by decide) wcopy (by decide) (Nat.le_of_ble_eq_true rfl) dX1_copyRow_6 ?_
  exact q_vret hC hF dX1_copyRow_9 (Option.some.inj hx)

theorem dX3_copy_0 : decode cX3_copy 0 = .ok (.aload_n 0, 1) := by decide +kernel
theorem dX3_copy_1 : decode cX3_copy 1 = .ok (.aload_n 1, 1) := by decide +kernel
theorem dX3_copy_2 : decode cX3_copy 2 = .ok (.getfield 16, 3) := by decide +kernel
theorem dX3_copy_5 : decode cX3_copy 5 = .ok (.putfield 16, 3) := by decide +kernel
theorem dX3_copy_8 : decode cX3_copy 8 = .ok (.iconst 0, 1) := by decide +kernel
theorem dX3_copy_9 : decode cX3_copy 9 = .ok (.istore_n 2, 1) := by decide +kernel
theorem dX3_copy_10 : decode cX3_copy 10 = .ok (.iload_n 2, 1) := by decide +kernel
theorem dX3_copy_11 : decode cX3_copy 11 = .ok (.bipush 6, 2) := by decide +kernel
theorem dX3_copy_13 : decode cX3_copy 13 = .ok (.if_icmp .ge 27, 3) := by decide +kernel
theorem dX3_copy_16 : decode cX3_copy 16 = .ok (.aload_n 1, 1) := by decide +kernel
theorem dX3_copy_17 : decode cX3_copy 17 = .ok (.getfield 13, 3) := by decide +kernel
theorem dX3_copy_20 : decode cX3_copy 20 = .ok (.iload_n 2, 1) := by decide +kernel
theorem dX3_copy_21 : decode cX3_copy 21 = .ok (.aaload, 1) := by decide +kernel
theorem dX3_copy_22 : decode cX3_copy 22 = .ok (.iconst 0, 1) := by decide +kernel
theorem dX3_copy_23 : decode cX3_copy 23 = .ok (.aload_n 0, 1) := by decide +kernel
theorem dX3_copy_24 : decode cX3_copy 24 = .ok (.getfield 13, 3) := by decide +kernel
theorem dX3_copy_27 : decode cX3_copy 27 = .ok (.iload_n 2, 1) := by decide +kernel
theorem dX3_copy_28 : decode cX3_copy 28 = .ok (.aaload, 1) := by decide +kernel
theorem dX3_copy_29 : decode cX3_copy 29 = .ok (.iconst 0, 1) := by decide +kernel
theorem dX3_copy_30 : decode cX3_copy 30 = .ok (.iconst 5, 1) := by decide +kernel
theorem dX3_copy_31 : decode cX3_copy 31 = .ok (.invokestatic 20, 3) := by decide +kernel
theorem dX3_copy_34 : decode cX3_copy 34 = .ok (.iinc 2 1, 3) := by decide +kernel
theorem dX3_copy_37 : decode cX3_copy 37 = .ok (.goto (-27), 3) := by decide +kernel
theorem dX3_copy_40 : decode cX3_copy 40 = .ok (.return_, 1) := by decide +kernel
def s_X3_copy_10 (c : Nat) (d : Nat) (b2 : Int32) (N : gMem) : Option ((Int32 × gMem) ⊕ (Int32 × gMem)) := (if 6 ≤ b2 then some (.inr (b2, N)) else gd (gin b2 6) (gd (gin b2 6) (some (.inl (b2 + 1, gup N c (8 + (b2).toNatClampNeg) (va_cpy (N.1 d (8 + (b2).toNatClampNeg)) (N.1 c (8 + (b2).toNatClampNeg)) 0 0 5))))))
def x_X3_copy (M : gMem) (c : Nat) (d : Nat) : Option gMem := Option.bind (itr FU (fun s => s_X3_copy_10 c d s.1 s.2) (0, gwr M c 6 1 (M.1 d 6 1))) (fun e4 => some e4.2)
set_option maxRecDepth 100000 in
set_option maxHeartbeats 4000000 in
theorem w_X3_copy_10 {X : gX} {Y : gY} {c : Nat} {d : Nat} {r : gMem} (hC : gC X Y cX3_copy "GuestStaff$Notes" 3 1 40) (hF : gF X Y none (gQv Y r)) (hc : c < 4) (hd : d < 4) {e : (Int32 × gMem)} (kE : ∀ s : (Int32 × gMem), e = s → gWW X Y 3 40 [] [] s.2) : ∀ (F : Nat) (s : (Int32 × gMem)), itr F (fun s => s_X3_copy_10 c d s.1 s.2) s = some e → gWW X Y 3 10 [(0, .ref (gad Y c 6)), (1, .ref (gad Y d 6)), (2, .int s.1)] [] s.2 := by
  intro F s
  refine itr_w (P := fun s => gWW X Y 3 10 [(0, .ref (gad Y c 6)), (1, .ref (gad Y d 6)), (2, .int s.1)] [] s.2) (fun s o hx kI kx => ?_) F s
  obtain ⟨b2, N⟩ := s
  have hx : s_X3_copy_10 c d b2 N = some o := hx
  have kE : ∀ s : (Int32 × gMem), o = .inr s → gWW X Y 3 40 [] [] s.2 := fun s q => kE s (kx _ q).symm
  unfold s_X3_copy_10 at hx
  refine q_iload_n hC 2 dX3_copy_10 rfl rfl ?_
  refine q_bipush hC 6 dX3_copy_11 rfl ?_
  refine q_ic_ge hC 40 dX3_copy_13 rfl (fun h1 => ?_) (fun h1 => ?_)
  · have hx := gi_p h1 hx
    exact q_sub [] rfl (kE (b2, N) (Option.some.inj hx).symm)
  · have hx := gi_n h1 hx
    refine q_aload_n hC 1 dX3_copy_16 rfl rfl ?_
    refine gf_X3_13 hC hd dX3_copy_17 ?_
    refine q_iload_n hC 2 dX3_copy_20 rfl rfl ?_
    have g2 := (gd_e hx).1
    have hx := (gd_e hx).2
    refine q_aald (t0 := 4) hC (gV_h hd (by decide)) rfl rfl rfl g2 (grow_i g2) dX3_copy_21 ?_
    refine q_iconst hC 0 dX3_copy_22 rfl ?_
    refine q_aload_n hC 0 dX3_copy_23 rfl rfl ?_
    refine gf_X3_13 hC hc dX3_copy_24 ?_
    refine q_iload_n hC 2 dX3_copy_27 rfl rfl ?_
    have g3 := (gd_e hx).1
    have hx := (gd_e hx).2
    refine q_aald (t0 := 4) hC (gV_h hc (by decide)) rfl rfl rfl g3 (grow_i g3) dX3_copy_28 ?_
    refine q_iconst hC 0 dX3_copy_29 rfl ?_
    refine q_iconst hC 5 dX3_copy_30 rfl ?_
    refine q_copy hC 4 4 (gV_hr 6 hd g2 (by decide)) (gV_hr 6 hc g3 (by decide)) (gl_of (by decide) g2) (gl_of (by decide) g3) wM_X3_20 (by decide) wcopy (by decide) (Nat.le_of_ble_eq_true rfl) dX3_copy_31 ?_
    refine q_iinc hC 2 1 [(2, .int (b2 + 1)), (0, .ref (gad Y c 6)), (1, .ref (gad Y d 6))] dX3_copy_34 rfl rfl (by decide) rfl ?_
    refine q_goto hC 10 dX3_copy_37 rfl ?_
    exact q_sub [1, 2, 0] rfl (kI (b2 + 1, gup N c (8 + (b2).toNatClampNeg) (va_cpy (N.1 d (8 + (b2).toNatClampNeg)) (N.1 c (8 + (b2).toNatClampNeg)) 0 0 5)) (Option.some.inj hx).symm)
set_option maxRecDepth 100000 in
set_option maxHeartbeats 4000000 in
theorem c_X3_copy {l : Launch} {Y : gY} {M : gMem} {c : Nat} {d : Nat} {r : gMem} (hc : c < 4) (hd : d < 4) (hx : x_X3_copy M c d = some r) : Met l yX3_copy (gws yX3_copy cX3_copy 3 none) { frames := 1, cells := 0, slots := 0, locals := 40 } (va_Pc [.ref (gad Y c 6), .ref (gad Y d 6)] (gS0 Y M)) (gQv Y r) 0 0 (gA Y) := by
  refine gmet (lv := [(0, .ref (gad Y c 6)), (1, .ref (gad Y d 6))]) "GuestStaff$Notes" (by decide) rfl (Nat.le_of_ble_eq_true rfl) rfl (fun X hC hF => ?_)
  unfold x_X3_copy at hx
  refine q_aload_n hC 0 dX3_copy_0 rfl rfl ?_
  refine q_aload_n hC 1 dX3_copy_1 rfl rfl ?_
  refine gf_X3_16 hC hd dX3_copy_2 ?_
  refine pf_X3_16 hC hc dX3_copy_5 ?_
  refine q_iconst hC 0 dX3_copy_8 rfl ?_
  refine q_istore_n hC [(2, .int 0), (0, .ref (gad Y c 6)), (1, .ref (gad Y d 6))] dX3_copy_9 rfl (by decide) rfl ?_
  obtain ⟨e4, qe4, hx⟩ := gb_e hx
  refine q_sub [1, 2, 0] rfl (w_X3_copy_10 hC hF hc hd (e := e4) (fun s q => ?_) _ _ qe4)
  · subst q
    exact q_vret hC hF dX3_copy_40 (Option.some.inj hx)

theorem dX1_copy_0 : decode cX1_copy 0 = .ok (.aload_n 0, 1) := by decide +kernel
theorem dX1_copy_1 : decode cX1_copy 1 = .ok (.aload_n 1, 1) := by decide +kernel
theorem dX1_copy_2 : decode cX1_copy 2 = .ok (.getfield 55, 3) := by decide +kernel
theorem dX1_copy_5 : decode cX1_copy 5 = .ok (.putfield 55, 3) := by decide +kernel
theorem dX1_copy_8 : decode cX1_copy 8 = .ok (.aload_n 0, 1) := by decide +kernel
theorem dX1_copy_9 : decode cX1_copy 9 = .ok (.aload_n 1, 1) := by decide +kernel
theorem dX1_copy_10 : decode cX1_copy 10 = .ok (.getfield 58, 3) := by decide +kernel
theorem dX1_copy_13 : decode cX1_copy 13 = .ok (.putfield 58, 3) := by decide +kernel
theorem dX1_copy_16 : decode cX1_copy 16 = .ok (.aload_n 0, 1) := by decide +kernel
theorem dX1_copy_17 : decode cX1_copy 17 = .ok (.aload_n 1, 1) := by decide +kernel
theorem dX1_copy_18 : decode cX1_copy 18 = .ok (.getfield 61, 3) := by decide +kernel
theorem dX1_copy_21 : decode cX1_copy 21 = .ok (.putfield 61, 3) := by decide +kernel
theorem dX1_copy_24 : decode cX1_copy 24 = .ok (.aload_n 1, 1) := by decide +kernel
theorem dX1_copy_25 : decode cX1_copy 25 = .ok (.getfield 9, 3) := by decide +kernel
theorem dX1_copy_28 : decode cX1_copy 28 = .ok (.aload_n 0, 1) := by decide +kernel
theorem dX1_copy_29 : decode cX1_copy 29 = .ok (.getfield 9, 3) := by decide +kernel
theorem dX1_copy_32 : decode cX1_copy 32 = .ok (.invokestatic 71, 3) := by decide +kernel
theorem dX1_copy_35 : decode cX1_copy 35 = .ok (.aload_n 1, 1) := by decide +kernel
theorem dX1_copy_36 : decode cX1_copy 36 = .ok (.getfield 15, 3) := by decide +kernel
theorem dX1_copy_39 : decode cX1_copy 39 = .ok (.aload_n 0, 1) := by decide +kernel
theorem dX1_copy_40 : decode cX1_copy 40 = .ok (.getfield 15, 3) := by decide +kernel
theorem dX1_copy_43 : decode cX1_copy 43 = .ok (.invokestatic 71, 3) := by decide +kernel
theorem dX1_copy_46 : decode cX1_copy 46 = .ok (.aload_n 1, 1) := by decide +kernel
theorem dX1_copy_47 : decode cX1_copy 47 = .ok (.getfield 18, 3) := by decide +kernel
theorem dX1_copy_50 : decode cX1_copy 50 = .ok (.aload_n 0, 1) := by decide +kernel
theorem dX1_copy_51 : decode cX1_copy 51 = .ok (.getfield 18, 3) := by decide +kernel
theorem dX1_copy_54 : decode cX1_copy 54 = .ok (.invokestatic 71, 3) := by decide +kernel
theorem dX1_copy_57 : decode cX1_copy 57 = .ok (.aload_n 1, 1) := by decide +kernel
theorem dX1_copy_58 : decode cX1_copy 58 = .ok (.getfield 21, 3) := by decide +kernel
theorem dX1_copy_61 : decode cX1_copy 61 = .ok (.aload_n 0, 1) := by decide +kernel
theorem dX1_copy_62 : decode cX1_copy 62 = .ok (.getfield 21, 3) := by decide +kernel
theorem dX1_copy_65 : decode cX1_copy 65 = .ok (.invokestatic 71, 3) := by decide +kernel
theorem dX1_copy_68 : decode cX1_copy 68 = .ok (.aload_n 1, 1) := by decide +kernel
theorem dX1_copy_69 : decode cX1_copy 69 = .ok (.getfield 24, 3) := by decide +kernel
theorem dX1_copy_72 : decode cX1_copy 72 = .ok (.aload_n 0, 1) := by decide +kernel
theorem dX1_copy_73 : decode cX1_copy 73 = .ok (.getfield 24, 3) := by decide +kernel
theorem dX1_copy_76 : decode cX1_copy 76 = .ok (.invokestatic 71, 3) := by decide +kernel
theorem dX1_copy_79 : decode cX1_copy 79 = .ok (.aload_n 0, 1) := by decide +kernel
theorem dX1_copy_80 : decode cX1_copy 80 = .ok (.getfield 30, 3) := by decide +kernel
theorem dX1_copy_83 : decode cX1_copy 83 = .ok (.aload_n 1, 1) := by decide +kernel
theorem dX1_copy_84 : decode cX1_copy 84 = .ok (.getfield 30, 3) := by decide +kernel
theorem dX1_copy_87 : decode cX1_copy 87 = .ok (.invokevirtual 75, 3) := by decide +kernel
theorem dX1_copy_90 : decode cX1_copy 90 = .ok (.aload_n 0, 1) := by decide +kernel
theorem dX1_copy_91 : decode cX1_copy 91 = .ok (.aload_n 1, 1) := by decide +kernel
theorem dX1_copy_92 : decode cX1_copy 92 = .ok (.getfield 48, 3) := by decide +kernel
theorem dX1_copy_95 : decode cX1_copy 95 = .ok (.putfield 48, 3) := by decide +kernel
theorem dX1_copy_98 : decode cX1_copy 98 = .ok (.aload_n 0, 1) := by decide +kernel
theorem dX1_copy_99 : decode cX1_copy 99 = .ok (.aload_n 1, 1) := by decide +kernel
theorem dX1_copy_100 : decode cX1_copy 100 = .ok (.getfield 52, 3) := by decide +kernel
theorem dX1_copy_103 : decode cX1_copy 103 = .ok (.putfield 52, 3) := by decide +kernel
theorem dX1_copy_106 : decode cX1_copy 106 = .ok (.aload_n 1, 1) := by decide +kernel
theorem dX1_copy_107 : decode cX1_copy 107 = .ok (.getfield 42, 3) := by decide +kernel
theorem dX1_copy_110 : decode cX1_copy 110 = .ok (.iconst 0, 1) := by decide +kernel
theorem dX1_copy_111 : decode cX1_copy 111 = .ok (.aload_n 0, 1) := by decide +kernel
theorem dX1_copy_112 : decode cX1_copy 112 = .ok (.getfield 42, 3) := by decide +kernel
theorem dX1_copy_115 : decode cX1_copy 115 = .ok (.iconst 0, 1) := by decide +kernel
theorem dX1_copy_116 : decode cX1_copy 116 = .ok (.bipush 8, 2) := by decide +kernel
theorem dX1_copy_118 : decode cX1_copy 118 = .ok (.invokestatic 79, 3) := by decide +kernel
theorem dX1_copy_121 : decode cX1_copy 121 = .ok (.aload_n 1, 1) := by decide +kernel
theorem dX1_copy_122 : decode cX1_copy 122 = .ok (.getfield 45, 3) := by decide +kernel
theorem dX1_copy_125 : decode cX1_copy 125 = .ok (.iconst 0, 1) := by decide +kernel
theorem dX1_copy_126 : decode cX1_copy 126 = .ok (.aload_n 0, 1) := by decide +kernel
theorem dX1_copy_127 : decode cX1_copy 127 = .ok (.getfield 45, 3) := by decide +kernel
theorem dX1_copy_130 : decode cX1_copy 130 = .ok (.iconst 0, 1) := by decide +kernel
theorem dX1_copy_131 : decode cX1_copy 131 = .ok (.bipush 8, 2) := by decide +kernel
theorem dX1_copy_133 : decode cX1_copy 133 = .ok (.invokestatic 79, 3) := by decide +kernel
theorem dX1_copy_136 : decode cX1_copy 136 = .ok (.iconst 0, 1) := by decide +kernel
theorem dX1_copy_137 : decode cX1_copy 137 = .ok (.istore_n 2, 1) := by decide +kernel
theorem dX1_copy_138 : decode cX1_copy 138 = .ok (.iload_n 2, 1) := by decide +kernel
theorem dX1_copy_139 : decode cX1_copy 139 = .ok (.bipush 8, 2) := by decide +kernel
theorem dX1_copy_141 : decode cX1_copy 141 = .ok (.if_icmp .ge 39, 3) := by decide +kernel
theorem dX1_copy_144 : decode cX1_copy 144 = .ok (.aload_n 1, 1) := by decide +kernel
theorem dX1_copy_145 : decode cX1_copy 145 = .ok (.getfield 36, 3) := by decide +kernel
theorem dX1_copy_148 : decode cX1_copy 148 = .ok (.iload_n 2, 1) := by decide +kernel
theorem dX1_copy_149 : decode cX1_copy 149 = .ok (.aaload, 1) := by decide +kernel
theorem dX1_copy_150 : decode cX1_copy 150 = .ok (.aload_n 0, 1) := by decide +kernel
theorem dX1_copy_151 : decode cX1_copy 151 = .ok (.getfield 36, 3) := by decide +kernel
theorem dX1_copy_154 : decode cX1_copy 154 = .ok (.iload_n 2, 1) := by decide +kernel
theorem dX1_copy_155 : decode cX1_copy 155 = .ok (.aaload, 1) := by decide +kernel
theorem dX1_copy_156 : decode cX1_copy 156 = .ok (.invokestatic 71, 3) := by decide +kernel
theorem dX1_copy_159 : decode cX1_copy 159 = .ok (.aload_n 1, 1) := by decide +kernel
theorem dX1_copy_160 : decode cX1_copy 160 = .ok (.getfield 39, 3) := by decide +kernel
theorem dX1_copy_163 : decode cX1_copy 163 = .ok (.iload_n 2, 1) := by decide +kernel
theorem dX1_copy_164 : decode cX1_copy 164 = .ok (.aaload, 1) := by decide +kernel
theorem dX1_copy_165 : decode cX1_copy 165 = .ok (.aload_n 0, 1) := by decide +kernel
theorem dX1_copy_166 : decode cX1_copy 166 = .ok (.getfield 39, 3) := by decide +kernel
theorem dX1_copy_169 : decode cX1_copy 169 = .ok (.iload_n 2, 1) := by decide +kernel
theorem dX1_copy_170 : decode cX1_copy 170 = .ok (.aaload, 1) := by decide +kernel
theorem dX1_copy_171 : decode cX1_copy 171 = .ok (.invokestatic 71, 3) := by decide +kernel
theorem dX1_copy_174 : decode cX1_copy 174 = .ok (.iinc 2 1, 3) := by decide +kernel
theorem dX1_copy_177 : decode cX1_copy 177 = .ok (.goto (-39), 3) := by decide +kernel
theorem dX1_copy_180 : decode cX1_copy 180 = .ok (.return_, 1) := by decide +kernel
def s_X1_copy_138 (c : Nat) (d : Nat) (b2 : Int32) (N : gMem) : Option ((Int32 × gMem) ⊕ (Int32 × gMem)) := (if 8 ≤ b2 then some (.inr (b2, N)) else gd (gin b2 8) (gd (gin b2 8) (Option.bind (x_X1_copyRow N d (15 + (b2).toNatClampNeg) c (15 + (b2).toNatClampNeg)) (fun v16 => gd (gin b2 8) (gd (gin b2 8) (Option.bind (x_X1_copyRow v16 d (24 + (b2).toNatClampNeg) c (24 + (b2).toNatClampNeg)) (fun v20 => some (.inl (b2 + 1, v20)))))))))
def x_X1_copy (M : gMem) (c : Nat) (d : Nat) : Option gMem := Option.bind (x_X1_copyRow (gwr (gwr (gwr M c 0 13 (M.1 d 0 13)) c 0 14 ((gwr M c 0 13 (M.1 d 0 13)).1 d 0 14)) c 0 15 ((gwr (gwr M c 0 13 (M.1 d 0 13)) c 0 14 ((gwr M c 0 13 (M.1 d 0 13)).1 d 0 14)).1 d 0 15)) d 1 c 1) (fun v1 => Option.bind (x_X1_copyRow v1 d 2 c 2) (fun v3 => Option.bind (x_X1_copyRow v3 d 3 c 3) (fun v5 => Option.bind (x_X1_copyRow v5 d 4 c 4) (fun v7 => Option.bind (x_X1_copyRow v7 d 5 c 5) (fun v9 => Option.bind (x_X3_copy v9 c d) (fun v11 => Option.bind (itr FU (fun s => s_X1_copy_138 c d s.1 s.2) (0, gup (gup (gwr (gwr v11 c 0 11 (v11.1 d 0 11)) c 0 12 ((gwr v11 c 0 11 (v11.1 d 0 11)).1 d 0 12)) c 32 (va_cpy ((gwr (gwr v11 c 0 11 (v11.1 d 0 11)) c 0 12 ((gwr v11 c 0 11 (v11.1 d 0 11)).1 d 0 12)).1 d 32) ((gwr (gwr v11 c 0 11 (v11.1 d 0 11)) c 0 12 ((gwr v11 c 0 11 (v11.1 d 0 11)).1 d 0 12)).1 c 32) 0 0 8)) c 33 (va_cpy ((gup (gwr (gwr v11 c 0 11 (v11.1 d 0 11)) c 0 12 ((gwr v11 c 0 11 (v11.1 d 0 11)).1 d 0 12)) c 32 (va_cpy ((gwr (gwr v11 c 0 11 (v11.1 d 0 11)) c 0 12 ((gwr v11 c 0 11 (v11.1 d 0 11)).1 d 0 12)).1 d 32) ((gwr (gwr v11 c 0 11 (v11.1 d 0 11)) c 0 12 ((gwr v11 c 0 11 (v11.1 d 0 11)).1 d 0 12)).1 c 32) 0 0 8)).1 d 33) ((gup (gwr (gwr v11 c 0 11 (v11.1 d 0 11)) c 0 12 ((gwr v11 c 0 11 (v11.1 d 0 11)).1 d 0 12)) c 32 (va_cpy ((gwr (gwr v11 c 0 11 (v11.1 d 0 11)) c 0 12 ((gwr v11 c 0 11 (v11.1 d 0 11)).1 d 0 12)).1 d 32) ((gwr (gwr v11 c 0 11 (v11.1 d 0 11)) c 0 12 ((gwr v11 c 0 11 (v11.1 d 0 11)).1 d 0 12)).1 c 32) 0 0 8)).1 c 33) 0 0 8))) (fun e22 => some e22.2)))))))
set_option maxRecDepth 100000 in
set_option maxHeartbeats 4000000 in
theorem w_X1_copy_138 {X : gX} {Y : gY} {c : Nat} {d : Nat} {r : gMem} (hC : gC X Y cX1_copy "GuestStaff$House" 3 2 62) (hF : gF X Y none (gQv Y r)) (hc : c < 4) (hd : d < 4) {e : (Int32 × gMem)} (kE : ∀ s : (Int32 × gMem), e = s → gWW X Y 3 180 [] [] s.2) : ∀ (F : Nat) (s : (Int32 × gMem)), itr F (fun s => s_X1_copy_138 c d s.1 s.2) s = some e → gWW X Y 3 138 [(0, .ref (gad Y c 0)), (1, .ref (gad Y d 0)), (2, .int s.1)] [] s.2 := by
  intro F s
  refine itr_w (P := fun s => gWW X Y 3 138 [(0, .ref (gad Y c 0)), (1, .ref (gad Y d 0)), (2, .int s.1)] [] s.2) (fun s o hx kI kx => ?_) F s
  obtain ⟨b2, N⟩ := s
  have hx : s_X1_copy_138 c d b2 N = some o := hx
  have kE : ∀ s : (Int32 × gMem), o = .inr s → gWW X Y 3 180 [] [] s.2 := fun s q => kE s (kx _ q).symm
  unfold s_X1_copy_138 at hx
  refine q_iload_n hC 2 dX1_copy_138 rfl rfl ?_
  refine q_bipush hC 8 dX1_copy_139 rfl ?_
  refine q_ic_ge hC 180 dX1_copy_141 rfl (fun h13 => ?_) (fun h13 => ?_)
  · have hx := gi_p h13 hx
    exact q_sub [] rfl (kE (b2, N) (Option.some.inj hx).symm)
  · have hx := gi_n h13 hx
    refine q_aload_n hC 1 dX1_copy_144 rfl rfl ?_
    refine gf_X1_36 hC hd dX1_copy_145 ?_
    refine q_iload_n hC 2 dX1_copy_148 rfl rfl ?_
    have g14 := (gd_e hx).1
    have hx := (gd_e hx).2
    refine q_aald (t0 := 4) hC (gV_h hd (by decide)) rfl rfl rfl g14 (grow_i g14) dX1_copy_149 ?_
    refine q_aload_n hC 0 dX1_copy_150 rfl rfl ?_
    refine gf_X1_36 hC hc dX1_copy_151 ?_
    refine q_iload_n hC 2 dX1_copy_154 rfl rfl ?_
    have g15 := (gd_e hx).1
    have hx := (gd_e hx).2
    refine q_aald (t0 := 4) hC (gV_h hc (by decide)) rfl rfl rfl g15 (grow_i g15) dX1_copy_155 ?_
    obtain ⟨v16, q17, hx⟩ := gb_e hx
    refine q_kv (q_rS (As := [.ref (gad Y d (15 + (b2).toNatClampNeg)), .ref (gad Y c (15 + (b2).toNatClampNeg))]) (rest := []) hC mm_X1_copyRow wM_X1_71 (c_X1_copyRow (gV_hr 8 hd g14 (by decide)) (gl_of (by decide) g14) (gV_hr 8 hc g15 (by decide)) (gl_of (by decide) g15) q17) ⟨rfl, rfl, Nat.le_of_ble_eq_true rfl, Nat.le_of_ble_eq_true rfl⟩ rfl rfl (Nat.le_of_ble_eq_true rfl) dX1_copy_156) ?_
    refine q_aload_n hC 1 dX1_copy_159 rfl rfl ?_
    refine gf_X1_39 hC hd dX1_copy_160 ?_
    refine q_iload_n hC 2 dX1_copy_163 rfl rfl ?_
    have g18 := (gd_e hx).1
    have hx := (gd_e hx).2
    refine q_aald (t0 := 4) hC (gV_h hd (by decide)) rfl rfl rfl g18 (grow_i g18) dX1_copy_164 ?_
    refine q_aload_n hC 0 dX1_copy_165 rfl rfl ?_
    refine gf_X1_39 hC hc dX1_copy_166 ?_
    refine q_iload_n hC 2 dX1_copy_169 rfl rfl ?_
    have g19 := (gd_e hx).1
    have hx := (gd_e hx).2
    refine q_aald (t0 := 4) hC (gV_h hc (by decide)) rfl rfl rfl g19 (grow_i g19) dX1_copy_170 ?_
    obtain ⟨v20, q21, hx⟩ := gb_e hx
    refine q_kv (q_rS (As := [.ref (gad Y d (24 + (b2).toNatClampNeg)), .ref (gad Y c (24 + (b2).toNatClampNeg))]) (rest := []) hC mm_X1_copyRow wM_X1_71 (c_X1_copyRow (gV_hr 8 hd g18 (by decide)) (gl_of (by decide) g18) (gV_hr 8 hc g19 (by decide)) (gl_of (by decide) g19) q21) ⟨rfl, rfl, Nat.le_of_ble_eq_true rfl, Nat.le_of_ble_eq_true rfl⟩ rfl rfl (Nat.le_of_ble_eq_true rfl) dX1_copy_171) ?_
    refine q_iinc hC 2 1 [(2, .int (b2 + 1)), (0, .ref (gad Y c 0)), (1, .ref (gad Y d 0))] dX1_copy_174 rfl rfl (by decide) rfl ?_
    refine q_goto hC 138 dX1_copy_177 rfl ?_
    exact q_sub [1, 2, 0] rfl (kI (b2 + 1, v20) (Option.some.inj hx).symm)
set_option maxRecDepth 100000 in
set_option maxHeartbeats 4000000 in
theorem c_X1_copy {l : Launch} {Y : gY} {M : gMem} {c : Nat} {d : Nat} {r : gMem} (hc : c < 4) (hd : d < 4) (hx : x_X1_copy M c d = some r) : Met l yX1_copy (gws yX1_copy cX1_copy 3 none) { frames := 2, cells := 0, slots := 0, locals := 62 } (va_Pc [.ref (gad Y c 0), .ref (gad Y d 0)] (gS0 Y M)) (gQv Y r) 0 0 (gA Y) := by
  refine gmet (lv := [(0, .ref (gad Y c 0)), (1, .ref (gad Y d 0))]) "GuestStaff$House" (by decide) rfl (Nat.le_of_ble_eq_true rfl) rfl (fun X hC hF => ?_)
  unfold x_X1_copy at hx
  refine q_aload_n hC 0 dX1_copy_0 rfl rfl ?_
  refine q_aload_n hC 1 dX1_copy_1 rfl rfl ?_
  refine gf_X1_55 hC hd dX1_copy_2 ?_
  refine pf_X1_55 hC hc dX1_copy_5 ?_
  refine q_aload_n hC 0 dX1_copy_8 rfl rfl ?_
  refine q_aload_n hC 1 dX1_copy_9 rfl rfl ?_
  refine gf_X1_58 hC hd dX1_copy_10 ?_
  refine pf_X1_58 hC hc dX1_copy_13 ?_
  refine q_aload_n hC 0 dX1_copy_16 rfl rfl ?_
  refine q_aload_n hC 1 dX1_copy_17 rfl rfl ?_
  refine gf_X1_61 hC hd dX1_copy_18 ?_
  refine pf_X1_61 hC hc dX1_copy_21 ?_
  refine q_aload_n hC 1 dX1_copy_24 rfl rfl ?_
  refine gf_X1_9 hC hd dX1_copy_25 ?_
  refine q_aload_n hC 0 dX1_copy_28 rfl rfl ?_
  refine gf_X1_9 hC hc dX1_copy_29 ?_
  obtain ⟨v1, q2, hx⟩ := gb_e hx
  refine q_kv (q_rS (As := [.ref (gad Y d 1), .ref (gad Y c 1)]) (rest := []) hC mm_X1_copyRow wM_X1_71 (c_X1_copyRow (gV_h hd (by decide)) rfl (gV_h hc (by decide)) rfl q2) ⟨rfl, rfl, Nat.le_of_ble_eq_true rfl, Nat.le_of_ble_eq_true rfl⟩ rfl rfl (Nat.le_of_ble_eq_true rfl) dX1_copy_32) ?_
  refine q_aload_n hC 1 dX1_copy_35 rfl rfl ?_
  refine gf_X1_15 hC hd dX1_copy_36 ?_
  refine q_aload_n hC 0 dX1_copy_39 rfl rfl ?_
  refine gf_X1_15 hC hc dX1_copy_40 ?_
  obtain ⟨v3, q4, hx⟩ := gb_e hx
  refine q_kv (q_rS (As := [.ref (gad Y d 2), .ref (gad Y c 2)]) (rest := []) hC mm_X1_copyRow wM_X1_71 (c_X1_copyRow (gV_h hd (by decide)) rfl (gV_h hc (by decide)) rfl q4) ⟨rfl, rfl, Nat.le_of_ble_eq_true rfl, Nat.le_of_ble_eq_true rfl⟩ rfl rfl (Nat.le_of_ble_eq_true rfl) dX1_copy_43) ?_
  refine q_aload_n hC 1 dX1_copy_46 rfl rfl ?_
  refine gf_X1_18 hC hd dX1_copy_47 ?_
  refine q_aload_n hC 0 dX1_copy_50 rfl rfl ?_
  refine gf_X1_18 hC hc dX1_copy_51 ?_
  obtain ⟨v5, q6, hx⟩ := gb_e hx
  refine q_kv (q_rS (As := [.ref (gad Y d 3), .ref (gad Y c 3)]) (rest := []) hC mm_X1_copyRow wM_X1_71 (c_X1_copyRow (gV_h hd (by decide)) rfl (gV_h hc (by decide)) rfl q6) ⟨rfl, rfl, Nat.le_of_ble_eq_true rfl, Nat.le_of_ble_eq_true rfl⟩ rfl rfl (Nat.le_of_ble_eq_true rfl) dX1_copy_54) ?_
  refine q_aload_n hC 1 dX1_copy_57 rfl rfl ?_
  refine gf_X1_21 hC hd dX1_copy_58 ?_
  refine q_aload_n hC 0 dX1_copy_61 rfl rfl ?_
  refine gf_X1_21 hC hc dX1_copy_62 ?_
  obtain ⟨v7, q8, hx⟩ := gb_e hx
  refine q_kv (q_rS (As := [.ref (gad Y d 4), .ref (gad Y c 4)]) (rest := []) hC mm_X1_copyRow wM_X1_71 (c_X1_copyRow (gV_h hd (by decide)) rfl (gV_h hc (by decide)) rfl q8) ⟨rfl, rfl, Nat.le_of_ble_eq_true rfl, Nat.le_of_ble_eq_true rfl⟩ rfl rfl (Nat.le_of_ble_eq_true rfl) dX1_copy_65) ?_
  refine q_aload_n hC 1 dX1_copy_68 rfl rfl ?_
  refine gf_X1_24 hC hd dX1_copy_69 ?_
  refine q_aload_n hC 0 dX1_copy_72 rfl rfl ?_
  refine gf_X1_24 hC hc dX1_copy_73 ?_
  obtain ⟨v9, q10, hx⟩ := gb_e hx
  refine q_kv (q_rS (As := [.ref (gad Y d 5), .ref (gad Y c 5)]) (rest := []) hC mm_X1_copyRow wM_X1_71 (c_X1_copyRow (gV_h hd (by decide)) rfl (gV_h hc (by decide)) rfl q10) ⟨rfl, rfl, Nat.le_of_ble_eq_true rfl, Nat.le_of_ble_eq_true rfl⟩ rfl rfl (Nat.le_of_ble_eq_true rfl) dX1_copy_76) ?_
  refine q_aload_n hC 0 dX1_copy_79 rfl rfl ?_
  refine gf_X1_30 hC hc dX1_copy_80 ?_
  refine q_aload_n hC 1 dX1_copy_83 rfl rfl ?_
  refine gf_X1_30 hC hd dX1_copy_84 ?_
  obtain ⟨v11, q12, hx⟩ := gb_e hx
  refine q_kv (q_rV (As := [.ref (gad Y d 6)]) (rest := []) hC mm_X3_copy wM_X1_75 (c_X3_copy hc hd q12) ⟨rfl, rfl, Nat.le_of_ble_eq_true rfl, Nat.le_of_ble_eq_true rfl⟩ (gV_h hc (by decide)) rfl rfl rfl rfl (Nat.le_of_ble_eq_true rfl) dX1_copy_87) ?_
  refine q_aload_n hC 0 dX1_copy_90 rfl rfl ?_
  refine q_aload_n hC 1 dX1_copy_91 rfl rfl ?_
  refine gf_X1_48 hC hd dX1_copy_92 ?_
  refine pf_X1_48 hC hc dX1_copy_95 ?_
  refine q_aload_n hC 0 dX1_copy_98 rfl rfl ?_
  refine q_aload_n hC 1 dX1_copy_99 rfl rfl ?_
  refine gf_X1_52 hC hd dX1_copy_100 ?_
  refine pf_X1_52 hC hc dX1_copy_103 ?_
  refine q_aload_n hC 1 dX1_copy_106 rfl rfl ?_
  refine gf_X1_42 hC hd dX1_copy_107 ?_
  refine q_iconst hC 0 dX1_copy_110 rfl ?_
  refine q_aload_n hC 0 dX1_copy_111 rfl rfl ?_
  refine gf_X1_42 hC hc dX1_copy_112 ?_
  refine q_iconst hC 0 dX1_copy_115 rfl ?_
  refine q_bipush hC 8 dX1_copy_116 rfl ?_
  refine q_copy hC 7 7 (gV_h hd (by decide)) (gV_h hc (by decide)) rfl rfl wM_X1_79 (by decide) wcopy (by decide) (Nat.le_of_ble_eq_true rfl) dX1_copy_118 ?_
  refine q_aload_n hC 1 dX1_copy_121 rfl rfl ?_
  refine gf_X1_45 hC hd dX1_copy_122 ?_
  refine q_iconst hC 0 dX1_copy_125 rfl ?_
  refine q_aload_n hC 0 dX1_copy_126 rfl rfl ?_
  refine gf_X1_45 hC hc dX1_copy_127 ?_
  refine q_iconst hC 0 dX1_copy_130 rfl ?_
  refine q_bipush hC 8 dX1_copy_131 rfl ?_
  refine q_copy hC 7 7 (gV_h hd (by decide)) (gV_h hc (by decide)) rfl rfl wM_X1_79 (by decide) wcopy (by decide) (Nat.le_of_ble_eq_true rfl) dX1_copy_133 ?_
  refine q_iconst hC 0 dX1_copy_136 rfl ?_
  refine q_istore_n hC [(2, .int 0), (0, .ref (gad Y c 0)), (1, .ref (gad Y d 0))] dX1_copy_137 rfl (by decide) rfl ?_
  obtain ⟨e22, qe22, hx⟩ := gb_e hx
  refine q_sub [1, 2, 0] rfl (w_X1_copy_138 hC hF hc hd (e := e22) (fun s q => ?_) _ _ qe22)
  · subst q
    exact q_vret hC hF dX1_copy_180 (Option.some.inj hx)

theorem dX1_isGuest_0 : decode cX1_isGuest 0 = .ok (.iload_n 1, 1) := by decide +kernel
theorem dX1_isGuest_1 : decode cX1_isGuest 1 = .ok (.ifCond .lt 15, 3) := by decide +kernel
theorem dX1_isGuest_4 : decode cX1_isGuest 4 = .ok (.iload_n 1, 1) := by decide +kernel
theorem dX1_isGuest_5 : decode cX1_isGuest 5 = .ok (.aload_n 0, 1) := by decide +kernel
theorem dX1_isGuest_6 : decode cX1_isGuest 6 = .ok (.getfield 55, 3) := by decide +kernel
theorem dX1_isGuest_9 : decode cX1_isGuest 9 = .ok (.if_icmp .ge 7, 3) := by decide +kernel
theorem dX1_isGuest_12 : decode cX1_isGuest 12 = .ok (.iconst 1, 1) := by decide +kernel
theorem dX1_isGuest_13 : decode cX1_isGuest 13 = .ok (.goto 4, 3) := by decide +kernel
theorem dX1_isGuest_16 : decode cX1_isGuest 16 = .ok (.iconst 0, 1) := by decide +kernel
theorem dX1_isGuest_17 : decode cX1_isGuest 17 = .ok (.ireturn, 1) := by decide +kernel
def x_X1_isGuest (M : gMem) (c : Nat) (p1 : Int32) : Option Int32 := (if p1 < 0 then some 0 else (if (M.1 c 0 13) ≤ p1 then some 0 else some 1))
set_option maxRecDepth 100000 in
set_option maxHeartbeats 4000000 in
theorem c_X1_isGuest {l : Launch} {Y : gY} {M : gMem} {c : Nat} {p1 : Int32} {r : Int32} (hc : c < 4) (hx : x_X1_isGuest M c p1 = some r) : Met l yX1_isGuest (gws yX1_isGuest cX1_isGuest 2 (some .boolean)) { frames := 0, cells := 0, slots := 0, locals := 0 } (va_Pc [.ref (gad Y c 0), .int p1] (gS0 Y M)) (gQz Y (r, M)) 0 0 (gA Y) := by
  refine gmet (lv := [(0, .ref (gad Y c 0)), (1, .int p1)]) "GuestStaff$House" (by decide) rfl (Nat.le_of_ble_eq_true rfl) rfl (fun X hC hF => ?_)
  unfold x_X1_isGuest at hx
  refine q_iload_n hC 1 dX1_isGuest_0 rfl rfl ?_
  refine q_if_lt hC 16 dX1_isGuest_1 rfl (fun h1 => ?_) (fun h1 => ?_)
  · have hx := gi_p h1 hx
    refine q_iconst hC 0 dX1_isGuest_16 rfl ?_
    exact q_zret hC hF dX1_isGuest_17 (Or.inl rfl) (congrArg (fun z => (z, M)) (Option.some.inj hx))
  · have hx := gi_n h1 hx
    refine q_iload_n hC 1 dX1_isGuest_4 rfl rfl ?_
    refine q_aload_n hC 0 dX1_isGuest_5 rfl rfl ?_
    refine gf_X1_55 hC hc dX1_isGuest_6 ?_
    refine q_ic_ge hC 16 dX1_isGuest_9 rfl (fun h2 => ?_) (fun h2 => ?_)
    · have hx := gi_p h2 hx
      refine q_iconst hC 0 dX1_isGuest_16 rfl ?_
      exact q_zret hC hF dX1_isGuest_17 (Or.inl rfl) (congrArg (fun z => (z, M)) (Option.some.inj hx))
    · have hx := gi_n h2 hx
      refine q_iconst hC 1 dX1_isGuest_12 rfl ?_
      refine q_goto hC 17 dX1_isGuest_13 rfl ?_
      exact q_zret hC hF dX1_isGuest_17 (Or.inr rfl) (congrArg (fun z => (z, M)) (Option.some.inj hx))

theorem dX1_admit_0 : decode cX1_admit 0 = .ok (.aload_n 0, 1) := by decide +kernel
theorem dX1_admit_1 : decode cX1_admit 1 = .ok (.getfield 55, 3) := by decide +kernel
theorem dX1_admit_4 : decode cX1_admit 4 = .ok (.istore 4, 2) := by decide +kernel
theorem dX1_admit_6 : decode cX1_admit 6 = .ok (.aload_n 0, 1) := by decide +kernel
theorem dX1_admit_7 : decode cX1_admit 7 = .ok (.getfield 9, 3) := by decide +kernel
theorem dX1_admit_10 : decode cX1_admit 10 = .ok (.iload 4, 2) := by decide +kernel
theorem dX1_admit_12 : decode cX1_admit 12 = .ok (.iload_n 1, 1) := by decide +kernel
theorem dX1_admit_13 : decode cX1_admit 13 = .ok (.iastore, 1) := by decide +kernel
theorem dX1_admit_14 : decode cX1_admit 14 = .ok (.aload_n 0, 1) := by decide +kernel
theorem dX1_admit_15 : decode cX1_admit 15 = .ok (.getfield 15, 3) := by decide +kernel
theorem dX1_admit_18 : decode cX1_admit 18 = .ok (.iload 4, 2) := by decide +kernel
theorem dX1_admit_20 : decode cX1_admit 20 = .ok (.iload_n 2, 1) := by decide +kernel
theorem dX1_admit_21 : decode cX1_admit 21 = .ok (.iastore, 1) := by decide +kernel
theorem dX1_admit_22 : decode cX1_admit 22 = .ok (.aload_n 0, 1) := by decide +kernel
theorem dX1_admit_23 : decode cX1_admit 23 = .ok (.getfield 18, 3) := by decide +kernel
theorem dX1_admit_26 : decode cX1_admit 26 = .ok (.iload 4, 2) := by decide +kernel
theorem dX1_admit_28 : decode cX1_admit 28 = .ok (.iload_n 3, 1) := by decide +kernel
theorem dX1_admit_29 : decode cX1_admit 29 = .ok (.iastore, 1) := by decide +kernel
theorem dX1_admit_30 : decode cX1_admit 30 = .ok (.aload_n 0, 1) := by decide +kernel
theorem dX1_admit_31 : decode cX1_admit 31 = .ok (.getfield 21, 3) := by decide +kernel
theorem dX1_admit_34 : decode cX1_admit 34 = .ok (.iload 4, 2) := by decide +kernel
theorem dX1_admit_36 : decode cX1_admit 36 = .ok (.iconst (-1), 1) := by decide +kernel
theorem dX1_admit_37 : decode cX1_admit 37 = .ok (.iastore, 1) := by decide +kernel
theorem dX1_admit_38 : decode cX1_admit 38 = .ok (.aload_n 0, 1) := by decide +kernel
theorem dX1_admit_39 : decode cX1_admit 39 = .ok (.getfield 24, 3) := by decide +kernel
theorem dX1_admit_42 : decode cX1_admit 42 = .ok (.iload 4, 2) := by decide +kernel
theorem dX1_admit_44 : decode cX1_admit 44 = .ok (.bipush 10, 2) := by decide +kernel
theorem dX1_admit_46 : decode cX1_admit 46 = .ok (.iastore, 1) := by decide +kernel
theorem dX1_admit_47 : decode cX1_admit 47 = .ok (.aload_n 0, 1) := by decide +kernel
theorem dX1_admit_48 : decode cX1_admit 48 = .ok (.dup, 1) := by decide +kernel
theorem dX1_admit_49 : decode cX1_admit 49 = .ok (.getfield 55, 3) := by decide +kernel
theorem dX1_admit_52 : decode cX1_admit 52 = .ok (.iconst 1, 1) := by decide +kernel
theorem dX1_admit_53 : decode cX1_admit 53 = .ok (.iadd, 1) := by decide +kernel
theorem dX1_admit_54 : decode cX1_admit 54 = .ok (.putfield 55, 3) := by decide +kernel
theorem dX1_admit_57 : decode cX1_admit 57 = .ok (.aload_n 0, 1) := by decide +kernel
theorem dX1_admit_58 : decode cX1_admit 58 = .ok (.iconst 0, 1) := by decide +kernel
theorem dX1_admit_59 : decode cX1_admit 59 = .ok (.putfield 52, 3) := by decide +kernel
theorem dX1_admit_62 : decode cX1_admit 62 = .ok (.iload 4, 2) := by decide +kernel
theorem dX1_admit_64 : decode cX1_admit 64 = .ok (.ireturn, 1) := by decide +kernel
def x_X1_admit (M : gMem) (c : Nat) (p1 : Int32) (p2 : Int32) (p3 : Int32) : Option (Int32 × gMem) := gd (gin (M.1 c 0 13) 7) (gd (gin (M.1 c 0 13) 7) (gd (gin (M.1 c 0 13) 7) (gd (gin (M.1 c 0 13) 7) (gd (gin (M.1 c 0 13) 7) (some (M.1 c 0 13, gwr (gwr (gwr (gwr (gwr (gwr (gwr M c 1 (M.1 c 0 13).toNatClampNeg p1) c 2 (M.1 c 0 13).toNatClampNeg p2) c 3 (M.1 c 0 13).toNatClampNeg p3) c 4 (M.1 c 0 13).toNatClampNeg (-1)) c 5 (M.1 c 0 13).toNatClampNeg 10) c 0 13 (((gwr (gwr (gwr (gwr (gwr M c 1 (M.1 c 0 13).toNatClampNeg p1) c 2 (M.1 c 0 13).toNatClampNeg p2) c 3 (M.1 c 0 13).toNatClampNeg p3) c 4 (M.1 c 0 13).toNatClampNeg (-1)) c 5 (M.1 c 0 13).toNatClampNeg 10).1 c 0 13) + 1)) c 0 12 0))))))
set_option maxRecDepth 100000 in
set_option maxHeartbeats 4000000 in
theorem c_X1_admit {l : Launch} {Y : gY} {M : gMem} {c : Nat} {p1 : Int32} {p2 : Int32} {p3 : Int32} {r : (Int32 × gMem)} (hc : c < 4) (hx : x_X1_admit M c p1 p2 p3 = some r) : Met l yX1_admit (gws yX1_admit cX1_admit 5 (some .int)) { frames := 0, cells := 0, slots := 0, locals := 0 } (va_Pc [.ref (gad Y c 0), .int p1, .int p2, .int p3] (gS0 Y M)) (gQi Y r) 0 0 (gA Y) := by
  refine gmet (lv := [(0, .ref (gad Y c 0)), (1, .int p1), (2, .int p2), (3, .int p3)]) "GuestStaff$House" (by decide) rfl (Nat.le_of_ble_eq_true rfl) rfl (fun X hC hF => ?_)
  unfold x_X1_admit at hx
  refine q_aload_n hC 0 dX1_admit_0 rfl rfl ?_
  refine gf_X1_55 hC hc dX1_admit_1 ?_
  refine q_istore hC [(4, .int (M.1 c 0 13)), (0, .ref (gad Y c 0)), (1, .int p1), (2, .int p2), (3, .int p3)] dX1_admit_4 (by decide) rfl ?_
  refine q_aload_n hC 1 dX1_admit_6 rfl rfl ?_
  refine gf_X1_9 hC hc dX1_admit_7 ?_
  refine q_iload hC 0 dX1_admit_10 rfl ?_
  refine q_iload_n hC 2 dX1_admit_12 rfl rfl ?_
  have g1 := (gd_e hx).1
  have hx := (gd_e hx).2
  refine q_iast hC 6 (gV_h hc (by decide)) rfl g1 dX1_admit_13 ?_
  refine q_aload_n hC 1 dX1_admit_14 rfl rfl ?_
  refine gf_X1_15 hC hc dX1_admit_15 ?_
  refine q_iload hC 0 dX1_admit_18 rfl ?_
  refine q_iload_n hC 3 dX1_admit_20 rfl rfl ?_
  have g2 := (gd_e hx).1
  have hx := (gd_e hx).2
  refine q_iast hC 6 (gV_h hc (by decide)) rfl g2 dX1_admit_21 ?_
  refine q_aload_n hC 1 dX1_admit_22 rfl rfl ?_
  refine gf_X1_18 hC hc dX1_admit_23 ?_
  refine q_iload hC 0 dX1_admit_26 rfl ?_
  refine q_iload_n hC 4 dX1_admit_28 rfl rfl ?_
  have g3 := (gd_e hx).1
  have hx := (gd_e hx).2
  refine q_iast hC 6 (gV_h hc (by decide)) rfl g3 dX1_admit_29 ?_
  refine q_aload_n hC 1 dX1_admit_30 rfl rfl ?_
  refine gf_X1_21 hC hc dX1_admit_31 ?_
  refine q_iload hC 0 dX1_admit_34 rfl ?_
  refine q_iconst hC (-1) dX1_admit_36 rfl ?_
  have g4 := (gd_e hx).1
  have hx := (gd_e hx).2
  refine q_iast hC 6 (gV_h hc (by decide)) rfl g4 dX1_admit_37 ?_
  refine q_aload_n hC 1 dX1_admit_38 rfl rfl ?_
  refine gf_X1_24 hC hc dX1_admit_39 ?_
  refine q_iload hC 0 dX1_admit_42 rfl ?_
  refine q_bipush hC 10 dX1_admit_44 rfl ?_
  have g5 := (gd_e hx).1
  have hx := (gd_e hx).2
  refine q_iast hC 6 (gV_h hc (by decide)) rfl g5 dX1_admit_46 ?_
  refine q_aload_n hC 1 dX1_admit_47 rfl rfl ?_
  refine q_dup hC dX1_admit_48 rfl ?_
  refine gf_X1_55 hC hc dX1_admit_49 ?_
  refine q_iconst hC 1 dX1_admit_52 rfl ?_
  refine q_iadd hC dX1_admit_53 ?_
  refine pf_X1_55 hC hc dX1_admit_54 ?_
  refine q_aload_n hC 1 dX1_admit_57 rfl rfl ?_
  refine q_iconst hC 0 dX1_admit_58 rfl ?_
  refine pf_X1_52 hC hc dX1_admit_59 ?_
  refine q_iload hC 0 dX1_admit_62 rfl ?_
  exact q_iret hC hF dX1_admit_64 (Option.some.inj hx)

theorem dX1_canServe_0 : decode cX1_canServe 0 = .ok (.aload_n 0, 1) := by decide +kernel
theorem dX1_canServe_1 : decode cX1_canServe 1 = .ok (.getfield 18, 3) := by decide +kernel
theorem dX1_canServe_4 : decode cX1_canServe 4 = .ok (.iload_n 1, 1) := by decide +kernel
theorem dX1_canServe_5 : decode cX1_canServe 5 = .ok (.iaload, 1) := by decide +kernel
theorem dX1_canServe_6 : decode cX1_canServe 6 = .ok (.aload_n 0, 1) := by decide +kernel
theorem dX1_canServe_7 : decode cX1_canServe 7 = .ok (.getfield 15, 3) := by decide +kernel
theorem dX1_canServe_10 : decode cX1_canServe 10 = .ok (.iload_n 2, 1) := by decide +kernel
theorem dX1_canServe_11 : decode cX1_canServe 11 = .ok (.iaload, 1) := by decide +kernel
theorem dX1_canServe_12 : decode cX1_canServe 12 = .ok (.ishr, 1) := by decide +kernel
theorem dX1_canServe_13 : decode cX1_canServe 13 = .ok (.iconst 1, 1) := by decide +kernel
theorem dX1_canServe_14 : decode cX1_canServe 14 = .ok (.iand, 1) := by decide +kernel
theorem dX1_canServe_15 : decode cX1_canServe 15 = .ok (.ifCond .eq 7, 3) := by decide +kernel
theorem dX1_canServe_18 : decode cX1_canServe 18 = .ok (.iconst 1, 1) := by decide +kernel
theorem dX1_canServe_19 : decode cX1_canServe 19 = .ok (.goto 4, 3) := by decide +kernel
theorem dX1_canServe_22 : decode cX1_canServe 22 = .ok (.iconst 0, 1) := by decide +kernel
theorem dX1_canServe_23 : decode cX1_canServe 23 = .ok (.ireturn, 1) := by decide +kernel
def x_X1_canServe (M : gMem) (c : Nat) (p1 : Int32) (p2 : Int32) : Option Int32 := gd (gin p1 7) (gd (gin p2 7) ((if (((M.1 c 3 (p1).toNatClampNeg) >>> ((M.1 c 2 (p2).toNatClampNeg) &&& 31)) &&& 1) = 0 then some 0 else some 1)))
set_option maxRecDepth 100000 in
set_option maxHeartbeats 4000000 in
theorem c_X1_canServe {l : Launch} {Y : gY} {M : gMem} {c : Nat} {p1 : Int32} {p2 : Int32} {r : Int32} (hc : c < 4) (hx : x_X1_canServe M c p1 p2 = some r) : Met l yX1_canServe (gws yX1_canServe cX1_canServe 3 (some .boolean)) { frames := 0, cells := 0, slots := 0, locals := 0 } (va_Pc [.ref (gad Y c 0), .int p1, .int p2] (gS0 Y M)) (gQz Y (r, M)) 0 0 (gA Y) := by
  refine gmet (lv := [(0, .ref (gad Y c 0)), (1, .int p1), (2, .int p2)]) "GuestStaff$House" (by decide) rfl (Nat.le_of_ble_eq_true rfl) rfl (fun X hC hF => ?_)
  unfold x_X1_canServe at hx
  refine q_aload_n hC 0 dX1_canServe_0 rfl rfl ?_
  refine gf_X1_18 hC hc dX1_canServe_1 ?_
  refine q_iload_n hC 1 dX1_canServe_4 rfl rfl ?_
  have g1 := (gd_e hx).1
  have hx := (gd_e hx).2
  refine q_iald hC 6 (gV_h hc (by decide)) rfl g1 dX1_canServe_5 ?_
  refine q_aload_n hC 0 dX1_canServe_6 rfl rfl ?_
  refine gf_X1_15 hC hc dX1_canServe_7 ?_
  refine q_iload_n hC 2 dX1_canServe_10 rfl rfl ?_
  have g2 := (gd_e hx).1
  have hx := (gd_e hx).2
  refine q_iald hC 6 (gV_h hc (by decide)) rfl g2 dX1_canServe_11 ?_
  refine q_ishr hC dX1_canServe_12 ?_
  refine q_iconst hC 1 dX1_canServe_13 rfl ?_
  refine q_iand hC dX1_canServe_14 ?_
  refine q_if_eq hC 22 dX1_canServe_15 rfl (fun h3 => ?_) (fun h3 => ?_)
  · have hx := gi_p h3 hx
    refine q_iconst hC 0 dX1_canServe_22 rfl ?_
    exact q_zret hC hF dX1_canServe_23 (Or.inl rfl) (congrArg (fun z => (z, M)) (Option.some.inj hx))
  · have hx := gi_n h3 hx
    refine q_iconst hC 1 dX1_canServe_18 rfl ?_
    refine q_goto hC 23 dX1_canServe_19 rfl ?_
    exact q_zret hC hF dX1_canServe_23 (Or.inr rfl) (congrArg (fun z => (z, M)) (Option.some.inj hx))

theorem dX1_isServable_0 : decode cX1_isServable 0 = .ok (.iconst 0, 1) := by decide +kernel
theorem dX1_isServable_1 : decode cX1_isServable 1 = .ok (.istore_n 2, 1) := by decide +kernel
theorem dX1_isServable_2 : decode cX1_isServable 2 = .ok (.iload_n 2, 1) := by decide +kernel
theorem dX1_isServable_3 : decode cX1_isServable 3 = .ok (.aload_n 0, 1) := by decide +kernel
theorem dX1_isServable_4 : decode cX1_isServable 4 = .ok (.getfield 55, 3) := by decide +kernel
theorem dX1_isServable_7 : decode cX1_isServable 7 = .ok (.if_icmp .ge 25, 3) := by decide +kernel
theorem dX1_isServable_10 : decode cX1_isServable 10 = .ok (.iload_n 2, 1) := by decide +kernel
theorem dX1_isServable_11 : decode cX1_isServable 11 = .ok (.iload_n 1, 1) := by decide +kernel
theorem dX1_isServable_12 : decode cX1_isServable 12 = .ok (.if_icmp .eq 14, 3) := by decide +kernel
theorem dX1_isServable_15 : decode cX1_isServable 15 = .ok (.aload_n 0, 1) := by decide +kernel
theorem dX1_isServable_16 : decode cX1_isServable 16 = .ok (.iload_n 2, 1) := by decide +kernel
theorem dX1_isServable_17 : decode cX1_isServable 17 = .ok (.iload_n 1, 1) := by decide +kernel
theorem dX1_isServable_18 : decode cX1_isServable 18 = .ok (.invokevirtual 85, 3) := by decide +kernel
theorem dX1_isServable_21 : decode cX1_isServable 21 = .ok (.ifCond .eq 5, 3) := by decide +kernel
theorem dX1_isServable_24 : decode cX1_isServable 24 = .ok (.iconst 1, 1) := by decide +kernel
theorem dX1_isServable_25 : decode cX1_isServable 25 = .ok (.ireturn, 1) := by decide +kernel
theorem dX1_isServable_26 : decode cX1_isServable 26 = .ok (.iinc 2 1, 3) := by decide +kernel
theorem dX1_isServable_29 : decode cX1_isServable 29 = .ok (.goto (-27), 3) := by decide +kernel
theorem dX1_isServable_32 : decode cX1_isServable 32 = .ok (.iconst 0, 1) := by decide +kernel
theorem dX1_isServable_33 : decode cX1_isServable 33 = .ok (.ireturn, 1) := by decide +kernel
def j_X1_isServable_2_26 (M : gMem) (c : Nat) (a1 : Int32) (b2 : Int32) : Option (Int32 ⊕ (Int32 ⊕ Int32)) := some (.inl (b2 + 1))
def s_X1_isServable_2 (M : gMem) (c : Nat) (a1 : Int32) (b2 : Int32) : Option (Int32 ⊕ (Int32 ⊕ Int32)) := (if (M.1 c 0 13) ≤ b2 then some (.inr (.inl b2)) else (if b2 = a1 then j_X1_isServable_2_26 M c a1 b2 else Option.bind (x_X1_canServe M c b2 a1) (fun v3 => (if v3 = 0 then j_X1_isServable_2_26 M c a1 b2 else some (.inr (.inr 1))))))
def x_X1_isServable (M : gMem) (c : Nat) (p1 : Int32) : Option Int32 := Option.bind (itr FU (fun s => s_X1_isServable_2 M c p1 s) 0) (fun e7 => Sum.elim (fun s8 => some 0) (fun z9 => some z9) e7)
set_option maxRecDepth 100000 in
set_option maxHeartbeats 4000000 in
theorem w_X1_isServable_2 {X : gX} {Y : gY} {M : gMem} {c : Nat} {a1 : Int32} {r : Int32} (hC : gC X Y cX1_isServable "GuestStaff$House" 3 1 22) (hF : gF X Y (some .boolean) (gQz Y (r, M))) (hc : c < 4) {e : (Int32 ⊕ Int32)} (kE : ∀ s : Int32, e = .inl s → gWW X Y 3 32 [] [] M) (kR : ∀ z : Int32, e = .inr z → z = r) : ∀ (F : Nat) (s : Int32), itr F (fun s => s_X1_isServable_2 M c a1 s) s = some e → gWW X Y 3 2 [(0, .ref (gad Y c 0)), (1, .int a1), (2, .int s)] [] M := by
  intro F s
  refine itr_w (P := fun s => gWW X Y 3 2 [(0, .ref (gad Y c 0)), (1, .int a1), (2, .int s)] [] M) (fun s o hx kI kx => ?_) F s
  obtain ⟨b2, rfl⟩ : ∃ z, z = s := ⟨s, rfl⟩
  have hx : s_X1_isServable_2 M c a1 b2 = some o := hx
  have kE : ∀ s : Int32, o = .inr (.inl s) → gWW X Y 3 32 [] [] M := fun s q => kE s (kx _ q).symm
  have kR : ∀ z : Int32, o = .inr (.inr z) → z = r := fun z q => kR z (kx _ q).symm
  have J26 : ∀ (b2 : Int32) , j_X1_isServable_2_26 M c a1 b2 = some o → gWW X Y 3 26 [(0, .ref (gad Y c 0)), (1, .int a1), (2, .int b2)] [] M := by
    intro b2 hx
    unfold j_X1_isServable_2_26 at hx
    refine q_iinc hC 2 1 [(2, .int (b2 + 1)), (0, .ref (gad Y c 0)), (1, .int a1)] dX1_isServable_26 rfl rfl (by decide) rfl ?_
    refine q_goto hC 2 dX1_isServable_29 rfl ?_
    exact q_sub [1, 2, 0] rfl (kI (b2 + 1) (Option.some.inj hx).symm)
  unfold s_X1_isServable_2 at hx
  refine q_iload_n hC 2 dX1_isServable_2 rfl rfl ?_
  refine q_aload_n hC 0 dX1_isServable_3 rfl rfl ?_
  refine gf_X1_55 hC hc dX1_isServable_4 ?_
  refine q_ic_ge hC 32 dX1_isServable_7 rfl (fun h1 => ?_) (fun h1 => ?_)
  · have hx := gi_p h1 hx
    exact q_sub [] rfl (kE b2 (Option.some.inj hx).symm)
  · have hx := gi_n h1 hx
    refine q_iload_n hC 2 dX1_isServable_10 rfl rfl ?_
    refine q_iload_n hC 1 dX1_isServable_11 rfl rfl ?_
    refine q_ic_eq hC 26 dX1_isServable_12 rfl (fun h2 => ?_) (fun h2 => ?_)
    · have hx := gi_p h2 hx
      exact q_sub [0, 1, 2] rfl (J26 b2 hx)
    · have hx := gi_n h2 hx
      refine q_aload_n hC 0 dX1_isServable_15 rfl rfl ?_
      refine q_iload_n hC 2 dX1_isServable_16 rfl rfl ?_
      refine q_iload_n hC 1 dX1_isServable_17 rfl rfl ?_
      obtain ⟨v3, q4, hx⟩ := gb_e hx
      refine q_kzp (q_rV (As := [.int b2, .int a1]) (rest := []) hC mm_X1_canServe wM_X1_85 (c_X1_canServe hc q4) ⟨rfl, rfl, Nat.le_of_ble_eq_true rfl, Nat.le_of_ble_eq_true rfl⟩ (gV_h hc (by decide)) rfl rfl rfl rfl (Nat.le_of_ble_eq_true rfl) dX1_isServable_18) (fun z5 => ?_)
      refine q_if_eq hC 26 dX1_isServable_21 rfl (fun h6 => ?_) (fun h6 => ?_)
      · have hx := gi_p h6 hx
        exact q_sub [0, 1, 2] rfl (J26 b2 hx)
      · have hx := gi_n h6 hx
        refine q_iconst hC 1 dX1_isServable_24 rfl ?_
        exact q_zret hC hF dX1_isServable_25 (Or.inr rfl) (congrArg (fun z => (z, M)) (kR _ (Option.some.inj hx).symm))
set_option maxRecDepth 100000 in
set_option maxHeartbeats 4000000 in
theorem c_X1_isServable {l : Launch} {Y : gY} {M : gMem} {c : Nat} {p1 : Int32} {r : Int32} (hc : c < 4) (hx : x_X1_isServable M c p1 = some r) : Met l yX1_isServable (gws yX1_isServable cX1_isServable 3 (some .boolean)) { frames := 1, cells := 0, slots := 0, locals := 22 } (va_Pc [.ref (gad Y c 0), .int p1] (gS0 Y M)) (gQz Y (r, M)) 0 0 (gA Y) := by
  refine gmet (lv := [(0, .ref (gad Y c 0)), (1, .int p1)]) "GuestStaff$House" (by decide) rfl (Nat.le_of_ble_eq_true rfl) rfl (fun X hC hF => ?_)
  unfold x_X1_isServable at hx
  refine q_iconst hC 0 dX1_isServable_0 rfl ?_
  refine q_istore_n hC [(2, .int 0), (0, .ref (gad Y c 0)), (1, .int p1)] dX1_isServable_1 rfl (by decide) rfl ?_
  obtain ⟨e7, qe7, hx⟩ := gb_e hx
  refine q_sub [1, 2, 0] rfl (w_X1_isServable_2 hC hF hc (e := e7) (fun s8 qs8 => ?_) (fun z9 qz9 => ?_) _ _ qe7)
  · subst qs8
    refine q_iconst hC 0 dX1_isServable_32 rfl ?_
    exact q_zret hC hF dX1_isServable_33 (Or.inl rfl) (congrArg (fun z => (z, M)) (Option.some.inj hx))
  · subst qz9
    exact Option.some.inj hx

theorem dX1_doesServe_0 : decode cX1_doesServe 0 = .ok (.aload_n 0, 1) := by decide +kernel
theorem dX1_doesServe_1 : decode cX1_doesServe 1 = .ok (.getfield 21, 3) := by decide +kernel
theorem dX1_doesServe_4 : decode cX1_doesServe 4 = .ok (.iload_n 1, 1) := by decide +kernel
theorem dX1_doesServe_5 : decode cX1_doesServe 5 = .ok (.iaload, 1) := by decide +kernel
theorem dX1_doesServe_6 : decode cX1_doesServe 6 = .ok (.iload_n 2, 1) := by decide +kernel
theorem dX1_doesServe_7 : decode cX1_doesServe 7 = .ok (.if_icmp .ne 16, 3) := by decide +kernel
theorem dX1_doesServe_10 : decode cX1_doesServe 10 = .ok (.aload_n 0, 1) := by decide +kernel
theorem dX1_doesServe_11 : decode cX1_doesServe 11 = .ok (.iload_n 1, 1) := by decide +kernel
theorem dX1_doesServe_12 : decode cX1_doesServe 12 = .ok (.iload_n 2, 1) := by decide +kernel
theorem dX1_doesServe_13 : decode cX1_doesServe 13 = .ok (.invokevirtual 85, 3) := by decide +kernel
theorem dX1_doesServe_16 : decode cX1_doesServe 16 = .ok (.ifCond .eq 7, 3) := by decide +kernel
theorem dX1_doesServe_19 : decode cX1_doesServe 19 = .ok (.iconst 1, 1) := by decide +kernel
theorem dX1_doesServe_20 : decode cX1_doesServe 20 = .ok (.goto 4, 3) := by decide +kernel
theorem dX1_doesServe_23 : decode cX1_doesServe 23 = .ok (.iconst 0, 1) := by decide +kernel
theorem dX1_doesServe_24 : decode cX1_doesServe 24 = .ok (.ireturn, 1) := by decide +kernel
def x_X1_doesServe (M : gMem) (c : Nat) (p1 : Int32) (p2 : Int32) : Option Int32 := gd (gin p1 7) ((if (M.1 c 4 (p1).toNatClampNeg) = p2 then Option.bind (x_X1_canServe M c p1 p2) (fun v3 => (if v3 = 0 then some 0 else some 1)) else some 0))
set_option maxRecDepth 100000 in
set_option maxHeartbeats 4000000 in
theorem c_X1_doesServe {l : Launch} {Y : gY} {M : gMem} {c : Nat} {p1 : Int32} {p2 : Int32} {r : Int32} (hc : c < 4) (hx : x_X1_doesServe M c p1 p2 = some r) : Met l yX1_doesServe (gws yX1_doesServe cX1_doesServe 3 (some .boolean)) { frames := 1, cells := 0, slots := 0, locals := 22 } (va_Pc [.ref (gad Y c 0), .int p1, .int p2] (gS0 Y M)) (gQz Y (r, M)) 0 0 (gA Y) := by
  refine gmet (lv := [(0, .ref (gad Y c 0)), (1, .int p1), (2, .int p2)]) "GuestStaff$House" (by decide) rfl (Nat.le_of_ble_eq_true rfl) rfl (fun X hC hF => ?_)
  unfold x_X1_doesServe at hx
  refine q_aload_n hC 0 dX1_doesServe_0 rfl rfl ?_
  refine gf_X1_21 hC hc dX1_doesServe_1 ?_
  refine q_iload_n hC 1 dX1_doesServe_4 rfl rfl ?_
  have g1 := (gd_e hx).1
  have hx := (gd_e hx).2
  refine q_iald hC 6 (gV_h hc (by decide)) rfl g1 dX1_doesServe_5 ?_
  refine q_iload_n hC 2 dX1_doesServe_6 rfl rfl ?_
  refine q_ic_ne hC 23 dX1_doesServe_7 rfl (fun h2 => ?_) (fun h2 => ?_)
  · have hx := gi_n h2 hx
    refine q_iconst hC 0 dX1_doesServe_23 rfl ?_
    exact q_zret hC hF dX1_doesServe_24 (Or.inl rfl) (congrArg (fun z => (z, M)) (Option.some.inj hx))
  · have hx := gi_p h2 hx
    refine q_aload_n hC 0 dX1_doesServe_10 rfl rfl ?_
    refine q_iload_n hC 1 dX1_doesServe_11 rfl rfl ?_
    refine q_iload_n hC 2 dX1_doesServe_12 rfl rfl ?_
    obtain ⟨v3, q4, hx⟩ := gb_e hx
    refine q_kzp (q_rV (As := [.int p1, .int p2]) (rest := []) hC mm_X1_canServe wM_X1_85 (c_X1_canServe hc q4) ⟨rfl, rfl, Nat.le_of_ble_eq_true rfl, Nat.le_of_ble_eq_true rfl⟩ (gV_h hc (by decide)) rfl rfl rfl rfl (Nat.le_of_ble_eq_true rfl) dX1_doesServe_13) (fun z5 => ?_)
    refine q_if_eq hC 23 dX1_doesServe_16 rfl (fun h6 => ?_) (fun h6 => ?_)
    · have hx := gi_p h6 hx
      refine q_iconst hC 0 dX1_doesServe_23 rfl ?_
      exact q_zret hC hF dX1_doesServe_24 (Or.inl rfl) (congrArg (fun z => (z, M)) (Option.some.inj hx))
    · have hx := gi_n h6 hx
      refine q_iconst hC 1 dX1_doesServe_19 rfl ?_
      refine q_goto hC 24 dX1_doesServe_20 rfl ?_
      exact q_zret hC hF dX1_doesServe_24 (Or.inr rfl) (congrArg (fun z => (z, M)) (Option.some.inj hx))

theorem dX1_serverOf_0 : decode cX1_serverOf 0 = .ok (.iconst 0, 1) := by decide +kernel
theorem dX1_serverOf_1 : decode cX1_serverOf 1 = .ok (.istore_n 2, 1) := by decide +kernel
theorem dX1_serverOf_2 : decode cX1_serverOf 2 = .ok (.iload_n 2, 1) := by decide +kernel
theorem dX1_serverOf_3 : decode cX1_serverOf 3 = .ok (.aload_n 0, 1) := by decide +kernel
theorem dX1_serverOf_4 : decode cX1_serverOf 4 = .ok (.getfield 55, 3) := by decide +kernel
theorem dX1_serverOf_7 : decode cX1_serverOf 7 = .ok (.if_icmp .ge 20, 3) := by decide +kernel
theorem dX1_serverOf_10 : decode cX1_serverOf 10 = .ok (.aload_n 0, 1) := by decide +kernel
theorem dX1_serverOf_11 : decode cX1_serverOf 11 = .ok (.iload_n 2, 1) := by decide +kernel
theorem dX1_serverOf_12 : decode cX1_serverOf 12 = .ok (.iload_n 1, 1) := by decide +kernel
theorem dX1_serverOf_13 : decode cX1_serverOf 13 = .ok (.invokevirtual 89, 3) := by decide +kernel
theorem dX1_serverOf_16 : decode cX1_serverOf 16 = .ok (.ifCond .eq 5, 3) := by decide +kernel
theorem dX1_serverOf_19 : decode cX1_serverOf 19 = .ok (.iload_n 2, 1) := by decide +kernel
theorem dX1_serverOf_20 : decode cX1_serverOf 20 = .ok (.ireturn, 1) := by decide +kernel
theorem dX1_serverOf_21 : decode cX1_serverOf 21 = .ok (.iinc 2 1, 3) := by decide +kernel
theorem dX1_serverOf_24 : decode cX1_serverOf 24 = .ok (.goto (-22), 3) := by decide +kernel
theorem dX1_serverOf_27 : decode cX1_serverOf 27 = .ok (.iconst (-1), 1) := by decide +kernel
theorem dX1_serverOf_28 : decode cX1_serverOf 28 = .ok (.ireturn, 1) := by decide +kernel
def s_X1_serverOf_2 (M : gMem) (c : Nat) (a1 : Int32) (b2 : Int32) : Option (Int32 ⊕ (Int32 ⊕ Int32)) := (if (M.1 c 0 13) ≤ b2 then some (.inr (.inl b2)) else Option.bind (x_X1_doesServe M c b2 a1) (fun v2 => (if v2 = 0 then some (.inl (b2 + 1)) else some (.inr (.inr b2)))))
def x_X1_serverOf (M : gMem) (c : Nat) (p1 : Int32) : Option Int32 := Option.bind (itr FU (fun s => s_X1_serverOf_2 M c p1 s) 0) (fun e6 => Sum.elim (fun s7 => some (-1)) (fun z8 => some z8) e6)
set_option maxRecDepth 100000 in
set_option maxHeartbeats 4000000 in
theorem w_X1_serverOf_2 {X : gX} {Y : gY} {M : gMem} {c : Nat} {a1 : Int32} {r : Int32} (hC : gC X Y cX1_serverOf "GuestStaff$House" 3 2 44) (hF : gF X Y (some .int) (gQi Y (r, M))) (hc : c < 4) {e : (Int32 ⊕ Int32)} (kE : ∀ s : Int32, e = .inl s → gWW X Y 3 27 [] [] M) (kR : ∀ z : Int32, e = .inr z → z = r) : ∀ (F : Nat) (s : Int32), itr F (fun s => s_X1_serverOf_2 M c a1 s) s = some e → gWW X Y 3 2 [(0, .ref (gad Y c 0)), (1, .int a1), (2, .int s)] [] M := by
  intro F s
  refine itr_w (P := fun s => gWW X Y 3 2 [(0, .ref (gad Y c 0)), (1, .int a1), (2, .int s)] [] M) (fun s o hx kI kx => ?_) F s
  obtain ⟨b2, rfl⟩ : ∃ z, z = s := ⟨s, rfl⟩
  have hx : s_X1_serverOf_2 M c a1 b2 = some o := hx
  have kE : ∀ s : Int32, o = .inr (.inl s) → gWW X Y 3 27 [] [] M := fun s q => kE s (kx _ q).symm
  have kR : ∀ z : Int32, o = .inr (.inr z) → z = r := fun z q => kR z (kx _ q).symm
  unfold s_X1_serverOf_2 at hx
  refine q_iload_n hC 2 dX1_serverOf_2 rfl rfl ?_
  refine q_aload_n hC 0 dX1_serverOf_3 rfl rfl ?_
  refine gf_X1_55 hC hc dX1_serverOf_4 ?_
  refine q_ic_ge hC 27 dX1_serverOf_7 rfl (fun h1 => ?_) (fun h1 => ?_)
  · have hx := gi_p h1 hx
    exact q_sub [] rfl (kE b2 (Option.some.inj hx).symm)
  · have hx := gi_n h1 hx
    refine q_aload_n hC 0 dX1_serverOf_10 rfl rfl ?_
    refine q_iload_n hC 2 dX1_serverOf_11 rfl rfl ?_
    refine q_iload_n hC 1 dX1_serverOf_12 rfl rfl ?_
    obtain ⟨v2, q3, hx⟩ := gb_e hx
    refine q_kzp (q_rV (As := [.int b2, .int a1]) (rest := []) hC mm_X1_doesServe wM_X1_89 (c_X1_doesServe hc q3) ⟨rfl, rfl, Nat.le_of_ble_eq_true rfl, Nat.le_of_ble_eq_true rfl⟩ (gV_h hc (by decide)) rfl rfl rfl rfl (Nat.le_of_ble_eq_true rfl) dX1_serverOf_13) (fun z4 => ?_)
    refine q_if_eq hC 21 dX1_serverOf_16 rfl (fun h5 => ?_) (fun h5 => ?_)
    · have hx := gi_p h5 hx
      refine q_iinc hC 2 1 [(2, .int (b2 + 1)), (0, .ref (gad Y c 0)), (1, .int a1)] dX1_serverOf_21 rfl rfl (by decide) rfl ?_
      refine q_goto hC 2 dX1_serverOf_24 rfl ?_
      exact q_sub [1, 2, 0] rfl (kI (b2 + 1) (Option.some.inj hx).symm)
    · have hx := gi_n h5 hx
      refine q_iload_n hC 2 dX1_serverOf_19 rfl rfl ?_
      exact q_iret hC hF dX1_serverOf_20 (congrArg (fun z => (z, M)) (kR _ (Option.some.inj hx).symm))
set_option maxRecDepth 100000 in
set_option maxHeartbeats 4000000 in
theorem c_X1_serverOf {l : Launch} {Y : gY} {M : gMem} {c : Nat} {p1 : Int32} {r : Int32} (hc : c < 4) (hx : x_X1_serverOf M c p1 = some r) : Met l yX1_serverOf (gws yX1_serverOf cX1_serverOf 3 (some .int)) { frames := 2, cells := 0, slots := 0, locals := 44 } (va_Pc [.ref (gad Y c 0), .int p1] (gS0 Y M)) (gQi Y (r, M)) 0 0 (gA Y) := by
  refine gmet (lv := [(0, .ref (gad Y c 0)), (1, .int p1)]) "GuestStaff$House" (by decide) rfl (Nat.le_of_ble_eq_true rfl) rfl (fun X hC hF => ?_)
  unfold x_X1_serverOf at hx
  refine q_iconst hC 0 dX1_serverOf_0 rfl ?_
  refine q_istore_n hC [(2, .int 0), (0, .ref (gad Y c 0)), (1, .int p1)] dX1_serverOf_1 rfl (by decide) rfl ?_
  obtain ⟨e6, qe6, hx⟩ := gb_e hx
  refine q_sub [1, 2, 0] rfl (w_X1_serverOf_2 hC hF hc (e := e6) (fun s7 qs7 => ?_) (fun z8 qz8 => ?_) _ _ qe6)
  · subst qs7
    refine q_iconst hC (-1) dX1_serverOf_27 rfl ?_
    exact q_iret hC hF dX1_serverOf_28 (congrArg (fun z => (z, M)) (Option.some.inj hx))
  · subst qz8
    exact Option.some.inj hx

theorem dX1_serversOf_0 : decode cX1_serversOf 0 = .ok (.iconst 0, 1) := by decide +kernel
theorem dX1_serversOf_1 : decode cX1_serversOf 1 = .ok (.istore_n 2, 1) := by decide +kernel
theorem dX1_serversOf_2 : decode cX1_serversOf 2 = .ok (.iconst 0, 1) := by decide +kernel
theorem dX1_serversOf_3 : decode cX1_serversOf 3 = .ok (.istore_n 3, 1) := by decide +kernel
theorem dX1_serversOf_4 : decode cX1_serversOf 4 = .ok (.iload_n 3, 1) := by decide +kernel
theorem dX1_serversOf_5 : decode cX1_serversOf 5 = .ok (.aload_n 0, 1) := by decide +kernel
theorem dX1_serversOf_6 : decode cX1_serversOf 6 = .ok (.getfield 55, 3) := by decide +kernel
theorem dX1_serversOf_9 : decode cX1_serversOf 9 = .ok (.if_icmp .ge 21, 3) := by decide +kernel
theorem dX1_serversOf_12 : decode cX1_serversOf 12 = .ok (.aload_n 0, 1) := by decide +kernel
theorem dX1_serversOf_13 : decode cX1_serversOf 13 = .ok (.iload_n 3, 1) := by decide +kernel
theorem dX1_serversOf_14 : decode cX1_serversOf 14 = .ok (.iload_n 1, 1) := by decide +kernel
theorem dX1_serversOf_15 : decode cX1_serversOf 15 = .ok (.invokevirtual 89, 3) := by decide +kernel
theorem dX1_serversOf_18 : decode cX1_serversOf 18 = .ok (.ifCond .eq 6, 3) := by decide +kernel
theorem dX1_serversOf_21 : decode cX1_serversOf 21 = .ok (.iinc 2 1, 3) := by decide +kernel
theorem dX1_serversOf_24 : decode cX1_serversOf 24 = .ok (.iinc 3 1, 3) := by decide +kernel
theorem dX1_serversOf_27 : decode cX1_serversOf 27 = .ok (.goto (-23), 3) := by decide +kernel
theorem dX1_serversOf_30 : decode cX1_serversOf 30 = .ok (.iload_n 2, 1) := by decide +kernel
theorem dX1_serversOf_31 : decode cX1_serversOf 31 = .ok (.ireturn, 1) := by decide +kernel
def j_X1_serversOf_4_24 (M : gMem) (c : Nat) (a1 : Int32) (b2 : Int32) (b3 : Int32) : Option ((Int32 × Int32) ⊕ (Int32 × Int32)) := some (.inl (b2, b3 + 1))
def s_X1_serversOf_4 (M : gMem) (c : Nat) (a1 : Int32) (b2 : Int32) (b3 : Int32) : Option ((Int32 × Int32) ⊕ (Int32 × Int32)) := (if (M.1 c 0 13) ≤ b3 then some (.inr (b2, b3)) else Option.bind (x_X1_doesServe M c b3 a1) (fun v2 => (if v2 = 0 then j_X1_serversOf_4_24 M c a1 b2 b3 else j_X1_serversOf_4_24 M c a1 (b2 + 1) b3)))
def x_X1_serversOf (M : gMem) (c : Nat) (p1 : Int32) : Option Int32 := Option.bind (itr FU (fun s => s_X1_serversOf_4 M c p1 s.1 s.2) (0, 0)) (fun e6 => some e6.1)
set_option maxRecDepth 100000 in
set_option maxHeartbeats 4000000 in
theorem w_X1_serversOf_4 {X : gX} {Y : gY} {M : gMem} {c : Nat} {a1 : Int32} {r : Int32} (hC : gC X Y cX1_serversOf "GuestStaff$House" 4 2 44) (hF : gF X Y (some .int) (gQi Y (r, M))) (hc : c < 4) {e : (Int32 × Int32)} (kE : ∀ s : (Int32 × Int32), e = s → gWW X Y 4 30 [(2, .int s.1)] [] M) : ∀ (F : Nat) (s : (Int32 × Int32)), itr F (fun s => s_X1_serversOf_4 M c a1 s.1 s.2) s = some e → gWW X Y 4 4 [(0, .ref (gad Y c 0)), (1, .int a1), (2, .int s.1), (3, .int s.2)] [] M := by
  intro F s
  refine itr_w (P := fun s => gWW X Y 4 4 [(0, .ref (gad Y c 0)), (1, .int a1), (2, .int s.1), (3, .int s.2)] [] M) (fun s o hx kI kx => ?_) F s
  obtain ⟨b2, b3⟩ := s
  have hx : s_X1_serversOf_4 M c a1 b2 b3 = some o := hx
  have kE : ∀ s : (Int32 × Int32), o = .inr s → gWW X Y 4 30 [(2, .int s.1)] [] M := fun s q => kE s (kx _ q).symm
  have J24 : ∀ (b2 : Int32) (b3 : Int32) , j_X1_serversOf_4_24 M c a1 b2 b3 = some o → gWW X Y 4 24 [(0, .ref (gad Y c 0)), (1, .int a1), (2, .int b2), (3, .int b3)] [] M := by
    intro b2 b3 hx
    unfold j_X1_serversOf_4_24 at hx
    refine q_iinc hC 3 1 [(3, .int (b3 + 1)), (0, .ref (gad Y c 0)), (1, .int a1), (2, .int b2)] dX1_serversOf_24 rfl rfl (by decide) rfl ?_
    refine q_goto hC 4 dX1_serversOf_27 rfl ?_
    exact q_sub [1, 2, 3, 0] rfl (kI (b2, b3 + 1) (Option.some.inj hx).symm)
  unfold s_X1_serversOf_4 at hx
  refine q_iload_n hC 3 dX1_serversOf_4 rfl rfl ?_
  refine q_aload_n hC 0 dX1_serversOf_5 rfl rfl ?_
  refine gf_X1_55 hC hc dX1_serversOf_6 ?_
  refine q_ic_ge hC 30 dX1_serversOf_9 rfl (fun h1 => ?_) (fun h1 => ?_)
  · have hx := gi_p h1 hx
    exact q_sub [2] rfl (kE (b2, b3) (Option.some.inj hx).symm)
  · have hx := gi_n h1 hx
    refine q_aload_n hC 0 dX1_serversOf_12 rfl rfl ?_
    refine q_iload_n hC 3 dX1_serversOf_13 rfl rfl ?_
    refine q_iload_n hC 1 dX1_serversOf_14 rfl rfl ?_
    obtain ⟨v2, q3, hx⟩ := gb_e hx
    refine q_kzp (q_rV (As := [.int b3, .int a1]) (rest := []) hC mm_X1_doesServe wM_X1_89 (c_X1_doesServe hc q3) ⟨rfl, rfl, Nat.le_of_ble_eq_true rfl, Nat.le_of_ble_eq_true rfl⟩ (gV_h hc (by decide)) rfl rfl rfl rfl (Nat.le_of_ble_eq_true rfl) dX1_serversOf_15) (fun z4 => ?_)
    refine q_if_eq hC 24 dX1_serversOf_18 rfl (fun h5 => ?_) (fun h5 => ?_)
    · have hx := gi_p h5 hx
      exact q_sub [0, 1, 2, 3] rfl (J24 b2 b3 hx)
    · have hx := gi_n h5 hx
      refine q_iinc hC 2 1 [(2, .int (b2 + 1)), (0, .ref (gad Y c 0)), (1, .int a1), (3, .int b3)] dX1_serversOf_21 rfl rfl (by decide) rfl ?_
      exact q_sub [1, 2, 0, 3] rfl (J24 (b2 + 1) b3 hx)
set_option maxRecDepth 100000 in
set_option maxHeartbeats 4000000 in
theorem c_X1_serversOf {l : Launch} {Y : gY} {M : gMem} {c : Nat} {p1 : Int32} {r : Int32} (hc : c < 4) (hx : x_X1_serversOf M c p1 = some r) : Met l yX1_serversOf (gws yX1_serversOf cX1_serversOf 4 (some .int)) { frames := 2, cells := 0, slots := 0, locals := 44 } (va_Pc [.ref (gad Y c 0), .int p1] (gS0 Y M)) (gQi Y (r, M)) 0 0 (gA Y) := by
  refine gmet (lv := [(0, .ref (gad Y c 0)), (1, .int p1)]) "GuestStaff$House" (by decide) rfl (Nat.le_of_ble_eq_true rfl) rfl (fun X hC hF => ?_)
  unfold x_X1_serversOf at hx
  refine q_iconst hC 0 dX1_serversOf_0 rfl ?_
  refine q_istore_n hC [(2, .int 0), (0, .ref (gad Y c 0)), (1, .int p1)] dX1_serversOf_1 rfl (by decide) rfl ?_
  refine q_iconst hC 0 dX1_serversOf_2 rfl ?_
  refine q_istore_n hC [(3, .int 0), (2, .int 0), (0, .ref (gad Y c 0)), (1, .int p1)] dX1_serversOf_3 rfl (by decide) rfl ?_
  obtain ⟨e6, qe6, hx⟩ := gb_e hx
  refine q_sub [2, 3, 1, 0] rfl (w_X1_serversOf_4 hC hF hc (e := e6) (fun s q => ?_) _ _ qe6)
  · subst q
    refine q_iload_n hC 0 dX1_serversOf_30 rfl rfl ?_
    exact q_iret hC hF dX1_serversOf_31 (congrArg (fun z => (z, M)) (Option.some.inj hx))

theorem dX1_servedCount_0 : decode cX1_servedCount 0 = .ok (.iconst 0, 1) := by decide +kernel
theorem dX1_servedCount_1 : decode cX1_servedCount 1 = .ok (.istore_n 1, 1) := by decide +kernel
theorem dX1_servedCount_2 : decode cX1_servedCount 2 = .ok (.iconst 0, 1) := by decide +kernel
theorem dX1_servedCount_3 : decode cX1_servedCount 3 = .ok (.istore_n 2, 1) := by decide +kernel
theorem dX1_servedCount_4 : decode cX1_servedCount 4 = .ok (.iload_n 2, 1) := by decide +kernel
theorem dX1_servedCount_5 : decode cX1_servedCount 5 = .ok (.aload_n 0, 1) := by decide +kernel
theorem dX1_servedCount_6 : decode cX1_servedCount 6 = .ok (.getfield 55, 3) := by decide +kernel
theorem dX1_servedCount_9 : decode cX1_servedCount 9 = .ok (.if_icmp .ge 21, 3) := by decide +kernel
theorem dX1_servedCount_12 : decode cX1_servedCount 12 = .ok (.aload_n 0, 1) := by decide +kernel
theorem dX1_servedCount_13 : decode cX1_servedCount 13 = .ok (.iload_n 2, 1) := by decide +kernel
theorem dX1_servedCount_14 : decode cX1_servedCount 14 = .ok (.invokevirtual 92, 3) := by decide +kernel
theorem dX1_servedCount_17 : decode cX1_servedCount 17 = .ok (.iconst (-1), 1) := by decide +kernel
theorem dX1_servedCount_18 : decode cX1_servedCount 18 = .ok (.if_icmp .eq 6, 3) := by decide +kernel
theorem dX1_servedCount_21 : decode cX1_servedCount 21 = .ok (.iinc 1 1, 3) := by decide +kernel
theorem dX1_servedCount_24 : decode cX1_servedCount 24 = .ok (.iinc 2 1, 3) := by decide +kernel
theorem dX1_servedCount_27 : decode cX1_servedCount 27 = .ok (.goto (-23), 3) := by decide +kernel
theorem dX1_servedCount_30 : decode cX1_servedCount 30 = .ok (.iload_n 1, 1) := by decide +kernel
theorem dX1_servedCount_31 : decode cX1_servedCount 31 = .ok (.ireturn, 1) := by decide +kernel
def j_X1_servedCount_4_24 (M : gMem) (c : Nat) (b1 : Int32) (b2 : Int32) : Option ((Int32 × Int32) ⊕ (Int32 × Int32)) := some (.inl (b1, b2 + 1))
def s_X1_servedCount_4 (M : gMem) (c : Nat) (b1 : Int32) (b2 : Int32) : Option ((Int32 × Int32) ⊕ (Int32 × Int32)) := (if (M.1 c 0 13) ≤ b2 then some (.inr (b1, b2)) else Option.bind (x_X1_serverOf M c b2) (fun v2 => (if v2 = (-1) then j_X1_servedCount_4_24 M c b1 b2 else j_X1_servedCount_4_24 M c (b1 + 1) b2)))
def x_X1_servedCount (M : gMem) (c : Nat) : Option Int32 := Option.bind (itr FU (fun s => s_X1_servedCount_4 M c s.1 s.2) (0, 0)) (fun e5 => some e5.1)
set_option maxRecDepth 100000 in
set_option maxHeartbeats 4000000 in
theorem w_X1_servedCount_4 {X : gX} {Y : gY} {M : gMem} {c : Nat} {r : Int32} (hC : gC X Y cX1_servedCount "GuestStaff$House" 3 3 66) (hF : gF X Y (some .int) (gQi Y (r, M))) (hc : c < 4) {e : (Int32 × Int32)} (kE : ∀ s : (Int32 × Int32), e = s → gWW X Y 3 30 [(1, .int s.1)] [] M) : ∀ (F : Nat) (s : (Int32 × Int32)), itr F (fun s => s_X1_servedCount_4 M c s.1 s.2) s = some e → gWW X Y 3 4 [(0, .ref (gad Y c 0)), (1, .int s.1), (2, .int s.2)] [] M := by
  intro F s
  refine itr_w (P := fun s => gWW X Y 3 4 [(0, .ref (gad Y c 0)), (1, .int s.1), (2, .int s.2)] [] M) (fun s o hx kI kx => ?_) F s
  obtain ⟨b1, b2⟩ := s
  have hx : s_X1_servedCount_4 M c b1 b2 = some o := hx
  have kE : ∀ s : (Int32 × Int32), o = .inr s → gWW X Y 3 30 [(1, .int s.1)] [] M := fun s q => kE s (kx _ q).symm
  have J24 : ∀ (b1 : Int32) (b2 : Int32) , j_X1_servedCount_4_24 M c b1 b2 = some o → gWW X Y 3 24 [(0, .ref (gad Y c 0)), (1, .int b1), (2, .int b2)] [] M := by
    intro b1 b2 hx
    unfold j_X1_servedCount_4_24 at hx
    refine q_iinc hC 2 1 [(2, .int (b2 + 1)), (0, .ref (gad Y c 0)), (1, .int b1)] dX1_servedCount_24 rfl rfl (by decide) rfl ?_
    refine q_goto hC 4 dX1_servedCount_27 rfl ?_
    exact q_sub [1, 2, 0] rfl (kI (b1, b2 + 1) (Option.some.inj hx).symm)
  unfold s_X1_servedCount_4 at hx
  refine q_iload_n hC 2 dX1_servedCount_4 rfl rfl ?_
  refine q_aload_n hC 0 dX1_servedCount_5 rfl rfl ?_
  refine gf_X1_55 hC hc dX1_servedCount_6 ?_
  refine q_ic_ge hC 30 dX1_servedCount_9 rfl (fun h1 => ?_) (fun h1 => ?_)
  · have hx := gi_p h1 hx
    exact q_sub [1] rfl (kE (b1, b2) (Option.some.inj hx).symm)
  · have hx := gi_n h1 hx
    refine q_aload_n hC 0 dX1_servedCount_12 rfl rfl ?_
    refine q_iload_n hC 2 dX1_servedCount_13 rfl rfl ?_
    obtain ⟨v2, q3, hx⟩ := gb_e hx
    refine q_kip (q_rV (As := [.int b2]) (rest := []) hC mm_X1_serverOf wM_X1_92 (c_X1_serverOf hc q3) ⟨rfl, rfl, Nat.le_of_ble_eq_true rfl, Nat.le_of_ble_eq_true rfl⟩ (gV_h hc (by decide)) rfl rfl rfl rfl (Nat.le_of_ble_eq_true rfl) dX1_servedCount_14) ?_
    refine q_iconst hC (-1) dX1_servedCount_17 rfl ?_
    refine q_ic_eq hC 24 dX1_servedCount_18 rfl (fun h4 => ?_) (fun h4 => ?_)
    · have hx := gi_p h4 hx
      exact q_sub [0, 1, 2] rfl (J24 b1 b2 hx)
    · have hx := gi_n h4 hx
      refine q_iinc hC 1 1 [(1, .int (b1 + 1)), (0, .ref (gad Y c 0)), (2, .int b2)] dX1_servedCount_21 rfl rfl (by decide) rfl ?_
      exact q_sub [1, 0, 2] rfl (J24 (b1 + 1) b2 hx)
set_option maxRecDepth 100000 in
set_option maxHeartbeats 4000000 in
theorem c_X1_servedCount {l : Launch} {Y : gY} {M : gMem} {c : Nat} {r : Int32} (hc : c < 4) (hx : x_X1_servedCount M c = some r) : Met l yX1_servedCount (gws yX1_servedCount cX1_servedCount 3 (some .int)) { frames := 3, cells := 0, slots := 0, locals := 66 } (va_Pc [.ref (gad Y c 0)] (gS0 Y M)) (gQi Y (r, M)) 0 0 (gA Y) := by
  refine gmet (lv := [(0, .ref (gad Y c 0))]) "GuestStaff$House" (by decide) rfl (Nat.le_of_ble_eq_true rfl) rfl (fun X hC hF => ?_)
  unfold x_X1_servedCount at hx
  refine q_iconst hC 0 dX1_servedCount_0 rfl ?_
  refine q_istore_n hC [(1, .int 0), (0, .ref (gad Y c 0))] dX1_servedCount_1 rfl (by decide) rfl ?_
  refine q_iconst hC 0 dX1_servedCount_2 rfl ?_
  refine q_istore_n hC [(2, .int 0), (1, .int 0), (0, .ref (gad Y c 0))] dX1_servedCount_3 rfl (by decide) rfl ?_
  obtain ⟨e5, qe5, hx⟩ := gb_e hx
  refine q_sub [2, 1, 0] rfl (w_X1_servedCount_4 hC hF hc (e := e5) (fun s q => ?_) _ _ qe5)
  · subst q
    refine q_iload_n hC 0 dX1_servedCount_30 rfl rfl ?_
    exact q_iret hC hF dX1_servedCount_31 (congrArg (fun z => (z, M)) (Option.some.inj hx))

theorem dX1_contentBy_0 : decode cX1_contentBy 0 = .ok (.aload_n 0, 1) := by decide +kernel
theorem dX1_contentBy_1 : decode cX1_contentBy 1 = .ok (.getfield 64, 3) := by decide +kernel
theorem dX1_contentBy_4 : decode cX1_contentBy 4 = .ok (.aload_n 0, 1) := by decide +kernel
theorem dX1_contentBy_5 : decode cX1_contentBy 5 = .ok (.getfield 9, 3) := by decide +kernel
theorem dX1_contentBy_8 : decode cX1_contentBy 8 = .ok (.iload_n 1, 1) := by decide +kernel
theorem dX1_contentBy_9 : decode cX1_contentBy 9 = .ok (.iaload, 1) := by decide +kernel
theorem dX1_contentBy_10 : decode cX1_contentBy 10 = .ok (.aaload, 1) := by decide +kernel
theorem dX1_contentBy_11 : decode cX1_contentBy 11 = .ok (.aload_n 0, 1) := by decide +kernel
theorem dX1_contentBy_12 : decode cX1_contentBy 12 = .ok (.getfield 9, 3) := by decide +kernel
theorem dX1_contentBy_15 : decode cX1_contentBy 15 = .ok (.iload_n 2, 1) := by decide +kernel
theorem dX1_contentBy_16 : decode cX1_contentBy 16 = .ok (.iaload, 1) := by decide +kernel
theorem dX1_contentBy_17 : decode cX1_contentBy 17 = .ok (.aload_n 0, 1) := by decide +kernel
theorem dX1_contentBy_18 : decode cX1_contentBy 18 = .ok (.getfield 58, 3) := by decide +kernel
theorem dX1_contentBy_21 : decode cX1_contentBy 21 = .ok (.invokevirtual 96, 3) := by decide +kernel
theorem dX1_contentBy_24 : decode cX1_contentBy 24 = .ok (.ireturn, 1) := by decide +kernel
def x_X1_contentBy (M : gMem) (c : Nat) (p1 : Int32) (p2 : Int32) : Option Int32 := gd (gin p1 7) (gd (gin (M.1 c 1 (p1).toNatClampNeg) 6) (gd (gin p2 7) (Option.bind (x_K_contentBy (M.1 c 1 (p1).toNatClampNeg).toNatClampNeg (M.1 c 1 (p2).toNatClampNeg) (M.1 c 0 14)) (fun v4 => some v4))))
set_option maxRecDepth 100000 in
set_option maxHeartbeats 4000000 in
theorem c_X1_contentBy {l : Launch} {Y : gY} {M : gMem} {c : Nat} {p1 : Int32} {p2 : Int32} {r : Int32} (hc : c < 4) (hx : x_X1_contentBy M c p1 p2 = some r) : Met l yX1_contentBy (gws yX1_contentBy cX1_contentBy 3 (some .int)) { frames := 4, cells := 0, slots := 0, locals := 88 } (va_Pc [.ref (gad Y c 0), .int p1, .int p2] (gS0 Y M)) (gQi Y (r, M)) 0 0 (gA Y) := by
  refine gmet (lv := [(0, .ref (gad Y c 0)), (1, .int p1), (2, .int p2)]) "GuestStaff$House" (by decide) rfl (Nat.le_of_ble_eq_true rfl) rfl (fun X hC hF => ?_)
  unfold x_X1_contentBy at hx
  refine q_aload_n hC 0 dX1_contentBy_0 rfl rfl ?_
  refine gf_X1_64 hC hc dX1_contentBy_1 ?_
  refine q_aload_n hC 0 dX1_contentBy_4 rfl rfl ?_
  refine gf_X1_9 hC hc dX1_contentBy_5 ?_
  refine q_iload_n hC 1 dX1_contentBy_8 rfl rfl ?_
  have g1 := (gd_e hx).1
  have hx := (gd_e hx).2
  refine q_iald hC 6 (gV_h hc (by decide)) rfl g1 dX1_contentBy_9 ?_
  have g2 := (gd_e hx).1
  have hx := (gd_e hx).2
  refine q_aald (t0 := 2) hC (gV_t (by decide) (by decide)) rfl rfl rfl g2 (grow_i g2) dX1_contentBy_10 ?_
  refine q_aload_n hC 0 dX1_contentBy_11 rfl rfl ?_
  refine gf_X1_9 hC hc dX1_contentBy_12 ?_
  refine q_iload_n hC 2 dX1_contentBy_15 rfl rfl ?_
  have g3 := (gd_e hx).1
  have hx := (gd_e hx).2
  refine q_iald hC 6 (gV_h hc (by decide)) rfl g3 dX1_contentBy_16 ?_
  refine q_aload_n hC 0 dX1_contentBy_17 rfl rfl ?_
  refine gf_X1_58 hC hc dX1_contentBy_18 ?_
  obtain ⟨v4, q5, hx⟩ := gb_e hx
  refine q_kip ((q_rKc (As := [.int (M.1 c 1 (p2).toNatClampNeg), .int (M.1 c 0 14)]) (rest := []) hC wM_X1_96 (gin_lt g2) q5 (Nat.le_of_ble_eq_true rfl) (Nat.le_of_ble_eq_true rfl) rfl rfl (Nat.le_of_ble_eq_true rfl) dX1_contentBy_21).choose_spec) ?_
  exact q_iret hC hF dX1_contentBy_24 (congrArg (fun z => (z, M)) (Option.some.inj hx))

theorem dX1_contentOf_0 : decode cX1_contentOf 0 = .ok (.aload_n 0, 1) := by decide +kernel
theorem dX1_contentOf_1 : decode cX1_contentOf 1 = .ok (.iload_n 1, 1) := by decide +kernel
theorem dX1_contentOf_2 : decode cX1_contentOf 2 = .ok (.invokevirtual 92, 3) := by decide +kernel
theorem dX1_contentOf_5 : decode cX1_contentOf 5 = .ok (.istore_n 2, 1) := by decide +kernel
theorem dX1_contentOf_6 : decode cX1_contentOf 6 = .ok (.iload_n 2, 1) := by decide +kernel
theorem dX1_contentOf_7 : decode cX1_contentOf 7 = .ok (.iconst (-1), 1) := by decide +kernel
theorem dX1_contentOf_8 : decode cX1_contentOf 8 = .ok (.if_icmp .ne 7, 3) := by decide +kernel
theorem dX1_contentOf_11 : decode cX1_contentOf 11 = .ok (.iconst 0, 1) := by decide +kernel
theorem dX1_contentOf_12 : decode cX1_contentOf 12 = .ok (.goto 9, 3) := by decide +kernel
theorem dX1_contentOf_15 : decode cX1_contentOf 15 = .ok (.aload_n 0, 1) := by decide +kernel
theorem dX1_contentOf_16 : decode cX1_contentOf 16 = .ok (.iload_n 1, 1) := by decide +kernel
theorem dX1_contentOf_17 : decode cX1_contentOf 17 = .ok (.iload_n 2, 1) := by decide +kernel
theorem dX1_contentOf_18 : decode cX1_contentOf 18 = .ok (.invokevirtual 102, 3) := by decide +kernel
theorem dX1_contentOf_21 : decode cX1_contentOf 21 = .ok (.ireturn, 1) := by decide +kernel
def x_X1_contentOf (M : gMem) (c : Nat) (p1 : Int32) : Option Int32 := Option.bind (x_X1_serverOf M c p1) (fun v1 => (if v1 = (-1) then some 0 else Option.bind (x_X1_contentBy M c p1 v1) (fun v4 => some v4)))
set_option maxRecDepth 100000 in
set_option maxHeartbeats 4000000 in
theorem c_X1_contentOf {l : Launch} {Y : gY} {M : gMem} {c : Nat} {p1 : Int32} {r : Int32} (hc : c < 4) (hx : x_X1_contentOf M c p1 = some r) : Met l yX1_contentOf (gws yX1_contentOf cX1_contentOf 3 (some .int)) { frames := 5, cells := 0, slots := 0, locals := 110 } (va_Pc [.ref (gad Y c 0), .int p1] (gS0 Y M)) (gQi Y (r, M)) 0 0 (gA Y) := by
  refine gmet (lv := [(0, .ref (gad Y c 0)), (1, .int p1)]) "GuestStaff$House" (by decide) rfl (Nat.le_of_ble_eq_true rfl) rfl (fun X hC hF => ?_)
  unfold x_X1_contentOf at hx
  refine q_aload_n hC 0 dX1_contentOf_0 rfl rfl ?_
  refine q_iload_n hC 1 dX1_contentOf_1 rfl rfl ?_
  obtain ⟨v1, q2, hx⟩ := gb_e hx
  refine q_kip (q_rV (As := [.int p1]) (rest := []) hC mm_X1_serverOf wM_X1_92 (c_X1_serverOf hc q2) ⟨rfl, rfl, Nat.le_of_ble_eq_true rfl, Nat.le_of_ble_eq_true rfl⟩ (gV_h hc (by decide)) rfl rfl rfl rfl (Nat.le_of_ble_eq_true rfl) dX1_contentOf_2) ?_
  refine q_istore_n hC [(2, .int v1), (0, .ref (gad Y c 0)), (1, .int p1)] dX1_contentOf_5 rfl (by decide) rfl ?_
  refine q_iload_n hC 0 dX1_contentOf_6 rfl rfl ?_
  refine q_iconst hC (-1) dX1_contentOf_7 rfl ?_
  refine q_ic_ne hC 15 dX1_contentOf_8 rfl (fun h3 => ?_) (fun h3 => ?_)
  · have hx := gi_n h3 hx
    refine q_aload_n hC 1 dX1_contentOf_15 rfl rfl ?_
    refine q_iload_n hC 2 dX1_contentOf_16 rfl rfl ?_
    refine q_iload_n hC 0 dX1_contentOf_17 rfl rfl ?_
    obtain ⟨v4, q5, hx⟩ := gb_e hx
    refine q_kip (q_rV (As := [.int p1, .int v1]) (rest := []) hC mm_X1_contentBy wM_X1_102 (c_X1_contentBy hc q5) ⟨rfl, rfl, Nat.le_of_ble_eq_true rfl, Nat.le_of_ble_eq_true rfl⟩ (gV_h hc (by decide)) rfl rfl rfl rfl (Nat.le_of_ble_eq_true rfl) dX1_contentOf_18) ?_
    exact q_iret hC hF dX1_contentOf_21 (congrArg (fun z => (z, M)) (Option.some.inj hx))
  · have hx := gi_p h3 hx
    refine q_iconst hC 0 dX1_contentOf_11 rfl ?_
    refine q_goto hC 21 dX1_contentOf_12 rfl ?_
    exact q_iret hC hF dX1_contentOf_21 (congrArg (fun z => (z, M)) (Option.some.inj hx))

theorem dX1_workFor_0 : decode cX1_workFor 0 = .ok (.aload_n 0, 1) := by decide +kernel
theorem dX1_workFor_1 : decode cX1_workFor 1 = .ok (.getfield 64, 3) := by decide +kernel
theorem dX1_workFor_4 : decode cX1_workFor 4 = .ok (.aload_n 0, 1) := by decide +kernel
theorem dX1_workFor_5 : decode cX1_workFor 5 = .ok (.getfield 9, 3) := by decide +kernel
theorem dX1_workFor_8 : decode cX1_workFor 8 = .ok (.iload_n 1, 1) := by decide +kernel
theorem dX1_workFor_9 : decode cX1_workFor 9 = .ok (.iaload, 1) := by decide +kernel
theorem dX1_workFor_10 : decode cX1_workFor 10 = .ok (.aaload, 1) := by decide +kernel
theorem dX1_workFor_11 : decode cX1_workFor 11 = .ok (.iload_n 2, 1) := by decide +kernel
theorem dX1_workFor_12 : decode cX1_workFor 12 = .ok (.invokevirtual 103, 3) := by decide +kernel
theorem dX1_workFor_15 : decode cX1_workFor 15 = .ok (.ireturn, 1) := by decide +kernel
def x_X1_workFor (M : gMem) (c : Nat) (p1 : Int32) (p2 : Int32) : Option Int32 := gd (gin p1 7) (gd (gin (M.1 c 1 (p1).toNatClampNeg) 6) (Option.bind (x_K_workOn (M.1 c 1 (p1).toNatClampNeg).toNatClampNeg p2) (fun v3 => some v3)))
set_option maxRecDepth 100000 in
set_option maxHeartbeats 4000000 in
theorem c_X1_workFor {l : Launch} {Y : gY} {M : gMem} {c : Nat} {p1 : Int32} {p2 : Int32} {r : Int32} (hc : c < 4) (hx : x_X1_workFor M c p1 p2 = some r) : Met l yX1_workFor (gws yX1_workFor cX1_workFor 3 (some .int)) { frames := 4, cells := 0, slots := 0, locals := 87 } (va_Pc [.ref (gad Y c 0), .int p1, .int p2] (gS0 Y M)) (gQi Y (r, M)) 0 0 (gA Y) := by
  refine gmet (lv := [(0, .ref (gad Y c 0)), (1, .int p1), (2, .int p2)]) "GuestStaff$House" (by decide) rfl (Nat.le_of_ble_eq_true rfl) rfl (fun X hC hF => ?_)
  unfold x_X1_workFor at hx
  refine q_aload_n hC 0 dX1_workFor_0 rfl rfl ?_
  refine gf_X1_64 hC hc dX1_workFor_1 ?_
  refine q_aload_n hC 0 dX1_workFor_4 rfl rfl ?_
  refine gf_X1_9 hC hc dX1_workFor_5 ?_
  refine q_iload_n hC 1 dX1_workFor_8 rfl rfl ?_
  have g1 := (gd_e hx).1
  have hx := (gd_e hx).2
  refine q_iald hC 6 (gV_h hc (by decide)) rfl g1 dX1_workFor_9 ?_
  have g2 := (gd_e hx).1
  have hx := (gd_e hx).2
  refine q_aald (t0 := 2) hC (gV_t (by decide) (by decide)) rfl rfl rfl g2 (grow_i g2) dX1_workFor_10 ?_
  refine q_iload_n hC 2 dX1_workFor_11 rfl rfl ?_
  obtain ⟨v3, q4, hx⟩ := gb_e hx
  refine q_kip ((q_rKw (As := [.int p2]) (rest := []) hC wM_X1_103 (gin_lt g2) q4 (Nat.le_of_ble_eq_true rfl) (Nat.le_of_ble_eq_true rfl) rfl rfl (Nat.le_of_ble_eq_true rfl) dX1_workFor_12).choose_spec) ?_
  exact q_iret hC hF dX1_workFor_15 (congrArg (fun z => (z, M)) (Option.some.inj hx))

theorem dX1_passHour_0 : decode cX1_passHour 0 = .ok (.iconst 0, 1) := by decide +kernel
theorem dX1_passHour_1 : decode cX1_passHour 1 = .ok (.istore_n 1, 1) := by decide +kernel
theorem dX1_passHour_2 : decode cX1_passHour 2 = .ok (.iload_n 1, 1) := by decide +kernel
theorem dX1_passHour_3 : decode cX1_passHour 3 = .ok (.aload_n 0, 1) := by decide +kernel
theorem dX1_passHour_4 : decode cX1_passHour 4 = .ok (.getfield 55, 3) := by decide +kernel
theorem dX1_passHour_7 : decode cX1_passHour 7 = .ok (.if_icmp .ge 23, 3) := by decide +kernel
theorem dX1_passHour_10 : decode cX1_passHour 10 = .ok (.aload_n 0, 1) := by decide +kernel
theorem dX1_passHour_11 : decode cX1_passHour 11 = .ok (.dup, 1) := by decide +kernel
theorem dX1_passHour_12 : decode cX1_passHour 12 = .ok (.getfield 61, 3) := by decide +kernel
theorem dX1_passHour_15 : decode cX1_passHour 15 = .ok (.aload_n 0, 1) := by decide +kernel
theorem dX1_passHour_16 : decode cX1_passHour 16 = .ok (.iload_n 1, 1) := by decide +kernel
theorem dX1_passHour_17 : decode cX1_passHour 17 = .ok (.invokevirtual 106, 3) := by decide +kernel
theorem dX1_passHour_20 : decode cX1_passHour 20 = .ok (.iadd, 1) := by decide +kernel
theorem dX1_passHour_21 : decode cX1_passHour 21 = .ok (.putfield 61, 3) := by decide +kernel
theorem dX1_passHour_24 : decode cX1_passHour 24 = .ok (.iinc 1 1, 3) := by decide +kernel
theorem dX1_passHour_27 : decode cX1_passHour 27 = .ok (.goto (-25), 3) := by decide +kernel
theorem dX1_passHour_30 : decode cX1_passHour 30 = .ok (.iconst 0, 1) := by decide +kernel
theorem dX1_passHour_31 : decode cX1_passHour 31 = .ok (.istore_n 1, 1) := by decide +kernel
theorem dX1_passHour_32 : decode cX1_passHour 32 = .ok (.iload_n 1, 1) := by decide +kernel
theorem dX1_passHour_33 : decode cX1_passHour 33 = .ok (.aload_n 0, 1) := by decide +kernel
theorem dX1_passHour_34 : decode cX1_passHour 34 = .ok (.getfield 55, 3) := by decide +kernel
theorem dX1_passHour_37 : decode cX1_passHour 37 = .ok (.if_icmp .ge 49, 3) := by decide +kernel
theorem dX1_passHour_40 : decode cX1_passHour 40 = .ok (.aload_n 0, 1) := by decide +kernel
theorem dX1_passHour_41 : decode cX1_passHour 41 = .ok (.iload_n 1, 1) := by decide +kernel
theorem dX1_passHour_42 : decode cX1_passHour 42 = .ok (.invokevirtual 92, 3) := by decide +kernel
theorem dX1_passHour_45 : decode cX1_passHour 45 = .ok (.istore_n 2, 1) := by decide +kernel
theorem dX1_passHour_46 : decode cX1_passHour 46 = .ok (.iload_n 2, 1) := by decide +kernel
theorem dX1_passHour_47 : decode cX1_passHour 47 = .ok (.iconst (-1), 1) := by decide +kernel
theorem dX1_passHour_48 : decode cX1_passHour 48 = .ok (.if_icmp .eq 32, 3) := by decide +kernel
theorem dX1_passHour_51 : decode cX1_passHour 51 = .ok (.aload_n 0, 1) := by decide +kernel
theorem dX1_passHour_52 : decode cX1_passHour 52 = .ok (.getfield 24, 3) := by decide +kernel
theorem dX1_passHour_55 : decode cX1_passHour 55 = .ok (.iload_n 1, 1) := by decide +kernel
theorem dX1_passHour_56 : decode cX1_passHour 56 = .ok (.iaload, 1) := by decide +kernel
theorem dX1_passHour_57 : decode cX1_passHour 57 = .ok (.ifCond .le 23, 3) := by decide +kernel
theorem dX1_passHour_60 : decode cX1_passHour 60 = .ok (.aload_n 0, 1) := by decide +kernel
theorem dX1_passHour_61 : decode cX1_passHour 61 = .ok (.getfield 24, 3) := by decide +kernel
theorem dX1_passHour_64 : decode cX1_passHour 64 = .ok (.iload_n 1, 1) := by decide +kernel
theorem dX1_passHour_65 : decode cX1_passHour 65 = .ok (.dup2, 1) := by decide +kernel
theorem dX1_passHour_66 : decode cX1_passHour 66 = .ok (.iaload, 1) := by decide +kernel
theorem dX1_passHour_67 : decode cX1_passHour 67 = .ok (.iconst 1, 1) := by decide +kernel
theorem dX1_passHour_68 : decode cX1_passHour 68 = .ok (.isub, 1) := by decide +kernel
theorem dX1_passHour_69 : decode cX1_passHour 69 = .ok (.iastore, 1) := by decide +kernel
theorem dX1_passHour_70 : decode cX1_passHour 70 = .ok (.aload_n 0, 1) := by decide +kernel
theorem dX1_passHour_71 : decode cX1_passHour 71 = .ok (.getfield 24, 3) := by decide +kernel
theorem dX1_passHour_74 : decode cX1_passHour 74 = .ok (.iload_n 2, 1) := by decide +kernel
theorem dX1_passHour_75 : decode cX1_passHour 75 = .ok (.dup2, 1) := by decide +kernel
theorem dX1_passHour_76 : decode cX1_passHour 76 = .ok (.iaload, 1) := by decide +kernel
theorem dX1_passHour_77 : decode cX1_passHour 77 = .ok (.iconst 1, 1) := by decide +kernel
theorem dX1_passHour_78 : decode cX1_passHour 78 = .ok (.iadd, 1) := by decide +kernel
theorem dX1_passHour_79 : decode cX1_passHour 79 = .ok (.iastore, 1) := by decide +kernel
theorem dX1_passHour_80 : decode cX1_passHour 80 = .ok (.iinc 1 1, 3) := by decide +kernel
theorem dX1_passHour_83 : decode cX1_passHour 83 = .ok (.goto (-51), 3) := by decide +kernel
theorem dX1_passHour_86 : decode cX1_passHour 86 = .ok (.aload_n 0, 1) := by decide +kernel
theorem dX1_passHour_87 : decode cX1_passHour 87 = .ok (.dup, 1) := by decide +kernel
theorem dX1_passHour_88 : decode cX1_passHour 88 = .ok (.getfield 58, 3) := by decide +kernel
theorem dX1_passHour_91 : decode cX1_passHour 91 = .ok (.iconst 1, 1) := by decide +kernel
theorem dX1_passHour_92 : decode cX1_passHour 92 = .ok (.iadd, 1) := by decide +kernel
theorem dX1_passHour_93 : decode cX1_passHour 93 = .ok (.putfield 58, 3) := by decide +kernel
theorem dX1_passHour_96 : decode cX1_passHour 96 = .ok (.return_, 1) := by decide +kernel
def s_X1_passHour_2 (c : Nat) (b1 : Int32) (N : gMem) : Option ((Int32 × gMem) ⊕ (Int32 × gMem)) := (if (N.1 c 0 13) ≤ b1 then some (.inr (b1, N)) else Option.bind (x_X1_contentOf N c b1) (fun v2 => some (.inl (b1 + 1, gwr N c 0 15 ((N.1 c 0 15) + v2)))))
def j_X1_passHour_32_80 (c : Nat) (N : gMem) (b1 : Int32) : Option ((Int32 × gMem) ⊕ (Int32 × gMem)) := some (.inl (b1 + 1, N))
def s_X1_passHour_32 (c : Nat) (b1 : Int32) (N : gMem) : Option ((Int32 × gMem) ⊕ (Int32 × gMem)) := (if (N.1 c 0 13) ≤ b1 then some (.inr (b1, N)) else Option.bind (x_X1_serverOf N c b1) (fun v6 => (if v6 = (-1) then j_X1_passHour_32_80 c N b1 else gd (gin b1 7) ((if (N.1 c 5 (b1).toNatClampNeg) ≤ 0 then j_X1_passHour_32_80 c N b1 else gd (gin b1 7) (gd (gin b1 7) (gd (gin v6 7) (gd (gin v6 7) (j_X1_passHour_32_80 c (gwr (gwr N c 5 (b1).toNatClampNeg ((N.1 c 5 (b1).toNatClampNeg) - 1)) c 5 (v6).toNatClampNeg (((gwr N c 5 (b1).toNatClampNeg ((N.1 c 5 (b1).toNatClampNeg) - 1)).1 c 5 (v6).toNatClampNeg) + 1)) b1)))))))))
def x_X1_passHour (M : gMem) (c : Nat) : Option gMem := Option.bind (itr FU (fun s => s_X1_passHour_2 c s.1 s.2) (0, M)) (fun e4 => Option.bind (itr FU (fun s => s_X1_passHour_32 c s.1 s.2) (0, e4.2)) (fun e15 => some (gwr e15.2 c 0 14 ((e15.2.1 c 0 14) + 1))))
set_option maxRecDepth 100000 in
set_option maxHeartbeats 4000000 in
theorem w_X1_passHour_2 {X : gX} {Y : gY} {c : Nat} {r : gMem} (hC : gC X Y cX1_passHour "GuestStaff$House" 3 6 132) (hF : gF X Y none (gQv Y r)) (hc : c < 4) {e : (Int32 × gMem)} (kE : ∀ s : (Int32 × gMem), e = s → gWW X Y 3 30 [(0, .ref (gad Y c 0))] [] s.2) : ∀ (F : Nat) (s : (Int32 × gMem)), itr F (fun s => s_X1_passHour_2 c s.1 s.2) s = some e → gWW X Y 3 2 [(0, .ref (gad Y c 0)), (1, .int s.1)] [] s.2 := by
  intro F s
  refine itr_w (P := fun s => gWW X Y 3 2 [(0, .ref (gad Y c 0)), (1, .int s.1)] [] s.2) (fun s o hx kI kx => ?_) F s
  obtain ⟨b1, N⟩ := s
  have hx : s_X1_passHour_2 c b1 N = some o := hx
  have kE : ∀ s : (Int32 × gMem), o = .inr s → gWW X Y 3 30 [(0, .ref (gad Y c 0))] [] s.2 := fun s q => kE s (kx _ q).symm
  unfold s_X1_passHour_2 at hx
  refine q_iload_n hC 1 dX1_passHour_2 rfl rfl ?_
  refine q_aload_n hC 0 dX1_passHour_3 rfl rfl ?_
  refine gf_X1_55 hC hc dX1_passHour_4 ?_
  refine q_ic_ge hC 30 dX1_passHour_7 rfl (fun h1 => ?_) (fun h1 => ?_)
  · have hx := gi_p h1 hx
    exact q_sub [0] rfl (kE (b1, N) (Option.some.inj hx).symm)
  · have hx := gi_n h1 hx
    refine q_aload_n hC 0 dX1_passHour_10 rfl rfl ?_
    refine q_dup hC dX1_passHour_11 rfl ?_
    refine gf_X1_61 hC hc dX1_passHour_12 ?_
    refine q_aload_n hC 0 dX1_passHour_15 rfl rfl ?_
    refine q_iload_n hC 1 dX1_passHour_16 rfl rfl ?_
    obtain ⟨v2, q3, hx⟩ := gb_e hx
    refine q_kip (q_rV (As := [.int b1]) (rest := [.int (N.1 c 0 15), .ref (gad Y c 0)]) hC mm_X1_contentOf wM_X1_106 (c_X1_contentOf hc q3) ⟨rfl, rfl, Nat.le_of_ble_eq_true rfl, Nat.le_of_ble_eq_true rfl⟩ (gV_h hc (by decide)) rfl rfl rfl rfl (Nat.le_of_ble_eq_true rfl) dX1_passHour_17) ?_
    refine q_iadd hC dX1_passHour_20 ?_
    refine pf_X1_61 hC hc dX1_passHour_21 ?_
    refine q_iinc hC 1 1 [(1, .int (b1 + 1)), (0, .ref (gad Y c 0))] dX1_passHour_24 rfl rfl (by decide) rfl ?_
    refine q_goto hC 2 dX1_passHour_27 rfl ?_
    exact q_sub [1, 0] rfl (kI (b1 + 1, gwr N c 0 15 ((N.1 c 0 15) + v2)) (Option.some.inj hx).symm)
set_option maxRecDepth 100000 in
set_option maxHeartbeats 4000000 in
theorem w_X1_passHour_32 {X : gX} {Y : gY} {c : Nat} {r : gMem} (hC : gC X Y cX1_passHour "GuestStaff$House" 3 6 132) (hF : gF X Y none (gQv Y r)) (hc : c < 4) {e : (Int32 × gMem)} (kE : ∀ s : (Int32 × gMem), e = s → gWW X Y 3 86 [(0, .ref (gad Y c 0))] [] s.2) : ∀ (F : Nat) (s : (Int32 × gMem)), itr F (fun s => s_X1_passHour_32 c s.1 s.2) s = some e → gWW X Y 3 32 [(0, .ref (gad Y c 0)), (1, .int s.1)] [] s.2 := by
  intro F s
  refine itr_w (P := fun s => gWW X Y 3 32 [(0, .ref (gad Y c 0)), (1, .int s.1)] [] s.2) (fun s o hx kI kx => ?_) F s
  obtain ⟨b1, N⟩ := s
  have hx : s_X1_passHour_32 c b1 N = some o := hx
  have kE : ∀ s : (Int32 × gMem), o = .inr s → gWW X Y 3 86 [(0, .ref (gad Y c 0))] [] s.2 := fun s q => kE s (kx _ q).symm
  have J80 : ∀ (N : gMem) (b1 : Int32) , j_X1_passHour_32_80 c N b1 = some o → gWW X Y 3 80 [(0, .ref (gad Y c 0)), (1, .int b1)] [] N := by
    intro N b1 hx
    unfold j_X1_passHour_32_80 at hx
    refine q_iinc hC 1 1 [(1, .int (b1 + 1)), (0, .ref (gad Y c 0))] dX1_passHour_80 rfl rfl (by decide) rfl ?_
    refine q_goto hC 32 dX1_passHour_83 rfl ?_
    exact q_sub [1, 0] rfl (kI (b1 + 1, N) (Option.some.inj hx).symm)
  unfold s_X1_passHour_32 at hx
  refine q_iload_n hC 1 dX1_passHour_32 rfl rfl ?_
  refine q_aload_n hC 0 dX1_passHour_33 rfl rfl ?_
  refine gf_X1_55 hC hc dX1_passHour_34 ?_
  refine q_ic_ge hC 86 dX1_passHour_37 rfl (fun h5 => ?_) (fun h5 => ?_)
  · have hx := gi_p h5 hx
    exact q_sub [0] rfl (kE (b1, N) (Option.some.inj hx).symm)
  · have hx := gi_n h5 hx
    refine q_aload_n hC 0 dX1_passHour_40 rfl rfl ?_
    refine q_iload_n hC 1 dX1_passHour_41 rfl rfl ?_
    obtain ⟨v6, q7, hx⟩ := gb_e hx
    refine q_kip (q_rV (As := [.int b1]) (rest := []) hC mm_X1_serverOf wM_X1_92 (c_X1_serverOf hc q7) ⟨rfl, rfl, Nat.le_of_ble_eq_true rfl, Nat.le_of_ble_eq_true rfl⟩ (gV_h hc (by decide)) rfl rfl rfl rfl (Nat.le_of_ble_eq_true rfl) dX1_passHour_42) ?_
    refine q_istore_n hC [(2, .int v6), (0, .ref (gad Y c 0)), (1, .int b1)] dX1_passHour_45 rfl (by decide) rfl ?_
    refine q_iload_n hC 0 dX1_passHour_46 rfl rfl ?_
    refine q_iconst hC (-1) dX1_passHour_47 rfl ?_
    refine q_ic_eq hC 80 dX1_passHour_48 rfl (fun h8 => ?_) (fun h8 => ?_)
    · have hx := gi_p h8 hx
      exact q_sub [1, 2] rfl (J80 N b1 hx)
    · have hx := gi_n h8 hx
      refine q_aload_n hC 1 dX1_passHour_51 rfl rfl ?_
      refine gf_X1_24 hC hc dX1_passHour_52 ?_
      refine q_iload_n hC 2 dX1_passHour_55 rfl rfl ?_
      have g9 := (gd_e hx).1
      have hx := (gd_e hx).2
      refine q_iald hC 6 (gV_h hc (by decide)) rfl g9 dX1_passHour_56 ?_
      refine q_if_le hC 80 dX1_passHour_57 rfl (fun h10 => ?_) (fun h10 => ?_)
      · have hx := gi_p h10 hx
        exact q_sub [1, 2] rfl (J80 N b1 hx)
      · have hx := gi_n h10 hx
        refine q_aload_n hC 1 dX1_passHour_60 rfl rfl ?_
        refine gf_X1_24 hC hc dX1_passHour_61 ?_
        refine q_iload_n hC 2 dX1_passHour_64 rfl rfl ?_
        refine q_dup2 hC dX1_passHour_65 rfl rfl ?_
        have g11 := (gd_e hx).1
        have hx := (gd_e hx).2
        refine q_iald hC 6 (gV_h hc (by decide)) rfl g11 dX1_passHour_66 ?_
        refine q_iconst hC 1 dX1_passHour_67 rfl ?_
        refine q_isub hC dX1_passHour_68 ?_
        have g12 := (gd_e hx).1
        have hx := (gd_e hx).2
        refine q_iast hC 6 (gV_h hc (by decide)) rfl g12 dX1_passHour_69 ?_
        refine q_aload_n hC 1 dX1_passHour_70 rfl rfl ?_
        refine gf_X1_24 hC hc dX1_passHour_71 ?_
        refine q_iload_n hC 0 dX1_passHour_74 rfl rfl ?_
        refine q_dup2 hC dX1_passHour_75 rfl rfl ?_
        have g13 := (gd_e hx).1
        have hx := (gd_e hx).2
        refine q_iald hC 6 (gV_h hc (by decide)) rfl g13 dX1_passHour_76 ?_
        refine q_iconst hC 1 dX1_passHour_77 rfl ?_
        refine q_iadd hC dX1_passHour_78 ?_
        have g14 := (gd_e hx).1
        have hx := (gd_e hx).2
        refine q_iast hC 6 (gV_h hc (by decide)) rfl g14 dX1_passHour_79 ?_
        exact q_sub [1, 2] rfl (J80 (gwr (gwr N c 5 (b1).toNatClampNeg ((N.1 c 5 (b1).toNatClampNeg) - 1)) c 5 (v6).toNatClampNeg (((gwr N c 5 (b1).toNatClampNeg ((N.1 c 5 (b1).toNatClampNeg) - 1)).1 c 5 (v6).toNatClampNeg) + 1)) b1 hx)
set_option maxRecDepth 100000 in
set_option maxHeartbeats 4000000 in
theorem c_X1_passHour {l : Launch} {Y : gY} {M : gMem} {c : Nat} {r : gMem} (hc : c < 4) (hx : x_X1_passHour M c = some r) : Met l yX1_passHour (gws yX1_passHour cX1_passHour 3 none) { frames := 6, cells := 0, slots := 0, locals := 132 } (va_Pc [.ref (gad Y c 0)] (gS0 Y M)) (gQv Y r) 0 0 (gA Y) := by
  refine gmet (lv := [(0, .ref (gad Y c 0))]) "GuestStaff$House" (by decide) rfl (Nat.le_of_ble_eq_true rfl) rfl (fun X hC hF => ?_)
  unfold x_X1_passHour at hx
  refine q_iconst hC 0 dX1_passHour_0 rfl ?_
  refine q_istore_n hC [(1, .int 0), (0, .ref (gad Y c 0))] dX1_passHour_1 rfl (by decide) rfl ?_
  obtain ⟨e4, qe4, hx⟩ := gb_e hx
  refine q_sub [1, 0] rfl (w_X1_passHour_2 hC hF hc (e := e4) (fun s q => ?_) _ _ qe4)
  · subst q
    refine q_iconst hC 0 dX1_passHour_30 rfl ?_
    refine q_istore_n hC [(1, .int 0), (0, .ref (gad Y c 0))] dX1_passHour_31 rfl (by decide) rfl ?_
    obtain ⟨e15, qe15, hx⟩ := gb_e hx
    refine q_sub [1, 0] rfl (w_X1_passHour_32 hC hF hc (e := e15) (fun s q => ?_) _ _ qe15)
    · subst q
      refine q_aload_n hC 0 dX1_passHour_86 rfl rfl ?_
      refine q_dup hC dX1_passHour_87 rfl ?_
      refine gf_X1_58 hC hc dX1_passHour_88 ?_
      refine q_iconst hC 1 dX1_passHour_91 rfl ?_
      refine q_iadd hC dX1_passHour_92 ?_
      refine pf_X1_58 hC hc dX1_passHour_93 ?_
      exact q_vret hC hF dX1_passHour_96 (Option.some.inj hx)

theorem dX1_remember_0 : decode cX1_remember 0 = .ok (.aload_n 0, 1) := by decide +kernel
theorem dX1_remember_1 : decode cX1_remember 1 = .ok (.getfield 21, 3) := by decide +kernel
theorem dX1_remember_4 : decode cX1_remember 4 = .ok (.aload_n 0, 1) := by decide +kernel
theorem dX1_remember_5 : decode cX1_remember 5 = .ok (.getfield 36, 3) := by decide +kernel
theorem dX1_remember_8 : decode cX1_remember 8 = .ok (.aload_n 0, 1) := by decide +kernel
theorem dX1_remember_9 : decode cX1_remember 9 = .ok (.getfield 48, 3) := by decide +kernel
theorem dX1_remember_12 : decode cX1_remember 12 = .ok (.aaload, 1) := by decide +kernel
theorem dX1_remember_13 : decode cX1_remember 13 = .ok (.invokestatic 71, 3) := by decide +kernel
theorem dX1_remember_16 : decode cX1_remember 16 = .ok (.aload_n 0, 1) := by decide +kernel
theorem dX1_remember_17 : decode cX1_remember 17 = .ok (.getfield 24, 3) := by decide +kernel
theorem dX1_remember_20 : decode cX1_remember 20 = .ok (.aload_n 0, 1) := by decide +kernel
theorem dX1_remember_21 : decode cX1_remember 21 = .ok (.getfield 39, 3) := by decide +kernel
theorem dX1_remember_24 : decode cX1_remember 24 = .ok (.aload_n 0, 1) := by decide +kernel
theorem dX1_remember_25 : decode cX1_remember 25 = .ok (.getfield 48, 3) := by decide +kernel
theorem dX1_remember_28 : decode cX1_remember 28 = .ok (.aaload, 1) := by decide +kernel
theorem dX1_remember_29 : decode cX1_remember 29 = .ok (.invokestatic 71, 3) := by decide +kernel
theorem dX1_remember_32 : decode cX1_remember 32 = .ok (.aload_n 0, 1) := by decide +kernel
theorem dX1_remember_33 : decode cX1_remember 33 = .ok (.getfield 42, 3) := by decide +kernel
theorem dX1_remember_36 : decode cX1_remember 36 = .ok (.aload_n 0, 1) := by decide +kernel
theorem dX1_remember_37 : decode cX1_remember 37 = .ok (.getfield 48, 3) := by decide +kernel
theorem dX1_remember_40 : decode cX1_remember 40 = .ok (.aload_n 0, 1) := by decide +kernel
theorem dX1_remember_41 : decode cX1_remember 41 = .ok (.getfield 61, 3) := by decide +kernel
theorem dX1_remember_44 : decode cX1_remember 44 = .ok (.iastore, 1) := by decide +kernel
theorem dX1_remember_45 : decode cX1_remember 45 = .ok (.aload_n 0, 1) := by decide +kernel
theorem dX1_remember_46 : decode cX1_remember 46 = .ok (.getfield 45, 3) := by decide +kernel
theorem dX1_remember_49 : decode cX1_remember 49 = .ok (.aload_n 0, 1) := by decide +kernel
theorem dX1_remember_50 : decode cX1_remember 50 = .ok (.getfield 48, 3) := by decide +kernel
theorem dX1_remember_53 : decode cX1_remember 53 = .ok (.aload_n 0, 1) := by decide +kernel
theorem dX1_remember_54 : decode cX1_remember 54 = .ok (.getfield 58, 3) := by decide +kernel
theorem dX1_remember_57 : decode cX1_remember 57 = .ok (.iastore, 1) := by decide +kernel
theorem dX1_remember_58 : decode cX1_remember 58 = .ok (.aload_n 0, 1) := by decide +kernel
theorem dX1_remember_59 : decode cX1_remember 59 = .ok (.aload_n 0, 1) := by decide +kernel
theorem dX1_remember_60 : decode cX1_remember 60 = .ok (.getfield 48, 3) := by decide +kernel
theorem dX1_remember_63 : decode cX1_remember 63 = .ok (.iconst 1, 1) := by decide +kernel
theorem dX1_remember_64 : decode cX1_remember 64 = .ok (.iadd, 1) := by decide +kernel
theorem dX1_remember_65 : decode cX1_remember 65 = .ok (.bipush 8, 2) := by decide +kernel
theorem dX1_remember_67 : decode cX1_remember 67 = .ok (.irem, 1) := by decide +kernel
theorem dX1_remember_68 : decode cX1_remember 68 = .ok (.putfield 48, 3) := by decide +kernel
theorem dX1_remember_71 : decode cX1_remember 71 = .ok (.aload_n 0, 1) := by decide +kernel
theorem dX1_remember_72 : decode cX1_remember 72 = .ok (.aload_n 0, 1) := by decide +kernel
theorem dX1_remember_73 : decode cX1_remember 73 = .ok (.getfield 52, 3) := by decide +kernel
theorem dX1_remember_76 : decode cX1_remember 76 = .ok (.iconst 1, 1) := by decide +kernel
theorem dX1_remember_77 : decode cX1_remember 77 = .ok (.iadd, 1) := by decide +kernel
theorem dX1_remember_78 : decode cX1_remember 78 = .ok (.bipush 8, 2) := by decide +kernel
theorem dX1_remember_80 : decode cX1_remember 80 = .ok (.invokestatic 109, 3) := by decide +kernel
theorem dX1_remember_83 : decode cX1_remember 83 = .ok (.putfield 52, 3) := by decide +kernel
theorem dX1_remember_86 : decode cX1_remember 86 = .ok (.return_, 1) := by decide +kernel
def x_X1_remember (M : gMem) (c : Nat) : Option gMem := gd (gin (M.1 c 0 11) 8) (Option.bind (x_X1_copyRow M c 4 c (15 + (M.1 c 0 11).toNatClampNeg)) (fun v2 => gd (gin (v2.1 c 0 11) 8) (Option.bind (x_X1_copyRow v2 c 5 c (24 + (v2.1 c 0 11).toNatClampNeg)) (fun v5 => gd (gin (v5.1 c 0 11) 8) (gd (gin ((gwr v5 c 32 (v5.1 c 0 11).toNatClampNeg (v5.1 c 0 15)).1 c 0 11) 8) (some (gwr (gwr (gwr (gwr v5 c 32 (v5.1 c 0 11).toNatClampNeg (v5.1 c 0 15)) c 33 ((gwr v5 c 32 (v5.1 c 0 11).toNatClampNeg (v5.1 c 0 15)).1 c 0 11).toNatClampNeg ((gwr v5 c 32 (v5.1 c 0 11).toNatClampNeg (v5.1 c 0 15)).1 c 0 14)) c 0 11 ((((gwr (gwr v5 c 32 (v5.1 c 0 11).toNatClampNeg (v5.1 c 0 15)) c 33 ((gwr v5 c 32 (v5.1 c 0 11).toNatClampNeg (v5.1 c 0 15)).1 c 0 11).toNatClampNeg ((gwr v5 c 32 (v5.1 c 0 11).toNatClampNeg (v5.1 c 0 15)).1 c 0 14)).1 c 0 11) + 1) - (((gwr (gwr v5 c 32 (v5.1 c 0 11).toNatClampNeg (v5.1 c 0 15)) c 33 ((gwr v5 c 32 (v5.1 c 0 11).toNatClampNeg (v5.1 c 0 15)).1 c 0 11).toNatClampNeg ((gwr v5 c 32 (v5.1 c 0 11).toNatClampNeg (v5.1 c 0 15)).1 c 0 14)).1 c 0 11) + 1) / 8 * 8)) c 0 12 (if 8 < (((gwr (gwr (gwr v5 c 32 (v5.1 c 0 11).toNatClampNeg (v5.1 c 0 15)) c 33 ((gwr v5 c 32 (v5.1 c 0 11).toNatClampNeg (v5.1 c 0 15)).1 c 0 11).toNatClampNeg ((gwr v5 c 32 (v5.1 c 0 11).toNatClampNeg (v5.1 c 0 15)).1 c 0 14)) c 0 11 ((((gwr (gwr v5 c 32 (v5.1 c 0 11).toNatClampNeg (v5.1 c 0 15)) c 33 ((gwr v5 c 32 (v5.1 c 0 11).toNatClampNeg (v5.1 c 0 15)).1 c 0 11).toNatClampNeg ((gwr v5 c 32 (v5.1 c 0 11).toNatClampNeg (v5.1 c 0 15)).1 c 0 14)).1 c 0 11) + 1) - (((gwr (gwr v5 c 32 (v5.1 c 0 11).toNatClampNeg (v5.1 c 0 15)) c 33 ((gwr v5 c 32 (v5.1 c 0 11).toNatClampNeg (v5.1 c 0 15)).1 c 0 11).toNatClampNeg ((gwr v5 c 32 (v5.1 c 0 11).toNatClampNeg (v5.1 c 0 15)).1 c 0 14)).1 c 0 11) + 1) / 8 * 8)).1 c 0 12) + 1) then 8 else (((gwr (gwr (gwr v5 c 32 (v5.1 c 0 11).toNatClampNeg (v5.1 c 0 15)) c 33 ((gwr v5 c 32 (v5.1 c 0 11).toNatClampNeg (v5.1 c 0 15)).1 c 0 11).toNatClampNeg ((gwr v5 c 32 (v5.1 c 0 11).toNatClampNeg (v5.1 c 0 15)).1 c 0 14)) c 0 11 ((((gwr (gwr v5 c 32 (v5.1 c 0 11).toNatClampNeg (v5.1 c 0 15)) c 33 ((gwr v5 c 32 (v5.1 c 0 11).toNatClampNeg (v5.1 c 0 15)).1 c 0 11).toNatClampNeg ((gwr v5 c 32 (v5.1 c 0 11).toNatClampNeg (v5.1 c 0 15)).1 c 0 14)).1 c 0 11) + 1) - (((gwr (gwr v5 c 32 (v5.1 c 0 11).toNatClampNeg (v5.1 c 0 15)) c 33 ((gwr v5 c 32 (v5.1 c 0 11).toNatClampNeg (v5.1 c 0 15)).1 c 0 11).toNatClampNeg ((gwr v5 c 32 (v5.1 c 0 11).toNatClampNeg (v5.1 c 0 15)).1 c 0 14)).1 c 0 11) + 1) / 8 * 8)).1 c 0 12) + 1)))))))))
set_option maxRecDepth 100000 in
set_option maxHeartbeats 4000000 in
theorem c_X1_remember {l : Launch} {Y : gY} {M : gMem} {c : Nat} {r : gMem} (hc : c < 4) (hx : x_X1_remember M c = some r) : Met l yX1_remember (gws yX1_remember cX1_remember 1 none) { frames := 2, cells := 0, slots := 0, locals := 61 } (va_Pc [.ref (gad Y c 0)] (gS0 Y M)) (gQv Y r) 0 0 (gA Y) := by
  refine gmet (lv := [(0, .ref (gad Y c 0))]) "GuestStaff$House" (by decide) rfl (Nat.le_of_ble_eq_true rfl) rfl (fun X hC hF => ?_)
  unfold x_X1_remember at hx
  refine q_aload_n hC 0 dX1_remember_0 rfl rfl ?_
  refine gf_X1_21 hC hc dX1_remember_1 ?_
  refine q_aload_n hC 0 dX1_remember_4 rfl rfl ?_
  refine gf_X1_36 hC hc dX1_remember_5 ?_
  refine q_aload_n hC 0 dX1_remember_8 rfl rfl ?_
  refine gf_X1_48 hC hc dX1_remember_9 ?_
  have g1 := (gd_e hx).1
  have hx := (gd_e hx).2
  refine q_aald (t0 := 4) hC (gV_h hc (by decide)) rfl rfl rfl g1 (grow_i g1) dX1_remember_12 ?_
  obtain ⟨v2, q3, hx⟩ := gb_e hx
  refine q_kv (q_rS (As := [.ref (gad Y c 4), .ref (gad Y c (15 + (M.1 c 0 11).toNatClampNeg))]) (rest := []) hC mm_X1_copyRow wM_X1_71 (c_X1_copyRow (gV_h hc (by decide)) rfl (gV_hr 8 hc g1 (by decide)) (gl_of (by decide) g1) q3) ⟨rfl, rfl, Nat.le_of_ble_eq_true rfl, Nat.le_of_ble_eq_true rfl⟩ rfl rfl (Nat.le_of_ble_eq_true rfl) dX1_remember_13) ?_
  refine q_aload_n hC 0 dX1_remember_16 rfl rfl ?_
  refine gf_X1_24 hC hc dX1_remember_17 ?_
  refine q_aload_n hC 0 dX1_remember_20 rfl rfl ?_
  refine gf_X1_39 hC hc dX1_remember_21 ?_
  refine q_aload_n hC 0 dX1_remember_24 rfl rfl ?_
  refine gf_X1_48 hC hc dX1_remember_25 ?_
  have g4 := (gd_e hx).1
  have hx := (gd_e hx).2
  refine q_aald (t0 := 4) hC (gV_h hc (by decide)) rfl rfl rfl g4 (grow_i g4) dX1_remember_28 ?_
  obtain ⟨v5, q6, hx⟩ := gb_e hx
  refine q_kv (q_rS (As := [.ref (gad Y c 5), .ref (gad Y c (24 + (v2.1 c 0 11).toNatClampNeg))]) (rest := []) hC mm_X1_copyRow wM_X1_71 (c_X1_copyRow (gV_h hc (by decide)) rfl (gV_hr 8 hc g4 (by decide)) (gl_of (by decide) g4) q6) ⟨rfl, rfl, Nat.le_of_ble_eq_true rfl, Nat.le_of_ble_eq_true rfl⟩ rfl rfl (Nat.le_of_ble_eq_true rfl) dX1_remember_29) ?_
  refine q_aload_n hC 0 dX1_remember_32 rfl rfl ?_
  refine gf_X1_42 hC hc dX1_remember_33 ?_
  refine q_aload_n hC 0 dX1_remember_36 rfl rfl ?_
  refine gf_X1_48 hC hc dX1_remember_37 ?_
  refine q_aload_n hC 0 dX1_remember_40 rfl rfl ?_
  refine gf_X1_61 hC hc dX1_remember_41 ?_
  have g7 := (gd_e hx).1
  have hx := (gd_e hx).2
  refine q_iast hC 7 (gV_h hc (by decide)) rfl g7 dX1_remember_44 ?_
  refine q_aload_n hC 0 dX1_remember_45 rfl rfl ?_
  refine gf_X1_45 hC hc dX1_remember_46 ?_
  refine q_aload_n hC 0 dX1_remember_49 rfl rfl ?_
  refine gf_X1_48 hC hc dX1_remember_50 ?_
  refine q_aload_n hC 0 dX1_remember_53 rfl rfl ?_
  refine gf_X1_58 hC hc dX1_remember_54 ?_
  have g8 := (gd_e hx).1
  have hx := (gd_e hx).2
  refine q_iast hC 7 (gV_h hc (by decide)) rfl g8 dX1_remember_57 ?_
  refine q_aload_n hC 0 dX1_remember_58 rfl rfl ?_
  refine q_aload_n hC 0 dX1_remember_59 rfl rfl ?_
  refine gf_X1_48 hC hc dX1_remember_60 ?_
  refine q_iconst hC 1 dX1_remember_63 rfl ?_
  refine q_iadd hC dX1_remember_64 ?_
  refine q_bipush hC 8 dX1_remember_65 rfl ?_
  refine q_irem hC dX1_remember_67 (by decide) ?_
  refine pf_X1_48 hC hc dX1_remember_68 ?_
  refine q_aload_n hC 0 dX1_remember_71 rfl rfl ?_
  refine q_aload_n hC 0 dX1_remember_72 rfl rfl ?_
  refine gf_X1_52 hC hc dX1_remember_73 ?_
  refine q_iconst hC 1 dX1_remember_76 rfl ?_
  refine q_iadd hC dX1_remember_77 ?_
  refine q_bipush hC 8 dX1_remember_78 rfl ?_
  refine q_min hC wM_X1_109 (by decide) (Nat.le_of_ble_eq_true rfl) dX1_remember_80 ?_
  refine pf_X1_52 hC hc dX1_remember_83 ?_
  exact q_vret hC hF dX1_remember_86 (Option.some.inj hx)

theorem dX1_recall_0 : decode cX1_recall 0 = .ok (.aload_n 0, 1) := by decide +kernel
theorem dX1_recall_1 : decode cX1_recall 1 = .ok (.aload_n 0, 1) := by decide +kernel
theorem dX1_recall_2 : decode cX1_recall 2 = .ok (.getfield 48, 3) := by decide +kernel
theorem dX1_recall_5 : decode cX1_recall 5 = .ok (.bipush 8, 2) := by decide +kernel
theorem dX1_recall_7 : decode cX1_recall 7 = .ok (.iadd, 1) := by decide +kernel
theorem dX1_recall_8 : decode cX1_recall 8 = .ok (.iconst 1, 1) := by decide +kernel
theorem dX1_recall_9 : decode cX1_recall 9 = .ok (.isub, 1) := by decide +kernel
theorem dX1_recall_10 : decode cX1_recall 10 = .ok (.bipush 8, 2) := by decide +kernel
theorem dX1_recall_12 : decode cX1_recall 12 = .ok (.irem, 1) := by decide +kernel
theorem dX1_recall_13 : decode cX1_recall 13 = .ok (.putfield 48, 3) := by decide +kernel
theorem dX1_recall_16 : decode cX1_recall 16 = .ok (.aload_n 0, 1) := by decide +kernel
theorem dX1_recall_17 : decode cX1_recall 17 = .ok (.dup, 1) := by decide +kernel
theorem dX1_recall_18 : decode cX1_recall 18 = .ok (.getfield 52, 3) := by decide +kernel
theorem dX1_recall_21 : decode cX1_recall 21 = .ok (.iconst 1, 1) := by decide +kernel
theorem dX1_recall_22 : decode cX1_recall 22 = .ok (.isub, 1) := by decide +kernel
theorem dX1_recall_23 : decode cX1_recall 23 = .ok (.putfield 52, 3) := by decide +kernel
theorem dX1_recall_26 : decode cX1_recall 26 = .ok (.aload_n 0, 1) := by decide +kernel
theorem dX1_recall_27 : decode cX1_recall 27 = .ok (.getfield 36, 3) := by decide +kernel
theorem dX1_recall_30 : decode cX1_recall 30 = .ok (.aload_n 0, 1) := by decide +kernel
theorem dX1_recall_31 : decode cX1_recall 31 = .ok (.getfield 48, 3) := by decide +kernel
theorem dX1_recall_34 : decode cX1_recall 34 = .ok (.aaload, 1) := by decide +kernel
theorem dX1_recall_35 : decode cX1_recall 35 = .ok (.aload_n 0, 1) := by decide +kernel
theorem dX1_recall_36 : decode cX1_recall 36 = .ok (.getfield 21, 3) := by decide +kernel
theorem dX1_recall_39 : decode cX1_recall 39 = .ok (.invokestatic 71, 3) := by decide +kernel
theorem dX1_recall_42 : decode cX1_recall 42 = .ok (.aload_n 0, 1) := by decide +kernel
theorem dX1_recall_43 : decode cX1_recall 43 = .ok (.getfield 39, 3) := by decide +kernel
theorem dX1_recall_46 : decode cX1_recall 46 = .ok (.aload_n 0, 1) := by decide +kernel
theorem dX1_recall_47 : decode cX1_recall 47 = .ok (.getfield 48, 3) := by decide +kernel
theorem dX1_recall_50 : decode cX1_recall 50 = .ok (.aaload, 1) := by decide +kernel
theorem dX1_recall_51 : decode cX1_recall 51 = .ok (.aload_n 0, 1) := by decide +kernel
theorem dX1_recall_52 : decode cX1_recall 52 = .ok (.getfield 24, 3) := by decide +kernel
theorem dX1_recall_55 : decode cX1_recall 55 = .ok (.invokestatic 71, 3) := by decide +kernel
theorem dX1_recall_58 : decode cX1_recall 58 = .ok (.aload_n 0, 1) := by decide +kernel
theorem dX1_recall_59 : decode cX1_recall 59 = .ok (.aload_n 0, 1) := by decide +kernel
theorem dX1_recall_60 : decode cX1_recall 60 = .ok (.getfield 42, 3) := by decide +kernel
theorem dX1_recall_63 : decode cX1_recall 63 = .ok (.aload_n 0, 1) := by decide +kernel
theorem dX1_recall_64 : decode cX1_recall 64 = .ok (.getfield 48, 3) := by decide +kernel
theorem dX1_recall_67 : decode cX1_recall 67 = .ok (.iaload, 1) := by decide +kernel
theorem dX1_recall_68 : decode cX1_recall 68 = .ok (.putfield 61, 3) := by decide +kernel
theorem dX1_recall_71 : decode cX1_recall 71 = .ok (.aload_n 0, 1) := by decide +kernel
theorem dX1_recall_72 : decode cX1_recall 72 = .ok (.aload_n 0, 1) := by decide +kernel
theorem dX1_recall_73 : decode cX1_recall 73 = .ok (.getfield 45, 3) := by decide +kernel
theorem dX1_recall_76 : decode cX1_recall 76 = .ok (.aload_n 0, 1) := by decide +kernel
theorem dX1_recall_77 : decode cX1_recall 77 = .ok (.getfield 48, 3) := by decide +kernel
theorem dX1_recall_80 : decode cX1_recall 80 = .ok (.iaload, 1) := by decide +kernel
theorem dX1_recall_81 : decode cX1_recall 81 = .ok (.putfield 58, 3) := by decide +kernel
theorem dX1_recall_84 : decode cX1_recall 84 = .ok (.return_, 1) := by decide +kernel
def x_X1_recall (M : gMem) (c : Nat) : Option gMem := gd (gin ((gwr (gwr M c 0 11 ((((M.1 c 0 11) + 8) - 1) - (((M.1 c 0 11) + 8) - 1) / 8 * 8)) c 0 12 (((gwr M c 0 11 ((((M.1 c 0 11) + 8) - 1) - (((M.1 c 0 11) + 8) - 1) / 8 * 8)).1 c 0 12) - 1)).1 c 0 11) 8) (Option.bind (x_X1_copyRow (gwr (gwr M c 0 11 ((((M.1 c 0 11) + 8) - 1) - (((M.1 c 0 11) + 8) - 1) / 8 * 8)) c 0 12 (((gwr M c 0 11 ((((M.1 c 0 11) + 8) - 1) - (((M.1 c 0 11) + 8) - 1) / 8 * 8)).1 c 0 12) - 1)) c (15 + ((gwr (gwr M c 0 11 ((((M.1 c 0 11) + 8) - 1) - (((M.1 c 0 11) + 8) - 1) / 8 * 8)) c 0 12 (((gwr M c 0 11 ((((M.1 c 0 11) + 8) - 1) - (((M.1 c 0 11) + 8) - 1) / 8 * 8)).1 c 0 12) - 1)).1 c 0 11).toNatClampNeg) c 4) (fun v2 => gd (gin (v2.1 c 0 11) 8) (Option.bind (x_X1_copyRow v2 c (24 + (v2.1 c 0 11).toNatClampNeg) c 5) (fun v5 => gd (gin (v5.1 c 0 11) 8) (gd (gin ((gwr v5 c 0 15 (v5.1 c 32 (v5.1 c 0 11).toNatClampNeg)).1 c 0 11) 8) (some (gwr (gwr v5 c 0 15 (v5.1 c 32 (v5.1 c 0 11).toNatClampNeg)) c 0 14 ((gwr v5 c 0 15 (v5.1 c 32 (v5.1 c 0 11).toNatClampNeg)).1 c 33 ((gwr v5 c 0 15 (v5.1 c 32 (v5.1 c 0 11).toNatClampNeg)).1 c 0 11).toNatClampNeg))))))))
set_option maxRecDepth 100000 in
set_option maxHeartbeats 4000000 in
theorem c_X1_recall {l : Launch} {Y : gY} {M : gMem} {c : Nat} {r : gMem} (hc : c < 4) (hx : x_X1_recall M c = some r) : Met l yX1_recall (gws yX1_recall cX1_recall 1 none) { frames := 2, cells := 0, slots := 0, locals := 61 } (va_Pc [.ref (gad Y c 0)] (gS0 Y M)) (gQv Y r) 0 0 (gA Y) := by
  refine gmet (lv := [(0, .ref (gad Y c 0))]) "GuestStaff$House" (by decide) rfl (Nat.le_of_ble_eq_true rfl) rfl (fun X hC hF => ?_)
  unfold x_X1_recall at hx
  refine q_aload_n hC 0 dX1_recall_0 rfl rfl ?_
  refine q_aload_n hC 0 dX1_recall_1 rfl rfl ?_
  refine gf_X1_48 hC hc dX1_recall_2 ?_
  refine q_bipush hC 8 dX1_recall_5 rfl ?_
  refine q_iadd hC dX1_recall_7 ?_
  refine q_iconst hC 1 dX1_recall_8 rfl ?_
  refine q_isub hC dX1_recall_9 ?_
  refine q_bipush hC 8 dX1_recall_10 rfl ?_
  refine q_irem hC dX1_recall_12 (by decide) ?_
  refine pf_X1_48 hC hc dX1_recall_13 ?_
  refine q_aload_n hC 0 dX1_recall_16 rfl rfl ?_
  refine q_dup hC dX1_recall_17 rfl ?_
  refine gf_X1_52 hC hc dX1_recall_18 ?_
  refine q_iconst hC 1 dX1_recall_21 rfl ?_
  refine q_isub hC dX1_recall_22 ?_
  refine pf_X1_52 hC hc dX1_recall_23 ?_
  refine q_aload_n hC 0 dX1_recall_26 rfl rfl ?_
  refine gf_X1_36 hC hc dX1_recall_27 ?_
  refine q_aload_n hC 0 dX1_recall_30 rfl rfl ?_
  refine gf_X1_48 hC hc dX1_recall_31 ?_
  have g1 := (gd_e hx).1
  have hx := (gd_e hx).2
  refine q_aald (t0 := 4) hC (gV_h hc (by decide)) rfl rfl rfl g1 (grow_i g1) dX1_recall_34 ?_
  refine q_aload_n hC 0 dX1_recall_35 rfl rfl ?_
  refine gf_X1_21 hC hc dX1_recall_36 ?_
  obtain ⟨v2, q3, hx⟩ := gb_e hx
  refine q_kv (q_rS (As := [.ref (gad Y c (15 + ((gwr (gwr M c 0 11 ((((M.1 c 0 11) + 8) - 1) - (((M.1 c 0 11) + 8) - 1) / 8 * 8)) c 0 12 (((gwr M c 0 11 ((((M.1 c 0 11) + 8) - 1) - (((M.1 c 0 11) + 8) - 1) / 8 * 8)).1 c 0 12) - 1)).1 c 0 11).toNatClampNeg)), .ref (gad Y c 4)]) (rest := []) hC mm_X1_copyRow wM_X1_71 (c_X1_copyRow (gV_hr 8 hc g1 (by decide)) (gl_of (by decide) g1) (gV_h hc (by decide)) rfl q3) ⟨rfl, rfl, Nat.le_of_ble_eq_true rfl, Nat.le_of_ble_eq_true rfl⟩ rfl rfl (Nat.le_of_ble_eq_true rfl) dX1_recall_39) ?_
  refine q_aload_n hC 0 dX1_recall_42 rfl rfl ?_
  refine gf_X1_39 hC hc dX1_recall_43 ?_
  refine q_aload_n hC 0 dX1_recall_46 rfl rfl ?_
  refine gf_X1_48 hC hc dX1_recall_47 ?_
  have g4 := (gd_e hx).1
  have hx := (gd_e hx).2
  refine q_aald (t0 := 4) hC (gV_h hc (by decide)) rfl rfl rfl g4 (grow_i g4) dX1_recall_50 ?_
  refine q_aload_n hC 0 dX1_recall_51 rfl rfl ?_
  refine gf_X1_24 hC hc dX1_recall_52 ?_
  obtain ⟨v5, q6, hx⟩ := gb_e hx
  refine q_kv (q_rS (As := [.ref (gad Y c (24 + (v2.1 c 0 11).toNatClampNeg)), .ref (gad Y c 5)]) (rest := []) hC mm_X1_copyRow wM_X1_71 (c_X1_copyRow (gV_hr 8 hc g4 (by decide)) (gl_of (by decide) g4) (gV_h hc (by decide)) rfl q6) ⟨rfl, rfl, Nat.le_of_ble_eq_true rfl, Nat.le_of_ble_eq_true rfl⟩ rfl rfl (Nat.le_of_ble_eq_true rfl) dX1_recall_55) ?_
  refine q_aload_n hC 0 dX1_recall_58 rfl rfl ?_
  refine q_aload_n hC 0 dX1_recall_59 rfl rfl ?_
  refine gf_X1_42 hC hc dX1_recall_60 ?_
  refine q_aload_n hC 0 dX1_recall_63 rfl rfl ?_
  refine gf_X1_48 hC hc dX1_recall_64 ?_
  have g7 := (gd_e hx).1
  have hx := (gd_e hx).2
  refine q_iald hC 7 (gV_h hc (by decide)) rfl g7 dX1_recall_67 ?_
  refine pf_X1_61 hC hc dX1_recall_68 ?_
  refine q_aload_n hC 0 dX1_recall_71 rfl rfl ?_
  refine q_aload_n hC 0 dX1_recall_72 rfl rfl ?_
  refine gf_X1_45 hC hc dX1_recall_73 ?_
  refine q_aload_n hC 0 dX1_recall_76 rfl rfl ?_
  refine gf_X1_48 hC hc dX1_recall_77 ?_
  have g8 := (gd_e hx).1
  have hx := (gd_e hx).2
  refine q_iald hC 7 (gV_h hc (by decide)) rfl g8 dX1_recall_80 ?_
  refine pf_X1_58 hC hc dX1_recall_81 ?_
  exact q_vret hC hF dX1_recall_84 (Option.some.inj hx)

theorem dX1_ringOf_0 : decode cX1_ringOf 0 = .ok (.aload_n 0, 1) := by decide +kernel
theorem dX1_ringOf_1 : decode cX1_ringOf 1 = .ok (.getfield 21, 3) := by decide +kernel
theorem dX1_ringOf_4 : decode cX1_ringOf 4 = .ok (.iload_n 1, 1) := by decide +kernel
theorem dX1_ringOf_5 : decode cX1_ringOf 5 = .ok (.iaload, 1) := by decide +kernel
theorem dX1_ringOf_6 : decode cX1_ringOf 6 = .ok (.istore_n 2, 1) := by decide +kernel
theorem dX1_ringOf_7 : decode cX1_ringOf 7 = .ok (.iconst 1, 1) := by decide +kernel
theorem dX1_ringOf_8 : decode cX1_ringOf 8 = .ok (.istore_n 3, 1) := by decide +kernel
theorem dX1_ringOf_9 : decode cX1_ringOf 9 = .ok (.iload_n 3, 1) := by decide +kernel
theorem dX1_ringOf_10 : decode cX1_ringOf 10 = .ok (.aload_n 0, 1) := by decide +kernel
theorem dX1_ringOf_11 : decode cX1_ringOf 11 = .ok (.getfield 55, 3) := by decide +kernel
theorem dX1_ringOf_14 : decode cX1_ringOf 14 = .ok (.if_icmp .gt 28, 3) := by decide +kernel
theorem dX1_ringOf_17 : decode cX1_ringOf 17 = .ok (.iload_n 2, 1) := by decide +kernel
theorem dX1_ringOf_18 : decode cX1_ringOf 18 = .ok (.iconst (-1), 1) := by decide +kernel
theorem dX1_ringOf_19 : decode cX1_ringOf 19 = .ok (.if_icmp .eq 23, 3) := by decide +kernel
theorem dX1_ringOf_22 : decode cX1_ringOf 22 = .ok (.iload_n 2, 1) := by decide +kernel
theorem dX1_ringOf_23 : decode cX1_ringOf 23 = .ok (.iload_n 1, 1) := by decide +kernel
theorem dX1_ringOf_24 : decode cX1_ringOf 24 = .ok (.if_icmp .ne 5, 3) := by decide +kernel
theorem dX1_ringOf_27 : decode cX1_ringOf 27 = .ok (.iload_n 3, 1) := by decide +kernel
theorem dX1_ringOf_28 : decode cX1_ringOf 28 = .ok (.ireturn, 1) := by decide +kernel
theorem dX1_ringOf_29 : decode cX1_ringOf 29 = .ok (.aload_n 0, 1) := by decide +kernel
theorem dX1_ringOf_30 : decode cX1_ringOf 30 = .ok (.getfield 21, 3) := by decide +kernel
theorem dX1_ringOf_33 : decode cX1_ringOf 33 = .ok (.iload_n 2, 1) := by decide +kernel
theorem dX1_ringOf_34 : decode cX1_ringOf 34 = .ok (.iaload, 1) := by decide +kernel
theorem dX1_ringOf_35 : decode cX1_ringOf 35 = .ok (.istore_n 2, 1) := by decide +kernel
theorem dX1_ringOf_36 : decode cX1_ringOf 36 = .ok (.iinc 3 1, 3) := by decide +kernel
theorem dX1_ringOf_39 : decode cX1_ringOf 39 = .ok (.goto (-30), 3) := by decide +kernel
theorem dX1_ringOf_42 : decode cX1_ringOf 42 = .ok (.iconst 0, 1) := by decide +kernel
theorem dX1_ringOf_43 : decode cX1_ringOf 43 = .ok (.ireturn, 1) := by decide +kernel
def s_X1_ringOf_9 (M : gMem) (c : Nat) (a1 : Int32) (b2 : Int32) (b3 : Int32) : Option ((Int32 × Int32) ⊕ ((Int32 × Int32) ⊕ Int32)) := (if (M.1 c 0 13) < b3 then some (.inr (.inl (b2, b3))) else (if b2 = (-1) then some (.inr (.inl (b2, b3))) else (if b2 = a1 then some (.inr (.inr b3)) else gd (gin b2 7) (some (.inl (M.1 c 4 (b2).toNatClampNeg, b3 + 1))))))
def x_X1_ringOf (M : gMem) (c : Nat) (p1 : Int32) : Option Int32 := gd (gin p1 7) (Option.bind (itr FU (fun s => s_X1_ringOf_9 M c p1 s.1 s.2) (M.1 c 4 (p1).toNatClampNeg, 1)) (fun e6 => Sum.elim (fun s7 => some 0) (fun z8 => some z8) e6))
set_option maxRecDepth 100000 in
set_option maxHeartbeats 4000000 in
theorem w_X1_ringOf_9 {X : gX} {Y : gY} {M : gMem} {c : Nat} {a1 : Int32} {r : Int32} (hC : gC X Y cX1_ringOf "GuestStaff$House" 4 0 0) (hF : gF X Y (some .int) (gQi Y (r, M))) (hc : c < 4) {e : ((Int32 × Int32) ⊕ Int32)} (kE : ∀ s : (Int32 × Int32), e = .inl s → gWW X Y 4 42 [] [] M) (kR : ∀ z : Int32, e = .inr z → z = r) : ∀ (F : Nat) (s : (Int32 × Int32)), itr F (fun s => s_X1_ringOf_9 M c a1 s.1 s.2) s = some e → gWW X Y 4 9 [(0, .ref (gad Y c 0)), (1, .int a1), (2, .int s.1), (3, .int s.2)] [] M := by
  intro F s
  refine itr_w (P := fun s => gWW X Y 4 9 [(0, .ref (gad Y c 0)), (1, .int a1), (2, .int s.1), (3, .int s.2)] [] M) (fun s o hx kI kx => ?_) F s
  obtain ⟨b2, b3⟩ := s
  have hx : s_X1_ringOf_9 M c a1 b2 b3 = some o := hx
  have kE : ∀ s : (Int32 × Int32), o = .inr (.inl s) → gWW X Y 4 42 [] [] M := fun s q => kE s (kx _ q).symm
  have kR : ∀ z : Int32, o = .inr (.inr z) → z = r := fun z q => kR z (kx _ q).symm
  unfold s_X1_ringOf_9 at hx
  refine q_iload_n hC 3 dX1_ringOf_9 rfl rfl ?_
  refine q_aload_n hC 0 dX1_ringOf_10 rfl rfl ?_
  refine gf_X1_55 hC hc dX1_ringOf_11 ?_
  refine q_ic_gt hC 42 dX1_ringOf_14 rfl (fun h2 => ?_) (fun h2 => ?_)
  · have hx := gi_p h2 hx
    exact q_sub [] rfl (kE (b2, b3) (Option.some.inj hx).symm)
  · have hx := gi_n h2 hx
    refine q_iload_n hC 2 dX1_ringOf_17 rfl rfl ?_
    refine q_iconst hC (-1) dX1_ringOf_18 rfl ?_
    refine q_ic_eq hC 42 dX1_ringOf_19 rfl (fun h3 => ?_) (fun h3 => ?_)
    · have hx := gi_p h3 hx
      exact q_sub [] rfl (kE (b2, b3) (Option.some.inj hx).symm)
    · have hx := gi_n h3 hx
      refine q_iload_n hC 2 dX1_ringOf_22 rfl rfl ?_
      refine q_iload_n hC 1 dX1_ringOf_23 rfl rfl ?_
      refine q_ic_ne hC 29 dX1_ringOf_24 rfl (fun h4 => ?_) (fun h4 => ?_)
      · have hx := gi_n h4 hx
        refine q_aload_n hC 0 dX1_ringOf_29 rfl rfl ?_
        refine gf_X1_21 hC hc dX1_ringOf_30 ?_
        refine q_iload_n hC 2 dX1_ringOf_33 rfl rfl ?_
        have g5 := (gd_e hx).1
        have hx := (gd_e hx).2
        refine q_iald hC 6 (gV_h hc (by decide)) rfl g5 dX1_ringOf_34 ?_
        refine q_istore_n hC [(2, .int (M.1 c 4 (b2).toNatClampNeg)), (0, .ref (gad Y c 0)), (1, .int a1), (3, .int b3)] dX1_ringOf_35 rfl (by decide) rfl ?_
        refine q_iinc hC 3 1 [(3, .int (b3 + 1)), (2, .int (M.1 c 4 (b2).toNatClampNeg)), (0, .ref (gad Y c 0)), (1, .int a1)] dX1_ringOf_36 rfl rfl (by decide) rfl ?_
        refine q_goto hC 9 dX1_ringOf_39 rfl ?_
        exact q_sub [2, 3, 1, 0] rfl (kI (M.1 c 4 (b2).toNatClampNeg, b3 + 1) (Option.some.inj hx).symm)
      · have hx := gi_p h4 hx
        refine q_iload_n hC 3 dX1_ringOf_27 rfl rfl ?_
        exact q_iret hC hF dX1_ringOf_28 (congrArg (fun z => (z, M)) (kR _ (Option.some.inj hx).symm))
set_option maxRecDepth 100000 in
set_option maxHeartbeats 4000000 in
theorem c_X1_ringOf {l : Launch} {Y : gY} {M : gMem} {c : Nat} {p1 : Int32} {r : Int32} (hc : c < 4) (hx : x_X1_ringOf M c p1 = some r) : Met l yX1_ringOf (gws yX1_ringOf cX1_ringOf 4 (some .int)) { frames := 0, cells := 0, slots := 0, locals := 0 } (va_Pc [.ref (gad Y c 0), .int p1] (gS0 Y M)) (gQi Y (r, M)) 0 0 (gA Y) := by
  refine gmet (lv := [(0, .ref (gad Y c 0)), (1, .int p1)]) "GuestStaff$House" (by decide) rfl (Nat.le_of_ble_eq_true rfl) rfl (fun X hC hF => ?_)
  unfold x_X1_ringOf at hx
  refine q_aload_n hC 0 dX1_ringOf_0 rfl rfl ?_
  refine gf_X1_21 hC hc dX1_ringOf_1 ?_
  refine q_iload_n hC 1 dX1_ringOf_4 rfl rfl ?_
  have g1 := (gd_e hx).1
  have hx := (gd_e hx).2
  refine q_iald hC 6 (gV_h hc (by decide)) rfl g1 dX1_ringOf_5 ?_
  refine q_istore_n hC [(2, .int (M.1 c 4 (p1).toNatClampNeg)), (0, .ref (gad Y c 0)), (1, .int p1)] dX1_ringOf_6 rfl (by decide) rfl ?_
  refine q_iconst hC 1 dX1_ringOf_7 rfl ?_
  refine q_istore_n hC [(3, .int 1), (2, .int (M.1 c 4 (p1).toNatClampNeg)), (0, .ref (gad Y c 0)), (1, .int p1)] dX1_ringOf_8 rfl (by decide) rfl ?_
  obtain ⟨e6, qe6, hx⟩ := gb_e hx
  refine q_sub [2, 3, 1, 0] rfl (w_X1_ringOf_9 hC hF hc (e := e6) (fun s7 qs7 => ?_) (fun z8 qz8 => ?_) _ _ qe6)
  · subst qs7
    refine q_iconst hC 0 dX1_ringOf_42 rfl ?_
    exact q_iret hC hF dX1_ringOf_43 (congrArg (fun z => (z, M)) (Option.some.inj hx))
  · subst qz8
    exact Option.some.inj hx

theorem dX1_wouldRather_0 : decode cX1_wouldRather 0 = .ok (.iload_n 3, 1) := by decide +kernel
theorem dX1_wouldRather_1 : decode cX1_wouldRather 1 = .ok (.iload_n 1, 1) := by decide +kernel
theorem dX1_wouldRather_2 : decode cX1_wouldRather 2 = .ok (.if_icmp .eq 31, 3) := by decide +kernel
theorem dX1_wouldRather_5 : decode cX1_wouldRather 5 = .ok (.aload_n 0, 1) := by decide +kernel
theorem dX1_wouldRather_6 : decode cX1_wouldRather 6 = .ok (.iload_n 3, 1) := by decide +kernel
theorem dX1_wouldRather_7 : decode cX1_wouldRather 7 = .ok (.iload_n 1, 1) := by decide +kernel
theorem dX1_wouldRather_8 : decode cX1_wouldRather 8 = .ok (.invokevirtual 85, 3) := by decide +kernel
theorem dX1_wouldRather_11 : decode cX1_wouldRather 11 = .ok (.ifCond .eq 22, 3) := by decide +kernel
theorem dX1_wouldRather_14 : decode cX1_wouldRather 14 = .ok (.aload_n 0, 1) := by decide +kernel
theorem dX1_wouldRather_15 : decode cX1_wouldRather 15 = .ok (.iload_n 1, 1) := by decide +kernel
theorem dX1_wouldRather_16 : decode cX1_wouldRather 16 = .ok (.iload_n 3, 1) := by decide +kernel
theorem dX1_wouldRather_17 : decode cX1_wouldRather 17 = .ok (.invokevirtual 102, 3) := by decide +kernel
theorem dX1_wouldRather_20 : decode cX1_wouldRather 20 = .ok (.aload_n 0, 1) := by decide +kernel
theorem dX1_wouldRather_21 : decode cX1_wouldRather 21 = .ok (.iload_n 1, 1) := by decide +kernel
theorem dX1_wouldRather_22 : decode cX1_wouldRather 22 = .ok (.iload_n 2, 1) := by decide +kernel
theorem dX1_wouldRather_23 : decode cX1_wouldRather 23 = .ok (.invokevirtual 102, 3) := by decide +kernel
theorem dX1_wouldRather_26 : decode cX1_wouldRather 26 = .ok (.if_icmp .le 7, 3) := by decide +kernel
theorem dX1_wouldRather_29 : decode cX1_wouldRather 29 = .ok (.iconst 1, 1) := by decide +kernel
theorem dX1_wouldRather_30 : decode cX1_wouldRather 30 = .ok (.goto 4, 3) := by decide +kernel
theorem dX1_wouldRather_33 : decode cX1_wouldRather 33 = .ok (.iconst 0, 1) := by decide +kernel
theorem dX1_wouldRather_34 : decode cX1_wouldRather 34 = .ok (.ireturn, 1) := by decide +kernel
def x_X1_wouldRather (M : gMem) (c : Nat) (p1 : Int32) (p2 : Int32) (p3 : Int32) : Option Int32 := (if p3 = p1 then some 0 else Option.bind (x_X1_canServe M c p3 p1) (fun v2 => (if v2 = 0 then some 0 else Option.bind (x_X1_contentBy M c p1 p3) (fun v6 => Option.bind (x_X1_contentBy M c p1 p2) (fun v8 => (if v6 ≤ v8 then some 0 else some 1))))))
set_option maxRecDepth 100000 in
set_option maxHeartbeats 4000000 in
theorem c_X1_wouldRather {l : Launch} {Y : gY} {M : gMem} {c : Nat} {p1 : Int32} {p2 : Int32} {p3 : Int32} {r : Int32} (hc : c < 4) (hx : x_X1_wouldRather M c p1 p2 p3 = some r) : Met l yX1_wouldRather (gws yX1_wouldRather cX1_wouldRather 4 (some .boolean)) { frames := 5, cells := 0, slots := 0, locals := 110 } (va_Pc [.ref (gad Y c 0), .int p1, .int p2, .int p3] (gS0 Y M)) (gQz Y (r, M)) 0 0 (gA Y) := by
  refine gmet (lv := [(0, .ref (gad Y c 0)), (1, .int p1), (2, .int p2), (3, .int p3)]) "GuestStaff$House" (by decide) rfl (Nat.le_of_ble_eq_true rfl) rfl (fun X hC hF => ?_)
  unfold x_X1_wouldRather at hx
  refine q_iload_n hC 3 dX1_wouldRather_0 rfl rfl ?_
  refine q_iload_n hC 1 dX1_wouldRather_1 rfl rfl ?_
  refine q_ic_eq hC 33 dX1_wouldRather_2 rfl (fun h1 => ?_) (fun h1 => ?_)
  · have hx := gi_p h1 hx
    refine q_iconst hC 0 dX1_wouldRather_33 rfl ?_
    exact q_zret hC hF dX1_wouldRather_34 (Or.inl rfl) (congrArg (fun z => (z, M)) (Option.some.inj hx))
  · have hx := gi_n h1 hx
    refine q_aload_n hC 0 dX1_wouldRather_5 rfl rfl ?_
    refine q_iload_n hC 3 dX1_wouldRather_6 rfl rfl ?_
    refine q_iload_n hC 1 dX1_wouldRather_7 rfl rfl ?_
    obtain ⟨v2, q3, hx⟩ := gb_e hx
    refine q_kzp (q_rV (As := [.int p3, .int p1]) (rest := []) hC mm_X1_canServe wM_X1_85 (c_X1_canServe hc q3) ⟨rfl, rfl, Nat.le_of_ble_eq_true rfl, Nat.le_of_ble_eq_true rfl⟩ (gV_h hc (by decide)) rfl rfl rfl rfl (Nat.le_of_ble_eq_true rfl) dX1_wouldRather_8) (fun z4 => ?_)
    refine q_if_eq hC 33 dX1_wouldRather_11 rfl (fun h5 => ?_) (fun h5 => ?_)
    · have hx := gi_p h5 hx
      refine q_iconst hC 0 dX1_wouldRather_33 rfl ?_
      exact q_zret hC hF dX1_wouldRather_34 (Or.inl rfl) (congrArg (fun z => (z, M)) (Option.some.inj hx))
    · have hx := gi_n h5 hx
      refine q_aload_n hC 0 dX1_wouldRather_14 rfl rfl ?_
      refine q_iload_n hC 1 dX1_wouldRather_15 rfl rfl ?_
      refine q_iload_n hC 3 dX1_wouldRather_16 rfl rfl ?_
      obtain ⟨v6, q7, hx⟩ := gb_e hx
      refine q_kip (q_rV (As := [.int p1, .int p3]) (rest := []) hC mm_X1_contentBy wM_X1_102 (c_X1_contentBy hc q7) ⟨rfl, rfl, Nat.le_of_ble_eq_true rfl, Nat.le_of_ble_eq_true rfl⟩ (gV_h hc (by decide)) rfl rfl rfl rfl (Nat.le_of_ble_eq_true rfl) dX1_wouldRather_17) ?_
      refine q_aload_n hC 0 dX1_wouldRather_20 rfl rfl ?_
      refine q_iload_n hC 1 dX1_wouldRather_21 rfl rfl ?_
      refine q_iload_n hC 2 dX1_wouldRather_22 rfl rfl ?_
      obtain ⟨v8, q9, hx⟩ := gb_e hx
      refine q_kip (q_rV (As := [.int p1, .int p2]) (rest := [.int v6]) hC mm_X1_contentBy wM_X1_102 (c_X1_contentBy hc q9) ⟨rfl, rfl, Nat.le_of_ble_eq_true rfl, Nat.le_of_ble_eq_true rfl⟩ (gV_h hc (by decide)) rfl rfl rfl rfl (Nat.le_of_ble_eq_true rfl) dX1_wouldRather_23) ?_
      refine q_ic_le hC 33 dX1_wouldRather_26 rfl (fun h10 => ?_) (fun h10 => ?_)
      · have hx := gi_p h10 hx
        refine q_iconst hC 0 dX1_wouldRather_33 rfl ?_
        exact q_zret hC hF dX1_wouldRather_34 (Or.inl rfl) (congrArg (fun z => (z, M)) (Option.some.inj hx))
      · have hx := gi_n h10 hx
        refine q_iconst hC 1 dX1_wouldRather_29 rfl ?_
        refine q_goto hC 34 dX1_wouldRather_30 rfl ?_
        exact q_zret hC hF dX1_wouldRather_34 (Or.inr rfl) (congrArg (fun z => (z, M)) (Option.some.inj hx))

theorem dX1_wouldSwap_0 : decode cX1_wouldSwap 0 = .ok (.aload_n 0, 1) := by decide +kernel
theorem dX1_wouldSwap_1 : decode cX1_wouldSwap 1 = .ok (.iload_n 1, 1) := by decide +kernel
theorem dX1_wouldSwap_2 : decode cX1_wouldSwap 2 = .ok (.invokevirtual 92, 3) := by decide +kernel
theorem dX1_wouldSwap_5 : decode cX1_wouldSwap 5 = .ok (.istore_n 3, 1) := by decide +kernel
theorem dX1_wouldSwap_6 : decode cX1_wouldSwap 6 = .ok (.aload_n 0, 1) := by decide +kernel
theorem dX1_wouldSwap_7 : decode cX1_wouldSwap 7 = .ok (.iload_n 2, 1) := by decide +kernel
theorem dX1_wouldSwap_8 : decode cX1_wouldSwap 8 = .ok (.invokevirtual 92, 3) := by decide +kernel
theorem dX1_wouldSwap_11 : decode cX1_wouldSwap 11 = .ok (.istore 4, 2) := by decide +kernel
theorem dX1_wouldSwap_13 : decode cX1_wouldSwap 13 = .ok (.iload_n 3, 1) := by decide +kernel
theorem dX1_wouldSwap_14 : decode cX1_wouldSwap 14 = .ok (.iconst (-1), 1) := by decide +kernel
theorem dX1_wouldSwap_15 : decode cX1_wouldSwap 15 = .ok (.if_icmp .eq 35, 3) := by decide +kernel
theorem dX1_wouldSwap_18 : decode cX1_wouldSwap 18 = .ok (.iload 4, 2) := by decide +kernel
theorem dX1_wouldSwap_20 : decode cX1_wouldSwap 20 = .ok (.iconst (-1), 1) := by decide +kernel
theorem dX1_wouldSwap_21 : decode cX1_wouldSwap 21 = .ok (.if_icmp .eq 29, 3) := by decide +kernel
theorem dX1_wouldSwap_24 : decode cX1_wouldSwap 24 = .ok (.aload_n 0, 1) := by decide +kernel
theorem dX1_wouldSwap_25 : decode cX1_wouldSwap 25 = .ok (.iload_n 1, 1) := by decide +kernel
theorem dX1_wouldSwap_26 : decode cX1_wouldSwap 26 = .ok (.iload_n 3, 1) := by decide +kernel
theorem dX1_wouldSwap_27 : decode cX1_wouldSwap 27 = .ok (.iload 4, 2) := by decide +kernel
theorem dX1_wouldSwap_29 : decode cX1_wouldSwap 29 = .ok (.invokevirtual 114, 3) := by decide +kernel
theorem dX1_wouldSwap_32 : decode cX1_wouldSwap 32 = .ok (.ifCond .eq 18, 3) := by decide +kernel
theorem dX1_wouldSwap_35 : decode cX1_wouldSwap 35 = .ok (.aload_n 0, 1) := by decide +kernel
theorem dX1_wouldSwap_36 : decode cX1_wouldSwap 36 = .ok (.iload_n 2, 1) := by decide +kernel
theorem dX1_wouldSwap_37 : decode cX1_wouldSwap 37 = .ok (.iload 4, 2) := by decide +kernel
theorem dX1_wouldSwap_39 : decode cX1_wouldSwap 39 = .ok (.iload_n 3, 1) := by decide +kernel
theorem dX1_wouldSwap_40 : decode cX1_wouldSwap 40 = .ok (.invokevirtual 114, 3) := by decide +kernel
theorem dX1_wouldSwap_43 : decode cX1_wouldSwap 43 = .ok (.ifCond .eq 7, 3) := by decide +kernel
theorem dX1_wouldSwap_46 : decode cX1_wouldSwap 46 = .ok (.iconst 1, 1) := by decide +kernel
theorem dX1_wouldSwap_47 : decode cX1_wouldSwap 47 = .ok (.goto 4, 3) := by decide +kernel
theorem dX1_wouldSwap_50 : decode cX1_wouldSwap 50 = .ok (.iconst 0, 1) := by decide +kernel
theorem dX1_wouldSwap_51 : decode cX1_wouldSwap 51 = .ok (.ireturn, 1) := by decide +kernel
def x_X1_wouldSwap (M : gMem) (c : Nat) (p1 : Int32) (p2 : Int32) : Option Int32 := Option.bind (x_X1_serverOf M c p1) (fun v1 => Option.bind (x_X1_serverOf M c p2) (fun v3 => (if v1 = (-1) then some 0 else (if v3 = (-1) then some 0 else Option.bind (x_X1_wouldRather M c p1 v1 v3) (fun v7 => (if v7 = 0 then some 0 else Option.bind (x_X1_wouldRather M c p2 v3 v1) (fun v11 => (if v11 = 0 then some 0 else some 1))))))))
set_option maxRecDepth 100000 in
set_option maxHeartbeats 4000000 in
theorem c_X1_wouldSwap {l : Launch} {Y : gY} {M : gMem} {c : Nat} {p1 : Int32} {p2 : Int32} {r : Int32} (hc : c < 4) (hx : x_X1_wouldSwap M c p1 p2 = some r) : Met l yX1_wouldSwap (gws yX1_wouldSwap cX1_wouldSwap 5 (some .boolean)) { frames := 6, cells := 0, slots := 0, locals := 133 } (va_Pc [.ref (gad Y c 0), .int p1, .int p2] (gS0 Y M)) (gQz Y (r, M)) 0 0 (gA Y) := by
  refine gmet (lv := [(0, .ref (gad Y c 0)), (1, .int p1), (2, .int p2)]) "GuestStaff$House" (by decide) rfl (Nat.le_of_ble_eq_true rfl) rfl (fun X hC hF => ?_)
  unfold x_X1_wouldSwap at hx
  refine q_aload_n hC 0 dX1_wouldSwap_0 rfl rfl ?_
  refine q_iload_n hC 1 dX1_wouldSwap_1 rfl rfl ?_
  obtain ⟨v1, q2, hx⟩ := gb_e hx
  refine q_kip (q_rV (As := [.int p1]) (rest := []) hC mm_X1_serverOf wM_X1_92 (c_X1_serverOf hc q2) ⟨rfl, rfl, Nat.le_of_ble_eq_true rfl, Nat.le_of_ble_eq_true rfl⟩ (gV_h hc (by decide)) rfl rfl rfl rfl (Nat.le_of_ble_eq_true rfl) dX1_wouldSwap_2) ?_
  refine q_istore_n hC [(3, .int v1), (0, .ref (gad Y c 0)), (1, .int p1), (2, .int p2)] dX1_wouldSwap_5 rfl (by decide) rfl ?_
  refine q_aload_n hC 1 dX1_wouldSwap_6 rfl rfl ?_
  refine q_iload_n hC 3 dX1_wouldSwap_7 rfl rfl ?_
  obtain ⟨v3, q4, hx⟩ := gb_e hx
  refine q_kip (q_rV (As := [.int p2]) (rest := []) hC mm_X1_serverOf wM_X1_92 (c_X1_serverOf hc q4) ⟨rfl, rfl, Nat.le_of_ble_eq_true rfl, Nat.le_of_ble_eq_true rfl⟩ (gV_h hc (by decide)) rfl rfl rfl rfl (Nat.le_of_ble_eq_true rfl) dX1_wouldSwap_8) ?_
  refine q_istore hC [(4, .int v3), (3, .int v1), (0, .ref (gad Y c 0)), (1, .int p1), (2, .int p2)] dX1_wouldSwap_11 (by decide) rfl ?_
  refine q_iload_n hC 1 dX1_wouldSwap_13 rfl rfl ?_
  refine q_iconst hC (-1) dX1_wouldSwap_14 rfl ?_
  refine q_ic_eq hC 50 dX1_wouldSwap_15 rfl (fun h5 => ?_) (fun h5 => ?_)
  · have hx := gi_p h5 hx
    refine q_iconst hC 0 dX1_wouldSwap_50 rfl ?_
    exact q_zret hC hF dX1_wouldSwap_51 (Or.inl rfl) (congrArg (fun z => (z, M)) (Option.some.inj hx))
  · have hx := gi_n h5 hx
    refine q_iload hC 0 dX1_wouldSwap_18 rfl ?_
    refine q_iconst hC (-1) dX1_wouldSwap_20 rfl ?_
    refine q_ic_eq hC 50 dX1_wouldSwap_21 rfl (fun h6 => ?_) (fun h6 => ?_)
    · have hx := gi_p h6 hx
      refine q_iconst hC 0 dX1_wouldSwap_50 rfl ?_
      exact q_zret hC hF dX1_wouldSwap_51 (Or.inl rfl) (congrArg (fun z => (z, M)) (Option.some.inj hx))
    · have hx := gi_n h6 hx
      refine q_aload_n hC 2 dX1_wouldSwap_24 rfl rfl ?_
      refine q_iload_n hC 3 dX1_wouldSwap_25 rfl rfl ?_
      refine q_iload_n hC 1 dX1_wouldSwap_26 rfl rfl ?_
      refine q_iload hC 0 dX1_wouldSwap_27 rfl ?_
      obtain ⟨v7, q8, hx⟩ := gb_e hx
      refine q_kzp (q_rV (As := [.int p1, .int v1, .int v3]) (rest := []) hC mm_X1_wouldRather wM_X1_114 (c_X1_wouldRather hc q8) ⟨rfl, rfl, Nat.le_of_ble_eq_true rfl, Nat.le_of_ble_eq_true rfl⟩ (gV_h hc (by decide)) rfl rfl rfl rfl (Nat.le_of_ble_eq_true rfl) dX1_wouldSwap_29) (fun z9 => ?_)
      refine q_if_eq hC 50 dX1_wouldSwap_32 rfl (fun h10 => ?_) (fun h10 => ?_)
      · have hx := gi_p h10 hx
        refine q_iconst hC 0 dX1_wouldSwap_50 rfl ?_
        exact q_zret hC hF dX1_wouldSwap_51 (Or.inl rfl) (congrArg (fun z => (z, M)) (Option.some.inj hx))
      · have hx := gi_n h10 hx
        refine q_aload_n hC 2 dX1_wouldSwap_35 rfl rfl ?_
        refine q_iload_n hC 4 dX1_wouldSwap_36 rfl rfl ?_
        refine q_iload hC 0 dX1_wouldSwap_37 rfl ?_
        refine q_iload_n hC 1 dX1_wouldSwap_39 rfl rfl ?_
        obtain ⟨v11, q12, hx⟩ := gb_e hx
        refine q_kzp (q_rV (As := [.int p2, .int v3, .int v1]) (rest := []) hC mm_X1_wouldRather wM_X1_114 (c_X1_wouldRather hc q12) ⟨rfl, rfl, Nat.le_of_ble_eq_true rfl, Nat.le_of_ble_eq_true rfl⟩ (gV_h hc (by decide)) rfl rfl rfl rfl (Nat.le_of_ble_eq_true rfl) dX1_wouldSwap_40) (fun z13 => ?_)
        refine q_if_eq hC 50 dX1_wouldSwap_43 rfl (fun h14 => ?_) (fun h14 => ?_)
        · have hx := gi_p h14 hx
          refine q_iconst hC 0 dX1_wouldSwap_50 rfl ?_
          exact q_zret hC hF dX1_wouldSwap_51 (Or.inl rfl) (congrArg (fun z => (z, M)) (Option.some.inj hx))
        · have hx := gi_n h14 hx
          refine q_iconst hC 1 dX1_wouldSwap_46 rfl ?_
          refine q_goto hC 51 dX1_wouldSwap_47 rfl ?_
          exact q_zret hC hF dX1_wouldSwap_51 (Or.inr rfl) (congrArg (fun z => (z, M)) (Option.some.inj hx))

theorem dX3_allFit_0 : decode cX3_allFit 0 = .ok (.iconst 0, 1) := by decide +kernel
theorem dX3_allFit_1 : decode cX3_allFit 1 = .ok (.istore 4, 2) := by decide +kernel
theorem dX3_allFit_3 : decode cX3_allFit 3 = .ok (.iload 4, 2) := by decide +kernel
theorem dX3_allFit_5 : decode cX3_allFit 5 = .ok (.aload_n 0, 1) := by decide +kernel
theorem dX3_allFit_6 : decode cX3_allFit 6 = .ok (.getfield 16, 3) := by decide +kernel
theorem dX3_allFit_9 : decode cX3_allFit 9 = .ok (.if_icmp .ge 63, 3) := by decide +kernel
theorem dX3_allFit_12 : decode cX3_allFit 12 = .ok (.aload_n 0, 1) := by decide +kernel
theorem dX3_allFit_13 : decode cX3_allFit 13 = .ok (.getfield 13, 3) := by decide +kernel
theorem dX3_allFit_16 : decode cX3_allFit 16 = .ok (.iload 4, 2) := by decide +kernel
theorem dX3_allFit_18 : decode cX3_allFit 18 = .ok (.aaload, 1) := by decide +kernel
theorem dX3_allFit_19 : decode cX3_allFit 19 = .ok (.astore 5, 2) := by decide +kernel
theorem dX3_allFit_21 : decode cX3_allFit 21 = .ok (.aload 5, 2) := by decide +kernel
theorem dX3_allFit_23 : decode cX3_allFit 23 = .ok (.iconst 2, 1) := by decide +kernel
theorem dX3_allFit_24 : decode cX3_allFit 24 = .ok (.iaload, 1) := by decide +kernel
theorem dX3_allFit_25 : decode cX3_allFit 25 = .ok (.iload_n 3, 1) := by decide +kernel
theorem dX3_allFit_26 : decode cX3_allFit 26 = .ok (.if_icmp .ne 18, 3) := by decide +kernel
theorem dX3_allFit_29 : decode cX3_allFit 29 = .ok (.aload_n 2, 1) := by decide +kernel
theorem dX3_allFit_30 : decode cX3_allFit 30 = .ok (.aload 5, 2) := by decide +kernel
theorem dX3_allFit_32 : decode cX3_allFit 32 = .ok (.iconst 1, 1) := by decide +kernel
theorem dX3_allFit_33 : decode cX3_allFit 33 = .ok (.iaload, 1) := by decide +kernel
theorem dX3_allFit_34 : decode cX3_allFit 34 = .ok (.aload 5, 2) := by decide +kernel
theorem dX3_allFit_36 : decode cX3_allFit 36 = .ok (.iconst 3, 1) := by decide +kernel
theorem dX3_allFit_37 : decode cX3_allFit 37 = .ok (.iaload, 1) := by decide +kernel
theorem dX3_allFit_38 : decode cX3_allFit 38 = .ok (.invokevirtual 30, 3) := by decide +kernel
theorem dX3_allFit_41 : decode cX3_allFit 41 = .ok (.goto 4, 3) := by decide +kernel
theorem dX3_allFit_44 : decode cX3_allFit 44 = .ok (.iconst 0, 1) := by decide +kernel
theorem dX3_allFit_45 : decode cX3_allFit 45 = .ok (.istore 6, 2) := by decide +kernel
theorem dX3_allFit_47 : decode cX3_allFit 47 = .ok (.aload 5, 2) := by decide +kernel
theorem dX3_allFit_49 : decode cX3_allFit 49 = .ok (.iconst 0, 1) := by decide +kernel
theorem dX3_allFit_50 : decode cX3_allFit 50 = .ok (.iaload, 1) := by decide +kernel
theorem dX3_allFit_51 : decode cX3_allFit 51 = .ok (.iload_n 1, 1) := by decide +kernel
theorem dX3_allFit_52 : decode cX3_allFit 52 = .ok (.if_icmp .ne 14, 3) := by decide +kernel
theorem dX3_allFit_55 : decode cX3_allFit 55 = .ok (.aload 5, 2) := by decide +kernel
theorem dX3_allFit_57 : decode cX3_allFit 57 = .ok (.iconst 4, 1) := by decide +kernel
theorem dX3_allFit_58 : decode cX3_allFit 58 = .ok (.iaload, 1) := by decide +kernel
theorem dX3_allFit_59 : decode cX3_allFit 59 = .ok (.iload 6, 2) := by decide +kernel
theorem dX3_allFit_61 : decode cX3_allFit 61 = .ok (.if_icmp .eq 5, 3) := by decide +kernel
theorem dX3_allFit_64 : decode cX3_allFit 64 = .ok (.iconst 0, 1) := by decide +kernel
theorem dX3_allFit_65 : decode cX3_allFit 65 = .ok (.ireturn, 1) := by decide +kernel
theorem dX3_allFit_66 : decode cX3_allFit 66 = .ok (.iinc 4 1, 3) := by decide +kernel
theorem dX3_allFit_69 : decode cX3_allFit 69 = .ok (.goto (-66), 3) := by decide +kernel
theorem dX3_allFit_72 : decode cX3_allFit 72 = .ok (.iconst 1, 1) := by decide +kernel
theorem dX3_allFit_73 : decode cX3_allFit 73 = .ok (.ireturn, 1) := by decide +kernel
def j_X3_allFit_3_66 (M : gMem) (c : Nat) (kd : Nat) (a1 : Int32) (a3 : Int32) (b4 : Int32) : Option (Int32 ⊕ (Int32 ⊕ Int32)) := some (.inl (b4 + 1))
def j_X3_allFit_3_45 (M : gMem) (c : Nat) (kd : Nat) (a1 : Int32) (a3 : Int32) (b4 : Int32) (t0 : Int32) : Option (Int32 ⊕ (Int32 ⊕ Int32)) := (if (M.1 c (8 + (b4).toNatClampNeg) 0) = a1 then (if (M.1 c (8 + (b4).toNatClampNeg) 4) = t0 then j_X3_allFit_3_66 M c kd a1 a3 b4 else some (.inr (.inr 0))) else j_X3_allFit_3_66 M c kd a1 a3 b4)
def s_X3_allFit_3 (M : gMem) (c : Nat) (kd : Nat) (a1 : Int32) (a3 : Int32) (b4 : Int32) : Option (Int32 ⊕ (Int32 ⊕ Int32)) := (if (M.1 c 6 1) ≤ b4 then some (.inr (.inl b4)) else gd (gin b4 6) ((if (M.1 c (8 + (b4).toNatClampNeg) 2) = a3 then Option.bind (x_K_contentBy kd (M.1 c (8 + (b4).toNatClampNeg) 1) (M.1 c (8 + (b4).toNatClampNeg) 3)) (fun v6 => j_X3_allFit_3_45 M c kd a1 a3 b4 v6) else j_X3_allFit_3_45 M c kd a1 a3 b4 0)))
def x_X3_allFit (M : gMem) (c : Nat) (kd : Nat) (p1 : Int32) (p3 : Int32) : Option Int32 := Option.bind (itr FU (fun s => s_X3_allFit_3 M c kd p1 p3 s) 0) (fun e8 => Sum.elim (fun s9 => some 1) (fun z10 => some z10) e8)
set_option maxRecDepth 100000 in
set_option maxHeartbeats 4000000 in
theorem w_X3_allFit_3 {X : gX} {Y : gY} {M : gMem} {c : Nat} {kd : Nat} {a1 : Int32} {a3 : Int32} {r : Int32} (hC : gC X Y cX3_allFit "GuestStaff$Notes" 7 4 88) (hF : gF X Y (some .boolean) (gQz Y (r, M))) (hc : c < 4) (hkd : kd < 6) {e : (Int32 ⊕ Int32)} (kE : ∀ s : Int32, e = .inl s → gWW X Y 7 72 [] [] M) (kR : ∀ z : Int32, e = .inr z → z = r) : ∀ (F : Nat) (s : Int32), itr F (fun s => s_X3_allFit_3 M c kd a1 a3 s) s = some e → gWW X Y 7 3 [(0, .ref (gad Y c 6)), (1, .int a1), (2, .ref (gad Y 0 (52 + kd))), (3, .int a3), (4, .int s)] [] M := by
  intro F s
  refine itr_w (P := fun s => gWW X Y 7 3 [(0, .ref (gad Y c 6)), (1, .int a1), (2, .ref (gad Y 0 (52 + kd))), (3, .int a3), (4, .int s)] [] M) (fun s o hx kI kx => ?_) F s
  obtain ⟨b4, rfl⟩ : ∃ z, z = s := ⟨s, rfl⟩
  have hx : s_X3_allFit_3 M c kd a1 a3 b4 = some o := hx
  have kE : ∀ s : Int32, o = .inr (.inl s) → gWW X Y 7 72 [] [] M := fun s q => kE s (kx _ q).symm
  have kR : ∀ z : Int32, o = .inr (.inr z) → z = r := fun z q => kR z (kx _ q).symm
  have J66 : ∀ (b4 : Int32) , j_X3_allFit_3_66 M c kd a1 a3 b4 = some o → gWW X Y 7 66 [(0, .ref (gad Y c 6)), (1, .int a1), (2, .ref (gad Y 0 (52 + kd))), (3, .int a3), (4, .int b4)] [] M := by
    intro b4 hx
    unfold j_X3_allFit_3_66 at hx
    refine q_iinc hC 4 1 [(4, .int (b4 + 1)), (0, .ref (gad Y c 6)), (1, .int a1), (2, .ref (gad Y 0 (52 + kd))), (3, .int a3)] dX3_allFit_66 rfl rfl (by decide) rfl ?_
    refine q_goto hC 3 dX3_allFit_69 rfl ?_
    exact q_sub [1, 2, 3, 4, 0] rfl (kI (b4 + 1) (Option.some.inj hx).symm)
  have J45 : ∀ (b4 : Int32) (t0 : Int32) , gin b4 6 → j_X3_allFit_3_45 M c kd a1 a3 b4 t0 = some o → gWW X Y 7 45 [(0, .ref (gad Y c 6)), (1, .int a1), (2, .ref (gad Y 0 (52 + kd))), (3, .int a3), (4, .int b4), (5, .ref (gad Y c (8 + (b4).toNatClampNeg)))] [.int t0] M := by
    intro b4 t0 f5 hx
    unfold j_X3_allFit_3_45 at hx
    refine q_istore hC [(6, .int t0), (0, .ref (gad Y c 6)), (1, .int a1), (2, .ref (gad Y 0 (52 + kd))), (3, .int a3), (4, .int b4), (5, .ref (gad Y c (8 + (b4).toNatClampNeg)))] dX3_allFit_45 (by decide) rfl ?_
    refine q_aload hC 6 dX3_allFit_47 rfl ?_
    refine q_iconst hC 0 dX3_allFit_49 rfl ?_
    refine q_ialdk hC 0 4 (gV_hr 6 hc f5 (by decide)) (gl_of (by decide) f5) (by decide) rfl dX3_allFit_50 ?_
    refine q_iload_n hC 2 dX3_allFit_51 rfl rfl ?_
    refine q_ic_ne hC 66 dX3_allFit_52 rfl (fun h4 => ?_) (fun h4 => ?_)
    · have hx := gi_n h4 hx
      exact q_sub [1, 2, 3, 4, 5] rfl (J66 b4 hx)
    · have hx := gi_p h4 hx
      refine q_aload hC 6 dX3_allFit_55 rfl ?_
      refine q_iconst hC 4 dX3_allFit_57 rfl ?_
      refine q_ialdk hC 4 4 (gV_hr 6 hc f5 (by decide)) (gl_of (by decide) f5) (by decide) rfl dX3_allFit_58 ?_
      refine q_iload hC 0 dX3_allFit_59 rfl ?_
      refine q_ic_eq hC 66 dX3_allFit_61 rfl (fun h5 => ?_) (fun h5 => ?_)
      · have hx := gi_p h5 hx
        exact q_sub [1, 2, 3, 4, 5] rfl (J66 b4 hx)
      · have hx := gi_n h5 hx
        refine q_iconst hC 0 dX3_allFit_64 rfl ?_
        exact q_zret hC hF dX3_allFit_65 (Or.inl rfl) (congrArg (fun z => (z, M)) (kR _ (Option.some.inj hx).symm))
  unfold s_X3_allFit_3 at hx
  refine q_iload hC 4 dX3_allFit_3 rfl ?_
  refine q_aload_n hC 0 dX3_allFit_5 rfl rfl ?_
  refine gf_X3_16 hC hc dX3_allFit_6 ?_
  refine q_ic_ge hC 72 dX3_allFit_9 rfl (fun h1 => ?_) (fun h1 => ?_)
  · have hx := gi_p h1 hx
    exact q_sub [] rfl (kE b4 (Option.some.inj hx).symm)
  · have hx := gi_n h1 hx
    refine q_aload_n hC 0 dX3_allFit_12 rfl rfl ?_
    refine gf_X3_13 hC hc dX3_allFit_13 ?_
    refine q_iload hC 4 dX3_allFit_16 rfl ?_
    have g2 := (gd_e hx).1
    have hx := (gd_e hx).2
    refine q_aald (t0 := 4) hC (gV_h hc (by decide)) rfl rfl rfl g2 (grow_i g2) dX3_allFit_18 ?_
    refine q_astore hC [(5, .ref (gad Y c (8 + (b4).toNatClampNeg))), (0, .ref (gad Y c 6)), (1, .int a1), (2, .ref (gad Y 0 (52 + kd))), (3, .int a3), (4, .int b4)] dX3_allFit_19 (by decide) rfl ?_
    refine q_aload hC 0 dX3_allFit_21 rfl ?_
    refine q_iconst hC 2 dX3_allFit_23 rfl ?_
    refine q_ialdk hC 2 4 (gV_hr 6 hc g2 (by decide)) (gl_of (by decide) g2) (by decide) rfl dX3_allFit_24 ?_
    refine q_iload_n hC 4 dX3_allFit_25 rfl rfl ?_
    refine q_ic_ne hC 44 dX3_allFit_26 rfl (fun h3 => ?_) (fun h3 => ?_)
    · have hx := gi_n h3 hx
      refine q_iconst hC 0 dX3_allFit_44 rfl ?_
      exact q_sub [1, 2, 3, 4, 5, 0] rfl (J45 b4 0 g2 hx)
    · have hx := gi_p h3 hx
      refine q_aload_n hC 3 dX3_allFit_29 rfl rfl ?_
      refine q_aload hC 0 dX3_allFit_30 rfl ?_
      refine q_iconst hC 1 dX3_allFit_32 rfl ?_
      refine q_ialdk hC 1 4 (gV_hr 6 hc g2 (by decide)) (gl_of (by decide) g2) (by decide) rfl dX3_allFit_33 ?_
      refine q_aload hC 0 dX3_allFit_34 rfl ?_
      refine q_iconst hC 3 dX3_allFit_36 rfl ?_
      refine q_ialdk hC 3 4 (gV_hr 6 hc g2 (by decide)) (gl_of (by decide) g2) (by decide) rfl dX3_allFit_37 ?_
      obtain ⟨v6, q7, hx⟩ := gb_e hx
      refine q_kip ((q_rKc (As := [.int (M.1 c (8 + (b4).toNatClampNeg) 1), .int (M.1 c (8 + (b4).toNatClampNeg) 3)]) (rest := []) hC wM_X3_30 hkd q7 (Nat.le_of_ble_eq_true rfl) (Nat.le_of_ble_eq_true rfl) rfl rfl (Nat.le_of_ble_eq_true rfl) dX3_allFit_38).choose_spec) ?_
      refine q_goto hC 45 dX3_allFit_41 rfl ?_
      exact q_sub [1, 2, 3, 4, 5, 0] rfl (J45 b4 v6 g2 hx)
set_option maxRecDepth 100000 in
set_option maxHeartbeats 4000000 in
theorem c_X3_allFit {l : Launch} {Y : gY} {M : gMem} {c : Nat} {kd : Nat} {p1 : Int32} {p3 : Int32} {r : Int32} (hc : c < 4) (hkd : kd < 6) (hx : x_X3_allFit M c kd p1 p3 = some r) : Met l yX3_allFit (gws yX3_allFit cX3_allFit 7 (some .boolean)) { frames := 4, cells := 0, slots := 0, locals := 88 } (va_Pc [.ref (gad Y c 6), .int p1, .ref (gad Y 0 (52 + kd)), .int p3] (gS0 Y M)) (gQz Y (r, M)) 0 0 (gA Y) := by
  refine gmet (lv := [(0, .ref (gad Y c 6)), (1, .int p1), (2, .ref (gad Y 0 (52 + kd))), (3, .int p3)]) "GuestStaff$Notes" (by decide) rfl (Nat.le_of_ble_eq_true rfl) rfl (fun X hC hF => ?_)
  unfold x_X3_allFit at hx
  refine q_iconst hC 0 dX3_allFit_0 rfl ?_
  refine q_istore hC [(4, .int 0), (0, .ref (gad Y c 6)), (1, .int p1), (2, .ref (gad Y 0 (52 + kd))), (3, .int p3)] dX3_allFit_1 (by decide) rfl ?_
  obtain ⟨e8, qe8, hx⟩ := gb_e hx
  refine q_sub [1, 2, 3, 4, 0] rfl (w_X3_allFit_3 hC hF hc hkd (e := e8) (fun s9 qs9 => ?_) (fun z10 qz10 => ?_) _ _ qe8)
  · subst qs9
    refine q_iconst hC 1 dX3_allFit_72 rfl ?_
    exact q_zret hC hF dX3_allFit_73 (Or.inr rfl) (congrArg (fun z => (z, M)) (Option.some.inj hx))
  · subst qz10
    exact Option.some.inj hx

theorem dX3_wantsThatFit_0 : decode cX3_wantsThatFit 0 = .ok (.iconst 0, 1) := by decide +kernel
theorem dX3_wantsThatFit_1 : decode cX3_wantsThatFit 1 = .ok (.istore_n 3, 1) := by decide +kernel
theorem dX3_wantsThatFit_2 : decode cX3_wantsThatFit 2 = .ok (.iconst 0, 1) := by decide +kernel
theorem dX3_wantsThatFit_3 : decode cX3_wantsThatFit 3 = .ok (.istore 4, 2) := by decide +kernel
theorem dX3_wantsThatFit_5 : decode cX3_wantsThatFit 5 = .ok (.iload 4, 2) := by decide +kernel
theorem dX3_wantsThatFit_7 : decode cX3_wantsThatFit 7 = .ok (.bipush 8, 2) := by decide +kernel
theorem dX3_wantsThatFit_9 : decode cX3_wantsThatFit 9 = .ok (.if_icmp .ge 27, 3) := by decide +kernel
theorem dX3_wantsThatFit_12 : decode cX3_wantsThatFit 12 = .ok (.aload_n 0, 1) := by decide +kernel
theorem dX3_wantsThatFit_13 : decode cX3_wantsThatFit 13 = .ok (.iload_n 1, 1) := by decide +kernel
theorem dX3_wantsThatFit_14 : decode cX3_wantsThatFit 14 = .ok (.aload_n 2, 1) := by decide +kernel
theorem dX3_wantsThatFit_15 : decode cX3_wantsThatFit 15 = .ok (.iload 4, 2) := by decide +kernel
theorem dX3_wantsThatFit_17 : decode cX3_wantsThatFit 17 = .ok (.invokevirtual 26, 3) := by decide +kernel
theorem dX3_wantsThatFit_20 : decode cX3_wantsThatFit 20 = .ok (.ifCond .eq 10, 3) := by decide +kernel
theorem dX3_wantsThatFit_23 : decode cX3_wantsThatFit 23 = .ok (.iload_n 3, 1) := by decide +kernel
theorem dX3_wantsThatFit_24 : decode cX3_wantsThatFit 24 = .ok (.iconst 1, 1) := by decide +kernel
theorem dX3_wantsThatFit_25 : decode cX3_wantsThatFit 25 = .ok (.iload 4, 2) := by decide +kernel
theorem dX3_wantsThatFit_27 : decode cX3_wantsThatFit 27 = .ok (.ishl, 1) := by decide +kernel
theorem dX3_wantsThatFit_28 : decode cX3_wantsThatFit 28 = .ok (.ior, 1) := by decide +kernel
theorem dX3_wantsThatFit_29 : decode cX3_wantsThatFit 29 = .ok (.istore_n 3, 1) := by decide +kernel
theorem dX3_wantsThatFit_30 : decode cX3_wantsThatFit 30 = .ok (.iinc 4 1, 3) := by decide +kernel
theorem dX3_wantsThatFit_33 : decode cX3_wantsThatFit 33 = .ok (.goto (-28), 3) := by decide +kernel
theorem dX3_wantsThatFit_36 : decode cX3_wantsThatFit 36 = .ok (.iload_n 3, 1) := by decide +kernel
theorem dX3_wantsThatFit_37 : decode cX3_wantsThatFit 37 = .ok (.ireturn, 1) := by decide +kernel
def j_X3_wantsThatFit_5_30 (M : gMem) (c : Nat) (kd : Nat) (a1 : Int32) (b3 : Int32) (b4 : Int32) : Option ((Int32 × Int32) ⊕ (Int32 × Int32)) := some (.inl (b3, b4 + 1))
def s_X3_wantsThatFit_5 (M : gMem) (c : Nat) (kd : Nat) (a1 : Int32) (b3 : Int32) (b4 : Int32) : Option ((Int32 × Int32) ⊕ (Int32 × Int32)) := (if 8 ≤ b4 then some (.inr (b3, b4)) else Option.bind (x_X3_allFit M c kd a1 b4) (fun v2 => (if v2 = 0 then j_X3_wantsThatFit_5_30 M c kd a1 b3 b4 else j_X3_wantsThatFit_5_30 M c kd a1 (b3 ||| (1 <<< (b4 &&& 31))) b4)))
def x_X3_wantsThatFit (M : gMem) (c : Nat) (kd : Nat) (p1 : Int32) : Option Int32 := Option.bind (itr FU (fun s => s_X3_wantsThatFit_5 M c kd p1 s.1 s.2) (0, 0)) (fun e6 => some e6.1)
set_option maxRecDepth 100000 in
set_option maxHeartbeats 4000000 in
theorem w_X3_wantsThatFit_5 {X : gX} {Y : gY} {M : gMem} {c : Nat} {kd : Nat} {a1 : Int32} {r : Int32} (hC : gC X Y cX3_wantsThatFit "GuestStaff$Notes" 5 5 114) (hF : gF X Y (some .int) (gQi Y (r, M))) (hc : c < 4) (hkd : kd < 6) {e : (Int32 × Int32)} (kE : ∀ s : (Int32 × Int32), e = s → gWW X Y 5 36 [(3, .int s.1)] [] M) : ∀ (F : Nat) (s : (Int32 × Int32)), itr F (fun s => s_X3_wantsThatFit_5 M c kd a1 s.1 s.2) s = some e → gWW X Y 5 5 [(0, .ref (gad Y c 6)), (1, .int a1), (2, .ref (gad Y 0 (52 + kd))), (3, .int s.1), (4, .int s.2)] [] M := by
  intro F s
  refine itr_w (P := fun s => gWW X Y 5 5 [(0, .ref (gad Y c 6)), (1, .int a1), (2, .ref (gad Y 0 (52 + kd))), (3, .int s.1), (4, .int s.2)] [] M) (fun s o hx kI kx => ?_) F s
  obtain ⟨b3, b4⟩ := s
  have hx : s_X3_wantsThatFit_5 M c kd a1 b3 b4 = some o := hx
  have kE : ∀ s : (Int32 × Int32), o = .inr s → gWW X Y 5 36 [(3, .int s.1)] [] M := fun s q => kE s (kx _ q).symm
  have J30 : ∀ (b3 : Int32) (b4 : Int32) , j_X3_wantsThatFit_5_30 M c kd a1 b3 b4 = some o → gWW X Y 5 30 [(0, .ref (gad Y c 6)), (1, .int a1), (2, .ref (gad Y 0 (52 + kd))), (3, .int b3), (4, .int b4)] [] M := by
    intro b3 b4 hx
    unfold j_X3_wantsThatFit_5_30 at hx
    refine q_iinc hC 4 1 [(4, .int (b4 + 1)), (0, .ref (gad Y c 6)), (1, .int a1), (2, .ref (gad Y 0 (52 + kd))), (3, .int b3)] dX3_wantsThatFit_30 rfl rfl (by decide) rfl ?_
    refine q_goto hC 5 dX3_wantsThatFit_33 rfl ?_
    exact q_sub [1, 2, 3, 4, 0] rfl (kI (b3, b4 + 1) (Option.some.inj hx).symm)
  unfold s_X3_wantsThatFit_5 at hx
  refine q_iload hC 4 dX3_wantsThatFit_5 rfl ?_
  refine q_bipush hC 8 dX3_wantsThatFit_7 rfl ?_
  refine q_ic_ge hC 36 dX3_wantsThatFit_9 rfl (fun h1 => ?_) (fun h1 => ?_)
  · have hx := gi_p h1 hx
    exact q_sub [3] rfl (kE (b3, b4) (Option.some.inj hx).symm)
  · have hx := gi_n h1 hx
    refine q_aload_n hC 0 dX3_wantsThatFit_12 rfl rfl ?_
    refine q_iload_n hC 1 dX3_wantsThatFit_13 rfl rfl ?_
    refine q_aload_n hC 2 dX3_wantsThatFit_14 rfl rfl ?_
    refine q_iload hC 4 dX3_wantsThatFit_15 rfl ?_
    obtain ⟨v2, q3, hx⟩ := gb_e hx
    refine q_kzp (q_rV (As := [.int a1, .ref (gad Y 0 (52 + kd)), .int b4]) (rest := []) hC mm_X3_allFit wM_X3_26 (c_X3_allFit hc hkd q3) ⟨rfl, rfl, Nat.le_of_ble_eq_true rfl, Nat.le_of_ble_eq_true rfl⟩ (gV_h hc (by decide)) rfl rfl rfl rfl (Nat.le_of_ble_eq_true rfl) dX3_wantsThatFit_17) (fun z4 => ?_)
    refine q_if_eq hC 30 dX3_wantsThatFit_20 rfl (fun h5 => ?_) (fun h5 => ?_)
    · have hx := gi_p h5 hx
      exact q_sub [0, 1, 2, 3, 4] rfl (J30 b3 b4 hx)
    · have hx := gi_n h5 hx
      refine q_iload_n hC 3 dX3_wantsThatFit_23 rfl rfl ?_
      refine q_iconst hC 1 dX3_wantsThatFit_24 rfl ?_
      refine q_iload hC 4 dX3_wantsThatFit_25 rfl ?_
      refine q_ishl hC dX3_wantsThatFit_27 ?_
      refine q_ior hC dX3_wantsThatFit_28 ?_
      refine q_istore_n hC [(3, .int (b3 ||| (1 <<< (b4 &&& 31)))), (0, .ref (gad Y c 6)), (1, .int a1), (2, .ref (gad Y 0 (52 + kd))), (4, .int b4)] dX3_wantsThatFit_29 rfl (by decide) rfl ?_
      exact q_sub [1, 2, 3, 0, 4] rfl (J30 (b3 ||| (1 <<< (b4 &&& 31))) b4 hx)
set_option maxRecDepth 100000 in
set_option maxHeartbeats 4000000 in
theorem c_X3_wantsThatFit {l : Launch} {Y : gY} {M : gMem} {c : Nat} {kd : Nat} {p1 : Int32} {r : Int32} (hc : c < 4) (hkd : kd < 6) (hx : x_X3_wantsThatFit M c kd p1 = some r) : Met l yX3_wantsThatFit (gws yX3_wantsThatFit cX3_wantsThatFit 5 (some .int)) { frames := 5, cells := 0, slots := 0, locals := 114 } (va_Pc [.ref (gad Y c 6), .int p1, .ref (gad Y 0 (52 + kd))] (gS0 Y M)) (gQi Y (r, M)) 0 0 (gA Y) := by
  refine gmet (lv := [(0, .ref (gad Y c 6)), (1, .int p1), (2, .ref (gad Y 0 (52 + kd)))]) "GuestStaff$Notes" (by decide) rfl (Nat.le_of_ble_eq_true rfl) rfl (fun X hC hF => ?_)
  unfold x_X3_wantsThatFit at hx
  refine q_iconst hC 0 dX3_wantsThatFit_0 rfl ?_
  refine q_istore_n hC [(3, .int 0), (0, .ref (gad Y c 6)), (1, .int p1), (2, .ref (gad Y 0 (52 + kd)))] dX3_wantsThatFit_1 rfl (by decide) rfl ?_
  refine q_iconst hC 0 dX3_wantsThatFit_2 rfl ?_
  refine q_istore hC [(4, .int 0), (3, .int 0), (0, .ref (gad Y c 6)), (1, .int p1), (2, .ref (gad Y 0 (52 + kd)))] dX3_wantsThatFit_3 (by decide) rfl ?_
  obtain ⟨e6, qe6, hx⟩ := gb_e hx
  refine q_sub [2, 3, 4, 1, 0] rfl (w_X3_wantsThatFit_5 hC hF hc hkd (e := e6) (fun s q => ?_) _ _ qe6)
  · subst q
    refine q_iload_n hC 0 dX3_wantsThatFit_36 rfl rfl ?_
    exact q_iret hC hF dX3_wantsThatFit_37 (congrArg (fun z => (z, M)) (Option.some.inj hx))

theorem dX1_wantsThatFit_0 : decode cX1_wantsThatFit 0 = .ok (.aload_n 0, 1) := by decide +kernel
theorem dX1_wantsThatFit_1 : decode cX1_wantsThatFit 1 = .ok (.getfield 30, 3) := by decide +kernel
theorem dX1_wantsThatFit_4 : decode cX1_wantsThatFit 4 = .ok (.iload_n 1, 1) := by decide +kernel
theorem dX1_wantsThatFit_5 : decode cX1_wantsThatFit 5 = .ok (.aload_n 0, 1) := by decide +kernel
theorem dX1_wantsThatFit_6 : decode cX1_wantsThatFit 6 = .ok (.getfield 64, 3) := by decide +kernel
theorem dX1_wantsThatFit_9 : decode cX1_wantsThatFit 9 = .ok (.iload_n 2, 1) := by decide +kernel
theorem dX1_wantsThatFit_10 : decode cX1_wantsThatFit 10 = .ok (.aaload, 1) := by decide +kernel
theorem dX1_wantsThatFit_11 : decode cX1_wantsThatFit 11 = .ok (.invokevirtual 118, 3) := by decide +kernel
theorem dX1_wantsThatFit_14 : decode cX1_wantsThatFit 14 = .ok (.ireturn, 1) := by decide +kernel
def x_X1_wantsThatFit (M : gMem) (c : Nat) (p1 : Int32) (p2 : Int32) : Option Int32 := gd (gin p2 6) (Option.bind (x_X3_wantsThatFit M c (p2).toNatClampNeg p1) (fun v2 => some v2))
set_option maxRecDepth 100000 in
set_option maxHeartbeats 4000000 in
theorem c_X1_wantsThatFit {l : Launch} {Y : gY} {M : gMem} {c : Nat} {p1 : Int32} {p2 : Int32} {r : Int32} (hc : c < 4) (hx : x_X1_wantsThatFit M c p1 p2 = some r) : Met l yX1_wantsThatFit (gws yX1_wantsThatFit cX1_wantsThatFit 3 (some .int)) { frames := 6, cells := 0, slots := 0, locals := 138 } (va_Pc [.ref (gad Y c 0), .int p1, .int p2] (gS0 Y M)) (gQi Y (r, M)) 0 0 (gA Y) := by
  refine gmet (lv := [(0, .ref (gad Y c 0)), (1, .int p1), (2, .int p2)]) "GuestStaff$House" (by decide) rfl (Nat.le_of_ble_eq_true rfl) rfl (fun X hC hF => ?_)
  unfold x_X1_wantsThatFit at hx
  refine q_aload_n hC 0 dX1_wantsThatFit_0 rfl rfl ?_
  refine gf_X1_30 hC hc dX1_wantsThatFit_1 ?_
  refine q_iload_n hC 1 dX1_wantsThatFit_4 rfl rfl ?_
  refine q_aload_n hC 0 dX1_wantsThatFit_5 rfl rfl ?_
  refine gf_X1_64 hC hc dX1_wantsThatFit_6 ?_
  refine q_iload_n hC 2 dX1_wantsThatFit_9 rfl rfl ?_
  have g1 := (gd_e hx).1
  have hx := (gd_e hx).2
  refine q_aald (t0 := 2) hC (gV_t (by decide) (by decide)) rfl rfl rfl g1 (grow_i g1) dX1_wantsThatFit_10 ?_
  obtain ⟨v2, q3, hx⟩ := gb_e hx
  refine q_kip (q_rV (As := [.int p1, .ref (gad Y 0 (52 + (p2).toNatClampNeg))]) (rest := []) hC mm_X3_wantsThatFit wM_X1_118 (c_X3_wantsThatFit hc (gin_lt g1) q3) ⟨rfl, rfl, Nat.le_of_ble_eq_true rfl, Nat.le_of_ble_eq_true rfl⟩ (gV_h hc (by decide)) rfl rfl rfl rfl (Nat.le_of_ble_eq_true rfl) dX1_wantsThatFit_11) ?_
  exact q_iret hC hF dX1_wantsThatFit_14 (congrArg (fun z => (z, M)) (Option.some.inj hx))

theorem dX1_addGuestsTo_0 : decode cX1_addGuestsTo 0 = .ok (.lload_n 1, 1) := by decide +kernel
theorem dX1_addGuestsTo_1 : decode cX1_addGuestsTo 1 = .ok (.lstore_n 3, 1) := by decide +kernel
theorem dX1_addGuestsTo_2 : decode cX1_addGuestsTo 2 = .ok (.iconst 0, 1) := by decide +kernel
theorem dX1_addGuestsTo_3 : decode cX1_addGuestsTo 3 = .ok (.istore 5, 2) := by decide +kernel
theorem dX1_addGuestsTo_5 : decode cX1_addGuestsTo 5 = .ok (.iload 5, 2) := by decide +kernel
theorem dX1_addGuestsTo_7 : decode cX1_addGuestsTo 7 = .ok (.aload_n 0, 1) := by decide +kernel
theorem dX1_addGuestsTo_8 : decode cX1_addGuestsTo 8 = .ok (.getfield 55, 3) := by decide +kernel
theorem dX1_addGuestsTo_11 : decode cX1_addGuestsTo 11 = .ok (.if_icmp .ge 84, 3) := by decide +kernel
theorem dX1_addGuestsTo_14 : decode cX1_addGuestsTo 14 = .ok (.ldc2_w 122, 3) := by decide +kernel
theorem dX1_addGuestsTo_17 : decode cX1_addGuestsTo 17 = .ok (.lload_n 3, 1) := by decide +kernel
theorem dX1_addGuestsTo_18 : decode cX1_addGuestsTo 18 = .ok (.lmul, 1) := by decide +kernel
theorem dX1_addGuestsTo_19 : decode cX1_addGuestsTo 19 = .ok (.aload_n 0, 1) := by decide +kernel
theorem dX1_addGuestsTo_20 : decode cX1_addGuestsTo 20 = .ok (.getfield 9, 3) := by decide +kernel
theorem dX1_addGuestsTo_23 : decode cX1_addGuestsTo 23 = .ok (.iload 5, 2) := by decide +kernel
theorem dX1_addGuestsTo_25 : decode cX1_addGuestsTo 25 = .ok (.iaload, 1) := by decide +kernel
theorem dX1_addGuestsTo_26 : decode cX1_addGuestsTo 26 = .ok (.i2l, 1) := by decide +kernel
theorem dX1_addGuestsTo_27 : decode cX1_addGuestsTo 27 = .ok (.ladd, 1) := by decide +kernel
theorem dX1_addGuestsTo_28 : decode cX1_addGuestsTo 28 = .ok (.lstore_n 3, 1) := by decide +kernel
theorem dX1_addGuestsTo_29 : decode cX1_addGuestsTo 29 = .ok (.ldc2_w 122, 3) := by decide +kernel
theorem dX1_addGuestsTo_32 : decode cX1_addGuestsTo 32 = .ok (.lload_n 3, 1) := by decide +kernel
theorem dX1_addGuestsTo_33 : decode cX1_addGuestsTo 33 = .ok (.lmul, 1) := by decide +kernel
theorem dX1_addGuestsTo_34 : decode cX1_addGuestsTo 34 = .ok (.aload_n 0, 1) := by decide +kernel
theorem dX1_addGuestsTo_35 : decode cX1_addGuestsTo 35 = .ok (.getfield 15, 3) := by decide +kernel
theorem dX1_addGuestsTo_38 : decode cX1_addGuestsTo 38 = .ok (.iload 5, 2) := by decide +kernel
theorem dX1_addGuestsTo_40 : decode cX1_addGuestsTo 40 = .ok (.iaload, 1) := by decide +kernel
theorem dX1_addGuestsTo_41 : decode cX1_addGuestsTo 41 = .ok (.i2l, 1) := by decide +kernel
theorem dX1_addGuestsTo_42 : decode cX1_addGuestsTo 42 = .ok (.ladd, 1) := by decide +kernel
theorem dX1_addGuestsTo_43 : decode cX1_addGuestsTo 43 = .ok (.lstore_n 3, 1) := by decide +kernel
theorem dX1_addGuestsTo_44 : decode cX1_addGuestsTo 44 = .ok (.ldc2_w 122, 3) := by decide +kernel
theorem dX1_addGuestsTo_47 : decode cX1_addGuestsTo 47 = .ok (.lload_n 3, 1) := by decide +kernel
theorem dX1_addGuestsTo_48 : decode cX1_addGuestsTo 48 = .ok (.lmul, 1) := by decide +kernel
theorem dX1_addGuestsTo_49 : decode cX1_addGuestsTo 49 = .ok (.aload_n 0, 1) := by decide +kernel
theorem dX1_addGuestsTo_50 : decode cX1_addGuestsTo 50 = .ok (.getfield 18, 3) := by decide +kernel
theorem dX1_addGuestsTo_53 : decode cX1_addGuestsTo 53 = .ok (.iload 5, 2) := by decide +kernel
theorem dX1_addGuestsTo_55 : decode cX1_addGuestsTo 55 = .ok (.iaload, 1) := by decide +kernel
theorem dX1_addGuestsTo_56 : decode cX1_addGuestsTo 56 = .ok (.i2l, 1) := by decide +kernel
theorem dX1_addGuestsTo_57 : decode cX1_addGuestsTo 57 = .ok (.ladd, 1) := by decide +kernel
theorem dX1_addGuestsTo_58 : decode cX1_addGuestsTo 58 = .ok (.lstore_n 3, 1) := by decide +kernel
theorem dX1_addGuestsTo_59 : decode cX1_addGuestsTo 59 = .ok (.ldc2_w 122, 3) := by decide +kernel
theorem dX1_addGuestsTo_62 : decode cX1_addGuestsTo 62 = .ok (.lload_n 3, 1) := by decide +kernel
theorem dX1_addGuestsTo_63 : decode cX1_addGuestsTo 63 = .ok (.lmul, 1) := by decide +kernel
theorem dX1_addGuestsTo_64 : decode cX1_addGuestsTo 64 = .ok (.aload_n 0, 1) := by decide +kernel
theorem dX1_addGuestsTo_65 : decode cX1_addGuestsTo 65 = .ok (.getfield 21, 3) := by decide +kernel
theorem dX1_addGuestsTo_68 : decode cX1_addGuestsTo 68 = .ok (.iload 5, 2) := by decide +kernel
theorem dX1_addGuestsTo_70 : decode cX1_addGuestsTo 70 = .ok (.iaload, 1) := by decide +kernel
theorem dX1_addGuestsTo_71 : decode cX1_addGuestsTo 71 = .ok (.i2l, 1) := by decide +kernel
theorem dX1_addGuestsTo_72 : decode cX1_addGuestsTo 72 = .ok (.ladd, 1) := by decide +kernel
theorem dX1_addGuestsTo_73 : decode cX1_addGuestsTo 73 = .ok (.lstore_n 3, 1) := by decide +kernel
theorem dX1_addGuestsTo_74 : decode cX1_addGuestsTo 74 = .ok (.ldc2_w 122, 3) := by decide +kernel
theorem dX1_addGuestsTo_77 : decode cX1_addGuestsTo 77 = .ok (.lload_n 3, 1) := by decide +kernel
theorem dX1_addGuestsTo_78 : decode cX1_addGuestsTo 78 = .ok (.lmul, 1) := by decide +kernel
theorem dX1_addGuestsTo_79 : decode cX1_addGuestsTo 79 = .ok (.aload_n 0, 1) := by decide +kernel
theorem dX1_addGuestsTo_80 : decode cX1_addGuestsTo 80 = .ok (.getfield 24, 3) := by decide +kernel
theorem dX1_addGuestsTo_83 : decode cX1_addGuestsTo 83 = .ok (.iload 5, 2) := by decide +kernel
theorem dX1_addGuestsTo_85 : decode cX1_addGuestsTo 85 = .ok (.iaload, 1) := by decide +kernel
theorem dX1_addGuestsTo_86 : decode cX1_addGuestsTo 86 = .ok (.i2l, 1) := by decide +kernel
theorem dX1_addGuestsTo_87 : decode cX1_addGuestsTo 87 = .ok (.ladd, 1) := by decide +kernel
theorem dX1_addGuestsTo_88 : decode cX1_addGuestsTo 88 = .ok (.lstore_n 3, 1) := by decide +kernel
theorem dX1_addGuestsTo_89 : decode cX1_addGuestsTo 89 = .ok (.iinc 5 1, 3) := by decide +kernel
theorem dX1_addGuestsTo_92 : decode cX1_addGuestsTo 92 = .ok (.goto (-87), 3) := by decide +kernel
theorem dX1_addGuestsTo_95 : decode cX1_addGuestsTo 95 = .ok (.lload_n 3, 1) := by decide +kernel
theorem dX1_addGuestsTo_96 : decode cX1_addGuestsTo 96 = .ok (.lreturn, 1) := by decide +kernel
def s_X1_addGuestsTo_5 (M : gMem) (c : Nat) (b3 : Int64) (b5 : Int32) : Option ((Int64 × Int32) ⊕ (Int64 × Int32)) := (if (M.1 c 0 13) ≤ b5 then some (.inr (b3, b5)) else gd (gin b5 7) (gd (gin b5 7) (gd (gin b5 7) (gd (gin b5 7) (gd (gin b5 7) (some (.inl ((31 * ((31 * ((31 * ((31 * ((31 * b3) + (Int32.toInt64 (M.1 c 1 (b5).toNatClampNeg)))) + (Int32.toInt64 (M.1 c 2 (b5).toNatClampNeg)))) + (Int32.toInt64 (M.1 c 3 (b5).toNatClampNeg)))) + (Int32.toInt64 (M.1 c 4 (b5).toNatClampNeg)))) + (Int32.toInt64 (M.1 c 5 (b5).toNatClampNeg)), b5 + 1))))))))
def x_X1_addGuestsTo (M : gMem) (c : Nat) (p1 : Int64) : Option Int64 := Option.bind (itr FU (fun s => s_X1_addGuestsTo_5 M c s.1 s.2) (p1, 0)) (fun e7 => some e7.1)
set_option maxRecDepth 100000 in
set_option maxHeartbeats 4000000 in
theorem w_X1_addGuestsTo_5 {X : gX} {Y : gY} {M : gMem} {c : Nat} {r : Int64} (hC : gC X Y cX1_addGuestsTo "GuestStaff$House" 6 0 0) (hF : gF X Y (some .long) (gQl Y (r, M))) (hc : c < 4) {e : (Int64 × Int32)} (kE : ∀ s : (Int64 × Int32), e = s → gWW X Y 6 95 [(3, .long s.1)] [] M) : ∀ (F : Nat) (s : (Int64 × Int32)), itr F (fun s => s_X1_addGuestsTo_5 M c s.1 s.2) s = some e → gWW X Y 6 5 [(0, .ref (gad Y c 0)), (3, .long s.1), (5, .int s.2)] [] M := by
  intro F s
  refine itr_w (P := fun s => gWW X Y 6 5 [(0, .ref (gad Y c 0)), (3, .long s.1), (5, .int s.2)] [] M) (fun s o hx kI kx => ?_) F s
  obtain ⟨b3, b5⟩ := s
  have hx : s_X1_addGuestsTo_5 M c b3 b5 = some o := hx
  have kE : ∀ s : (Int64 × Int32), o = .inr s → gWW X Y 6 95 [(3, .long s.1)] [] M := fun s q => kE s (kx _ q).symm
  unfold s_X1_addGuestsTo_5 at hx
  refine q_iload hC 2 dX1_addGuestsTo_5 rfl ?_
  refine q_aload_n hC 0 dX1_addGuestsTo_7 rfl rfl ?_
  refine gf_X1_55 hC hc dX1_addGuestsTo_8 ?_
  refine q_ic_ge hC 95 dX1_addGuestsTo_11 rfl (fun h1 => ?_) (fun h1 => ?_)
  · have hx := gi_p h1 hx
    exact q_sub [1] rfl (kE (b3, b5) (Option.some.inj hx).symm)
  · have hx := gi_n h1 hx
    refine q_ldc2 hC 31 dX1_addGuestsTo_14 wC_X1_122 ?_
    refine q_lload_n hC 1 dX1_addGuestsTo_17 rfl rfl ?_
    refine q_lmul hC dX1_addGuestsTo_18 ?_
    refine q_aload_n hC 0 dX1_addGuestsTo_19 rfl rfl ?_
    refine gf_X1_9 hC hc dX1_addGuestsTo_20 ?_
    refine q_iload hC 2 dX1_addGuestsTo_23 rfl ?_
    have g2 := (gd_e hx).1
    have hx := (gd_e hx).2
    refine q_iald hC 6 (gV_h hc (by decide)) rfl g2 dX1_addGuestsTo_25 ?_
    refine q_i2l hC dX1_addGuestsTo_26 ?_
    refine q_ladd hC dX1_addGuestsTo_27 ?_
    refine q_lstore_n hC [(3, .long ((31 * b3) + (Int32.toInt64 (M.1 c 1 (b5).toNatClampNeg)))), (0, .ref (gad Y c 0)), (5, .int b5)] dX1_addGuestsTo_28 rfl (by decide) rfl ?_
    refine q_ldc2 hC 31 dX1_addGuestsTo_29 wC_X1_122 ?_
    refine q_lload_n hC 0 dX1_addGuestsTo_32 rfl rfl ?_
    refine q_lmul hC dX1_addGuestsTo_33 ?_
    refine q_aload_n hC 1 dX1_addGuestsTo_34 rfl rfl ?_
    refine gf_X1_15 hC hc dX1_addGuestsTo_35 ?_
    refine q_iload hC 2 dX1_addGuestsTo_38 rfl ?_
    have g3 := (gd_e hx).1
    have hx := (gd_e hx).2
    refine q_iald hC 6 (gV_h hc (by decide)) rfl g3 dX1_addGuestsTo_40 ?_
    refine q_i2l hC dX1_addGuestsTo_41 ?_
    refine q_ladd hC dX1_addGuestsTo_42 ?_
    refine q_lstore_n hC [(3, .long ((31 * ((31 * b3) + (Int32.toInt64 (M.1 c 1 (b5).toNatClampNeg)))) + (Int32.toInt64 (M.1 c 2 (b5).toNatClampNeg)))), (0, .ref (gad Y c 0)), (5, .int b5)] dX1_addGuestsTo_43 rfl (by decide) rfl ?_
    refine q_ldc2 hC 31 dX1_addGuestsTo_44 wC_X1_122 ?_
    refine q_lload_n hC 0 dX1_addGuestsTo_47 rfl rfl ?_
    refine q_lmul hC dX1_addGuestsTo_48 ?_
    refine q_aload_n hC 1 dX1_addGuestsTo_49 rfl rfl ?_
    refine gf_X1_18 hC hc dX1_addGuestsTo_50 ?_
    refine q_iload hC 2 dX1_addGuestsTo_53 rfl ?_
    have g4 := (gd_e hx).1
    have hx := (gd_e hx).2
    refine q_iald hC 6 (gV_h hc (by decide)) rfl g4 dX1_addGuestsTo_55 ?_
    refine q_i2l hC dX1_addGuestsTo_56 ?_
    refine q_ladd hC dX1_addGuestsTo_57 ?_
    refine q_lstore_n hC [(3, .long ((31 * ((31 * ((31 * b3) + (Int32.toInt64 (M.1 c 1 (b5).toNatClampNeg)))) + (Int32.toInt64 (M.1 c 2 (b5).toNatClampNeg)))) + (Int32.toInt64 (M.1 c 3 (b5).toNatClampNeg)))), (0, .ref (gad Y c 0)), (5, .int b5)] dX1_addGuestsTo_58 rfl (by decide) rfl ?_
    refine q_ldc2 hC 31 dX1_addGuestsTo_59 wC_X1_122 ?_
    refine q_lload_n hC 0 dX1_addGuestsTo_62 rfl rfl ?_
    refine q_lmul hC dX1_addGuestsTo_63 ?_
    refine q_aload_n hC 1 dX1_addGuestsTo_64 rfl rfl ?_
    refine gf_X1_21 hC hc dX1_addGuestsTo_65 ?_
    refine q_iload hC 2 dX1_addGuestsTo_68 rfl ?_
    have g5 := (gd_e hx).1
    have hx := (gd_e hx).2
    refine q_iald hC 6 (gV_h hc (by decide)) rfl g5 dX1_addGuestsTo_70 ?_
    refine q_i2l hC dX1_addGuestsTo_71 ?_
    refine q_ladd hC dX1_addGuestsTo_72 ?_
    refine q_lstore_n hC [(3, .long ((31 * ((31 * ((31 * ((31 * b3) + (Int32.toInt64 (M.1 c 1 (b5).toNatClampNeg)))) + (Int32.toInt64 (M.1 c 2 (b5).toNatClampNeg)))) + (Int32.toInt64 (M.1 c 3 (b5).toNatClampNeg)))) + (Int32.toInt64 (M.1 c 4 (b5).toNatClampNeg)))), (0, .ref (gad Y c 0)), (5, .int b5)] dX1_addGuestsTo_73 rfl (by decide) rfl ?_
    refine q_ldc2 hC 31 dX1_addGuestsTo_74 wC_X1_122 ?_
    refine q_lload_n hC 0 dX1_addGuestsTo_77 rfl rfl ?_
    refine q_lmul hC dX1_addGuestsTo_78 ?_
    refine q_aload_n hC 1 dX1_addGuestsTo_79 rfl rfl ?_
    refine gf_X1_24 hC hc dX1_addGuestsTo_80 ?_
    refine q_iload hC 2 dX1_addGuestsTo_83 rfl ?_
    have g6 := (gd_e hx).1
    have hx := (gd_e hx).2
    refine q_iald hC 6 (gV_h hc (by decide)) rfl g6 dX1_addGuestsTo_85 ?_
    refine q_i2l hC dX1_addGuestsTo_86 ?_
    refine q_ladd hC dX1_addGuestsTo_87 ?_
    refine q_lstore_n hC [(3, .long ((31 * ((31 * ((31 * ((31 * ((31 * b3) + (Int32.toInt64 (M.1 c 1 (b5).toNatClampNeg)))) + (Int32.toInt64 (M.1 c 2 (b5).toNatClampNeg)))) + (Int32.toInt64 (M.1 c 3 (b5).toNatClampNeg)))) + (Int32.toInt64 (M.1 c 4 (b5).toNatClampNeg)))) + (Int32.toInt64 (M.1 c 5 (b5).toNatClampNeg)))), (0, .ref (gad Y c 0)), (5, .int b5)] dX1_addGuestsTo_88 rfl (by decide) rfl ?_
    refine q_iinc hC 2 1 [(5, .int (b5 + 1)), (3, .long ((31 * ((31 * ((31 * ((31 * ((31 * b3) + (Int32.toInt64 (M.1 c 1 (b5).toNatClampNeg)))) + (Int32.toInt64 (M.1 c 2 (b5).toNatClampNeg)))) + (Int32.toInt64 (M.1 c 3 (b5).toNatClampNeg)))) + (Int32.toInt64 (M.1 c 4 (b5).toNatClampNeg)))) + (Int32.toInt64 (M.1 c 5 (b5).toNatClampNeg)))), (0, .ref (gad Y c 0))] dX1_addGuestsTo_89 rfl rfl (by decide) rfl ?_
    refine q_goto hC 5 dX1_addGuestsTo_92 rfl ?_
    exact q_sub [2, 1, 0] rfl (kI ((31 * ((31 * ((31 * ((31 * ((31 * b3) + (Int32.toInt64 (M.1 c 1 (b5).toNatClampNeg)))) + (Int32.toInt64 (M.1 c 2 (b5).toNatClampNeg)))) + (Int32.toInt64 (M.1 c 3 (b5).toNatClampNeg)))) + (Int32.toInt64 (M.1 c 4 (b5).toNatClampNeg)))) + (Int32.toInt64 (M.1 c 5 (b5).toNatClampNeg)), b5 + 1) (Option.some.inj hx).symm)
set_option maxRecDepth 100000 in
set_option maxHeartbeats 4000000 in
theorem c_X1_addGuestsTo {l : Launch} {Y : gY} {M : gMem} {c : Nat} {p1 : Int64} {r : Int64} (hc : c < 4) (hx : x_X1_addGuestsTo M c p1 = some r) : Met l yX1_addGuestsTo (gws yX1_addGuestsTo cX1_addGuestsTo 6 (some .long)) { frames := 0, cells := 0, slots := 0, locals := 0 } (va_Pc [.ref (gad Y c 0), .long p1] (gS0 Y M)) (gQl Y (r, M)) 0 0 (gA Y) := by
  refine gmet (lv := [(0, .ref (gad Y c 0)), (1, .long p1)]) "GuestStaff$House" (by decide) rfl (Nat.le_of_ble_eq_true rfl) rfl (fun X hC hF => ?_)
  unfold x_X1_addGuestsTo at hx
  refine q_lload_n hC 1 dX1_addGuestsTo_0 rfl rfl ?_
  refine q_lstore_n hC [(3, .long p1), (0, .ref (gad Y c 0)), (1, .long p1)] dX1_addGuestsTo_1 rfl (by decide) rfl ?_
  refine q_iconst hC 0 dX1_addGuestsTo_2 rfl ?_
  refine q_istore hC [(5, .int 0), (3, .long p1), (0, .ref (gad Y c 0)), (1, .long p1)] dX1_addGuestsTo_3 (by decide) rfl ?_
  obtain ⟨e7, qe7, hx⟩ := gb_e hx
  refine q_sub [2, 1, 0] rfl (w_X1_addGuestsTo_5 hC hF hc (e := e7) (fun s q => ?_) _ _ qe7)
  · subst q
    refine q_lload_n hC 0 dX1_addGuestsTo_95 rfl rfl ?_
    exact q_lret hC hF dX1_addGuestsTo_96 (congrArg (fun z => (z, M)) (Option.some.inj hx))

theorem dX3_add_0 : decode cX3_add 0 = .ok (.aload_n 0, 1) := by decide +kernel
theorem dX3_add_1 : decode cX3_add 1 = .ok (.getfield 13, 3) := by decide +kernel
theorem dX3_add_4 : decode cX3_add 4 = .ok (.aload_n 0, 1) := by decide +kernel
theorem dX3_add_5 : decode cX3_add 5 = .ok (.getfield 16, 3) := by decide +kernel
theorem dX3_add_8 : decode cX3_add 8 = .ok (.aaload, 1) := by decide +kernel
theorem dX3_add_9 : decode cX3_add 9 = .ok (.astore 6, 2) := by decide +kernel
theorem dX3_add_11 : decode cX3_add 11 = .ok (.aload 6, 2) := by decide +kernel
theorem dX3_add_13 : decode cX3_add 13 = .ok (.iconst 0, 1) := by decide +kernel
theorem dX3_add_14 : decode cX3_add 14 = .ok (.iload_n 1, 1) := by decide +kernel
theorem dX3_add_15 : decode cX3_add 15 = .ok (.iastore, 1) := by decide +kernel
theorem dX3_add_16 : decode cX3_add 16 = .ok (.aload 6, 2) := by decide +kernel
theorem dX3_add_18 : decode cX3_add 18 = .ok (.iconst 1, 1) := by decide +kernel
theorem dX3_add_19 : decode cX3_add 19 = .ok (.iload_n 2, 1) := by decide +kernel
theorem dX3_add_20 : decode cX3_add 20 = .ok (.iastore, 1) := by decide +kernel
theorem dX3_add_21 : decode cX3_add 21 = .ok (.aload 6, 2) := by decide +kernel
theorem dX3_add_23 : decode cX3_add 23 = .ok (.iconst 2, 1) := by decide +kernel
theorem dX3_add_24 : decode cX3_add 24 = .ok (.iload_n 3, 1) := by decide +kernel
theorem dX3_add_25 : decode cX3_add 25 = .ok (.iastore, 1) := by decide +kernel
theorem dX3_add_26 : decode cX3_add 26 = .ok (.aload 6, 2) := by decide +kernel
theorem dX3_add_28 : decode cX3_add 28 = .ok (.iconst 3, 1) := by decide +kernel
theorem dX3_add_29 : decode cX3_add 29 = .ok (.iload 4, 2) := by decide +kernel
theorem dX3_add_31 : decode cX3_add 31 = .ok (.iastore, 1) := by decide +kernel
theorem dX3_add_32 : decode cX3_add 32 = .ok (.aload 6, 2) := by decide +kernel
theorem dX3_add_34 : decode cX3_add 34 = .ok (.iconst 4, 1) := by decide +kernel
theorem dX3_add_35 : decode cX3_add 35 = .ok (.iload 5, 2) := by decide +kernel
theorem dX3_add_37 : decode cX3_add 37 = .ok (.iastore, 1) := by decide +kernel
theorem dX3_add_38 : decode cX3_add 38 = .ok (.aload_n 0, 1) := by decide +kernel
theorem dX3_add_39 : decode cX3_add 39 = .ok (.dup, 1) := by decide +kernel
theorem dX3_add_40 : decode cX3_add 40 = .ok (.getfield 16, 3) := by decide +kernel
theorem dX3_add_43 : decode cX3_add 43 = .ok (.iconst 1, 1) := by decide +kernel
theorem dX3_add_44 : decode cX3_add 44 = .ok (.iadd, 1) := by decide +kernel
theorem dX3_add_45 : decode cX3_add 45 = .ok (.putfield 16, 3) := by decide +kernel
theorem dX3_add_48 : decode cX3_add 48 = .ok (.aload_n 0, 1) := by decide +kernel
theorem dX3_add_49 : decode cX3_add 49 = .ok (.getfield 16, 3) := by decide +kernel
theorem dX3_add_52 : decode cX3_add 52 = .ok (.ireturn, 1) := by decide +kernel
def x_X3_add (M : gMem) (c : Nat) (p1 : Int32) (p2 : Int32) (p3 : Int32) (p4 : Int32) (p5 : Int32) : Option (Int32 × gMem) := gd (gin (M.1 c 6 1) 6) (some ((gwr (gwr (gwr (gwr (gwr (gwr M c (8 + (M.1 c 6 1).toNatClampNeg) 0 p1) c (8 + (M.1 c 6 1).toNatClampNeg) 1 p2) c (8 + (M.1 c 6 1).toNatClampNeg) 2 p3) c (8 + (M.1 c 6 1).toNatClampNeg) 3 p4) c (8 + (M.1 c 6 1).toNatClampNeg) 4 p5) c 6 1 (((gwr (gwr (gwr (gwr (gwr M c (8 + (M.1 c 6 1).toNatClampNeg) 0 p1) c (8 + (M.1 c 6 1).toNatClampNeg) 1 p2) c (8 + (M.1 c 6 1).toNatClampNeg) 2 p3) c (8 + (M.1 c 6 1).toNatClampNeg) 3 p4) c (8 + (M.1 c 6 1).toNatClampNeg) 4 p5).1 c 6 1) + 1)).1 c 6 1, gwr (gwr (gwr (gwr (gwr (gwr M c (8 + (M.1 c 6 1).toNatClampNeg) 0 p1) c (8 + (M.1 c 6 1).toNatClampNeg) 1 p2) c (8 + (M.1 c 6 1).toNatClampNeg) 2 p3) c (8 + (M.1 c 6 1).toNatClampNeg) 3 p4) c (8 + (M.1 c 6 1).toNatClampNeg) 4 p5) c 6 1 (((gwr (gwr (gwr (gwr (gwr M c (8 + (M.1 c 6 1).toNatClampNeg) 0 p1) c (8 + (M.1 c 6 1).toNatClampNeg) 1 p2) c (8 + (M.1 c 6 1).toNatClampNeg) 2 p3) c (8 + (M.1 c 6 1).toNatClampNeg) 3 p4) c (8 + (M.1 c 6 1).toNatClampNeg) 4 p5).1 c 6 1) + 1)))
set_option maxRecDepth 100000 in
set_option maxHeartbeats 4000000 in
theorem c_X3_add {l : Launch} {Y : gY} {M : gMem} {c : Nat} {p1 : Int32} {p2 : Int32} {p3 : Int32} {p4 : Int32} {p5 : Int32} {r : (Int32 × gMem)} (hc : c < 4) (hx : x_X3_add M c p1 p2 p3 p4 p5 = some r) : Met l yX3_add (gws yX3_add cX3_add 7 (some .int)) { frames := 0, cells := 0, slots := 0, locals := 0 } (va_Pc [.ref (gad Y c 6), .int p1, .int p2, .int p3, .int p4, .int p5] (gS0 Y M)) (gQi Y r) 0 0 (gA Y) := by
  refine gmet (lv := [(0, .ref (gad Y c 6)), (1, .int p1), (2, .int p2), (3, .int p3), (4, .int p4), (5, .int p5)]) "GuestStaff$Notes" (by decide) rfl (Nat.le_of_ble_eq_true rfl) rfl (fun X hC hF => ?_)
  unfold x_X3_add at hx
  refine q_aload_n hC 0 dX3_add_0 rfl rfl ?_
  refine gf_X3_13 hC hc dX3_add_1 ?_
  refine q_aload_n hC 0 dX3_add_4 rfl rfl ?_
  refine gf_X3_16 hC hc dX3_add_5 ?_
  have g1 := (gd_e hx).1
  have hx := (gd_e hx).2
  refine q_aald (t0 := 4) hC (gV_h hc (by decide)) rfl rfl rfl g1 (grow_i g1) dX3_add_8 ?_
  refine q_astore hC [(6, .ref (gad Y c (8 + (M.1 c 6 1).toNatClampNeg))), (0, .ref (gad Y c 6)), (1, .int p1), (2, .int p2), (3, .int p3), (4, .int p4), (5, .int p5)] dX3_add_9 (by decide) rfl ?_
  refine q_aload hC 0 dX3_add_11 rfl ?_
  refine q_iconst hC 0 dX3_add_13 rfl ?_
  refine q_iload_n hC 2 dX3_add_14 rfl rfl ?_
  refine q_iastk hC 0 4 (gV_hr 6 hc g1 (by decide)) (gl_of (by decide) g1) (by decide) rfl dX3_add_15 ?_
  refine q_aload hC 0 dX3_add_16 rfl ?_
  refine q_iconst hC 1 dX3_add_18 rfl ?_
  refine q_iload_n hC 3 dX3_add_19 rfl rfl ?_
  refine q_iastk hC 1 4 (gV_hr 6 hc g1 (by decide)) (gl_of (by decide) g1) (by decide) rfl dX3_add_20 ?_
  refine q_aload hC 0 dX3_add_21 rfl ?_
  refine q_iconst hC 2 dX3_add_23 rfl ?_
  refine q_iload_n hC 4 dX3_add_24 rfl rfl ?_
  refine q_iastk hC 2 4 (gV_hr 6 hc g1 (by decide)) (gl_of (by decide) g1) (by decide) rfl dX3_add_25 ?_
  refine q_aload hC 0 dX3_add_26 rfl ?_
  refine q_iconst hC 3 dX3_add_28 rfl ?_
  refine q_iload hC 5 dX3_add_29 rfl ?_
  refine q_iastk hC 3 4 (gV_hr 6 hc g1 (by decide)) (gl_of (by decide) g1) (by decide) rfl dX3_add_31 ?_
  refine q_aload hC 0 dX3_add_32 rfl ?_
  refine q_iconst hC 4 dX3_add_34 rfl ?_
  refine q_iload hC 6 dX3_add_35 rfl ?_
  refine q_iastk hC 4 4 (gV_hr 6 hc g1 (by decide)) (gl_of (by decide) g1) (by decide) rfl dX3_add_37 ?_
  refine q_aload_n hC 1 dX3_add_38 rfl rfl ?_
  refine q_dup hC dX3_add_39 rfl ?_
  refine gf_X3_16 hC hc dX3_add_40 ?_
  refine q_iconst hC 1 dX3_add_43 rfl ?_
  refine q_iadd hC dX3_add_44 ?_
  refine pf_X3_16 hC hc dX3_add_45 ?_
  refine q_aload_n hC 1 dX3_add_48 rfl rfl ?_
  refine gf_X3_16 hC hc dX3_add_49 ?_
  exact q_iret hC hF dX3_add_52 (Option.some.inj hx)

theorem dX3_addTo_0 : decode cX3_addTo 0 = .ok (.lload_n 1, 1) := by decide +kernel
theorem dX3_addTo_1 : decode cX3_addTo 1 = .ok (.lstore_n 3, 1) := by decide +kernel
theorem dX3_addTo_2 : decode cX3_addTo 2 = .ok (.iconst 0, 1) := by decide +kernel
theorem dX3_addTo_3 : decode cX3_addTo 3 = .ok (.istore 5, 2) := by decide +kernel
theorem dX3_addTo_5 : decode cX3_addTo 5 = .ok (.iload 5, 2) := by decide +kernel
theorem dX3_addTo_7 : decode cX3_addTo 7 = .ok (.aload_n 0, 1) := by decide +kernel
theorem dX3_addTo_8 : decode cX3_addTo 8 = .ok (.getfield 16, 3) := by decide +kernel
theorem dX3_addTo_11 : decode cX3_addTo 11 = .ok (.if_icmp .ge 42, 3) := by decide +kernel
theorem dX3_addTo_14 : decode cX3_addTo 14 = .ok (.iconst 0, 1) := by decide +kernel
theorem dX3_addTo_15 : decode cX3_addTo 15 = .ok (.istore 6, 2) := by decide +kernel
theorem dX3_addTo_17 : decode cX3_addTo 17 = .ok (.iload 6, 2) := by decide +kernel
theorem dX3_addTo_19 : decode cX3_addTo 19 = .ok (.iconst 5, 1) := by decide +kernel
theorem dX3_addTo_20 : decode cX3_addTo 20 = .ok (.if_icmp .ge 27, 3) := by decide +kernel
theorem dX3_addTo_23 : decode cX3_addTo 23 = .ok (.ldc2_w 36, 3) := by decide +kernel
theorem dX3_addTo_26 : decode cX3_addTo 26 = .ok (.lload_n 3, 1) := by decide +kernel
theorem dX3_addTo_27 : decode cX3_addTo 27 = .ok (.lmul, 1) := by decide +kernel
theorem dX3_addTo_28 : decode cX3_addTo 28 = .ok (.aload_n 0, 1) := by decide +kernel
theorem dX3_addTo_29 : decode cX3_addTo 29 = .ok (.getfield 13, 3) := by decide +kernel
theorem dX3_addTo_32 : decode cX3_addTo 32 = .ok (.iload 5, 2) := by decide +kernel
theorem dX3_addTo_34 : decode cX3_addTo 34 = .ok (.aaload, 1) := by decide +kernel
theorem dX3_addTo_35 : decode cX3_addTo 35 = .ok (.iload 6, 2) := by decide +kernel
theorem dX3_addTo_37 : decode cX3_addTo 37 = .ok (.iaload, 1) := by decide +kernel
theorem dX3_addTo_38 : decode cX3_addTo 38 = .ok (.i2l, 1) := by decide +kernel
theorem dX3_addTo_39 : decode cX3_addTo 39 = .ok (.ladd, 1) := by decide +kernel
theorem dX3_addTo_40 : decode cX3_addTo 40 = .ok (.lstore_n 3, 1) := by decide +kernel
theorem dX3_addTo_41 : decode cX3_addTo 41 = .ok (.iinc 6 1, 3) := by decide +kernel
theorem dX3_addTo_44 : decode cX3_addTo 44 = .ok (.goto (-27), 3) := by decide +kernel
theorem dX3_addTo_47 : decode cX3_addTo 47 = .ok (.iinc 5 1, 3) := by decide +kernel
theorem dX3_addTo_50 : decode cX3_addTo 50 = .ok (.goto (-45), 3) := by decide +kernel
theorem dX3_addTo_53 : decode cX3_addTo 53 = .ok (.lload_n 3, 1) := by decide +kernel
theorem dX3_addTo_54 : decode cX3_addTo 54 = .ok (.lreturn, 1) := by decide +kernel
def s_X3_addTo_17 (M : gMem) (c : Nat) (a5 : Int32) (b3 : Int64) (b6 : Int32) : Option ((Int64 × Int32) ⊕ (Int64 × Int32)) := (if 5 ≤ b6 then some (.inr (b3, b6)) else gd (gin a5 6) (gd (gin b6 5) (some (.inl ((31 * b3) + (Int32.toInt64 (M.1 c (8 + (a5).toNatClampNeg) (b6).toNatClampNeg)), b6 + 1)))))
def s_X3_addTo_5 (M : gMem) (c : Nat) (b3 : Int64) (b5 : Int32) : Option ((Int64 × Int32) ⊕ (Int64 × Int32)) := (if (M.1 c 6 1) ≤ b5 then some (.inr (b3, b5)) else Option.bind (itr FU (fun s => s_X3_addTo_17 M c b5 s.1 s.2) (b3, 0)) (fun e5 => some (.inl (e5.1, b5 + 1))))
def x_X3_addTo (M : gMem) (c : Nat) (p1 : Int64) : Option Int64 := Option.bind (itr FU (fun s => s_X3_addTo_5 M c s.1 s.2) (p1, 0)) (fun e6 => some e6.1)
set_option maxRecDepth 100000 in
set_option maxHeartbeats 4000000 in
theorem w_X3_addTo_17 {X : gX} {Y : gY} {M : gMem} {c : Nat} {a5 : Int32} {r : Int64} (hC : gC X Y cX3_addTo "GuestStaff$Notes" 7 0 0) (hF : gF X Y (some .long) (gQl Y (r, M))) (hc : c < 4) {e : (Int64 × Int32)} (kE : ∀ s : (Int64 × Int32), e = s → gWW X Y 7 47 [(0, .ref (gad Y c 6)), (3, .long s.1), (5, .int a5)] [] M) : ∀ (F : Nat) (s : (Int64 × Int32)), itr F (fun s => s_X3_addTo_17 M c a5 s.1 s.2) s = some e → gWW X Y 7 17 [(0, .ref (gad Y c 6)), (3, .long s.1), (5, .int a5), (6, .int s.2)] [] M := by
  intro F s
  refine itr_w (P := fun s => gWW X Y 7 17 [(0, .ref (gad Y c 6)), (3, .long s.1), (5, .int a5), (6, .int s.2)] [] M) (fun s o hx kI kx => ?_) F s
  obtain ⟨b3, b6⟩ := s
  have hx : s_X3_addTo_17 M c a5 b3 b6 = some o := hx
  have kE : ∀ s : (Int64 × Int32), o = .inr s → gWW X Y 7 47 [(0, .ref (gad Y c 6)), (3, .long s.1), (5, .int a5)] [] M := fun s q => kE s (kx _ q).symm
  unfold s_X3_addTo_17 at hx
  refine q_iload hC 3 dX3_addTo_17 rfl ?_
  refine q_iconst hC 5 dX3_addTo_19 rfl ?_
  refine q_ic_ge hC 47 dX3_addTo_20 rfl (fun h2 => ?_) (fun h2 => ?_)
  · have hx := gi_p h2 hx
    exact q_sub [0, 1, 2] rfl (kE (b3, b6) (Option.some.inj hx).symm)
  · have hx := gi_n h2 hx
    refine q_ldc2 hC 31 dX3_addTo_23 wC_X3_36 ?_
    refine q_lload_n hC 1 dX3_addTo_26 rfl rfl ?_
    refine q_lmul hC dX3_addTo_27 ?_
    refine q_aload_n hC 0 dX3_addTo_28 rfl rfl ?_
    refine gf_X3_13 hC hc dX3_addTo_29 ?_
    refine q_iload hC 2 dX3_addTo_32 rfl ?_
    have g3 := (gd_e hx).1
    have hx := (gd_e hx).2
    refine q_aald (t0 := 4) hC (gV_h hc (by decide)) rfl rfl rfl g3 (grow_i g3) dX3_addTo_34 ?_
    refine q_iload hC 3 dX3_addTo_35 rfl ?_
    have g4 := (gd_e hx).1
    have hx := (gd_e hx).2
    refine q_iald hC 4 (gV_hr 6 hc g3 (by decide)) (gl_of (by decide) g3) g4 dX3_addTo_37 ?_
    refine q_i2l hC dX3_addTo_38 ?_
    refine q_ladd hC dX3_addTo_39 ?_
    refine q_lstore_n hC [(3, .long ((31 * b3) + (Int32.toInt64 (M.1 c (8 + (a5).toNatClampNeg) (b6).toNatClampNeg)))), (0, .ref (gad Y c 6)), (5, .int a5), (6, .int b6)] dX3_addTo_40 rfl (by decide) rfl ?_
    refine q_iinc hC 3 1 [(6, .int (b6 + 1)), (3, .long ((31 * b3) + (Int32.toInt64 (M.1 c (8 + (a5).toNatClampNeg) (b6).toNatClampNeg)))), (0, .ref (gad Y c 6)), (5, .int a5)] dX3_addTo_41 rfl rfl (by decide) rfl ?_
    refine q_goto hC 17 dX3_addTo_44 rfl ?_
    exact q_sub [2, 1, 3, 0] rfl (kI ((31 * b3) + (Int32.toInt64 (M.1 c (8 + (a5).toNatClampNeg) (b6).toNatClampNeg)), b6 + 1) (Option.some.inj hx).symm)
set_option maxRecDepth 100000 in
set_option maxHeartbeats 4000000 in
theorem w_X3_addTo_5 {X : gX} {Y : gY} {M : gMem} {c : Nat} {r : Int64} (hC : gC X Y cX3_addTo "GuestStaff$Notes" 7 0 0) (hF : gF X Y (some .long) (gQl Y (r, M))) (hc : c < 4) {e : (Int64 × Int32)} (kE : ∀ s : (Int64 × Int32), e = s → gWW X Y 7 53 [(3, .long s.1)] [] M) : ∀ (F : Nat) (s : (Int64 × Int32)), itr F (fun s => s_X3_addTo_5 M c s.1 s.2) s = some e → gWW X Y 7 5 [(0, .ref (gad Y c 6)), (3, .long s.1), (5, .int s.2)] [] M := by
  intro F s
  refine itr_w (P := fun s => gWW X Y 7 5 [(0, .ref (gad Y c 6)), (3, .long s.1), (5, .int s.2)] [] M) (fun s o hx kI kx => ?_) F s
  obtain ⟨b3, b5⟩ := s
  have hx : s_X3_addTo_5 M c b3 b5 = some o := hx
  have kE : ∀ s : (Int64 × Int32), o = .inr s → gWW X Y 7 53 [(3, .long s.1)] [] M := fun s q => kE s (kx _ q).symm
  unfold s_X3_addTo_5 at hx
  refine q_iload hC 2 dX3_addTo_5 rfl ?_
  refine q_aload_n hC 0 dX3_addTo_7 rfl rfl ?_
  refine gf_X3_16 hC hc dX3_addTo_8 ?_
  refine q_ic_ge hC 53 dX3_addTo_11 rfl (fun h1 => ?_) (fun h1 => ?_)
  · have hx := gi_p h1 hx
    exact q_sub [1] rfl (kE (b3, b5) (Option.some.inj hx).symm)
  · have hx := gi_n h1 hx
    refine q_iconst hC 0 dX3_addTo_14 rfl ?_
    refine q_istore hC [(6, .int 0), (0, .ref (gad Y c 6)), (3, .long b3), (5, .int b5)] dX3_addTo_15 (by decide) rfl ?_
    obtain ⟨e5, qe5, hx⟩ := gb_e hx
    refine q_sub [1, 2, 3, 0] rfl (w_X3_addTo_17 hC hF hc (e := e5) (fun s q => ?_) _ _ qe5)
    · subst q
      refine q_iinc hC 2 1 [(5, .int (b5 + 1)), (0, .ref (gad Y c 6)), (3, .long e5.1)] dX3_addTo_47 rfl rfl (by decide) rfl ?_
      refine q_goto hC 5 dX3_addTo_50 rfl ?_
      exact q_sub [1, 2, 0] rfl (kI (e5.1, b5 + 1) (Option.some.inj hx).symm)
set_option maxRecDepth 100000 in
set_option maxHeartbeats 4000000 in
theorem c_X3_addTo {l : Launch} {Y : gY} {M : gMem} {c : Nat} {p1 : Int64} {r : Int64} (hc : c < 4) (hx : x_X3_addTo M c p1 = some r) : Met l yX3_addTo (gws yX3_addTo cX3_addTo 7 (some .long)) { frames := 0, cells := 0, slots := 0, locals := 0 } (va_Pc [.ref (gad Y c 6), .long p1] (gS0 Y M)) (gQl Y (r, M)) 0 0 (gA Y) := by
  refine gmet (lv := [(0, .ref (gad Y c 6)), (1, .long p1)]) "GuestStaff$Notes" (by decide) rfl (Nat.le_of_ble_eq_true rfl) rfl (fun X hC hF => ?_)
  unfold x_X3_addTo at hx
  refine q_lload_n hC 1 dX3_addTo_0 rfl rfl ?_
  refine q_lstore_n hC [(3, .long p1), (0, .ref (gad Y c 6)), (1, .long p1)] dX3_addTo_1 rfl (by decide) rfl ?_
  refine q_iconst hC 0 dX3_addTo_2 rfl ?_
  refine q_istore hC [(5, .int 0), (3, .long p1), (0, .ref (gad Y c 6)), (1, .long p1)] dX3_addTo_3 (by decide) rfl ?_
  obtain ⟨e6, qe6, hx⟩ := gb_e hx
  refine q_sub [2, 1, 0] rfl (w_X3_addTo_5 hC hF hc (e := e6) (fun s q => ?_) _ _ qe6)
  · subst q
    refine q_lload_n hC 0 dX3_addTo_53 rfl rfl ?_
    exact q_lret hC hF dX3_addTo_54 (congrArg (fun z => (z, M)) (Option.some.inj hx))
