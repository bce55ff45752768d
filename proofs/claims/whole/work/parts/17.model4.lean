theorem dX11_takeBack_0 : decode cX11_takeBack 0 = .ok (.iconst 0, 1) := by decide +kernel
theorem dX11_takeBack_1 : decode cX11_takeBack 1 = .ok (.istore_n 1, 1) := by decide +kernel
theorem dX11_takeBack_2 : decode cX11_takeBack 2 = .ok (.iload_n 1, 1) := by decide +kernel
theorem dX11_takeBack_3 : decode cX11_takeBack 3 = .ok (.bipush 16, 2) := by decide +kernel
theorem dX11_takeBack_5 : decode cX11_takeBack 5 = .ok (.if_icmp .ge 21, 3) := by decide +kernel
theorem dX11_takeBack_8 : decode cX11_takeBack 8 = .ok (.aload_n 0, 1) := by decide +kernel
theorem dX11_takeBack_9 : decode cX11_takeBack 9 = .ok (.getfield 7, 3) := by decide +kernel
theorem dX11_takeBack_12 : decode cX11_takeBack 12 = .ok (.iload_n 1, 1) := by decide +kernel
theorem dX11_takeBack_13 : decode cX11_takeBack 13 = .ok (.aload_n 0, 1) := by decide +kernel
theorem dX11_takeBack_14 : decode cX11_takeBack 14 = .ok (.getfield 41, 3) := by decide +kernel
theorem dX11_takeBack_17 : decode cX11_takeBack 17 = .ok (.iload_n 1, 1) := by decide +kernel
theorem dX11_takeBack_18 : decode cX11_takeBack 18 = .ok (.iaload, 1) := by decide +kernel
theorem dX11_takeBack_19 : decode cX11_takeBack 19 = .ok (.iastore, 1) := by decide +kernel
theorem dX11_takeBack_20 : decode cX11_takeBack 20 = .ok (.iinc 1 1, 3) := by decide +kernel
theorem dX11_takeBack_23 : decode cX11_takeBack 23 = .ok (.goto (-21), 3) := by decide +kernel
theorem dX11_takeBack_26 : decode cX11_takeBack 26 = .ok (.return_, 1) := by decide +kernel
def s_X11_takeBack_2 (b1 : Int32) (N : gMem) : Option ((Int32 × gMem) ⊕ (Int32 × gMem)) := (if 16 ≤ b1 then some (.inr (b1, N)) else gd (gin b1 16) (gd (gin b1 70) (some (.inl (b1 + 1, gwr N 0 60 (b1).toNatClampNeg (N.1 0 69 (b1).toNatClampNeg))))))
def x_X11_takeBack (M : gMem) : Option gMem := Option.bind (itr FU (fun s => s_X11_takeBack_2 s.1 s.2) (0, M)) (fun e4 => some e4.2)
set_option maxRecDepth 100000 in
set_option maxHeartbeats 4000000 in
theorem w_X11_takeBack_2 {X : gX} {Y : gY} {r : gMem} (hC : gC X Y cX11_takeBack "GuestStaffModel" 2 0 0) (hF : gF X Y none (gQv Y r)) {e : (Int32 × gMem)} (kE : ∀ s : (Int32 × gMem), e = s → gWW X Y 2 26 [] [] s.2) : ∀ (F : Nat) (s : (Int32 × gMem)), itr F (fun s => s_X11_takeBack_2 s.1 s.2) s = some e → gWW X Y 2 2 [(0, .ref (gad Y 0 59)), (1, .int s.1)] [] s.2 := by
  intro F s
  refine itr_w (P := fun s => gWW X Y 2 2 [(0, .ref (gad Y 0 59)), (1, .int s.1)] [] s.2) (fun s o hx kI kx => ?_) F s
  obtain ⟨b1, N⟩ := s
  have hx : s_X11_takeBack_2 b1 N = some o := hx
  have kE : ∀ s : (Int32 × gMem), o = .inr s → gWW X Y 2 26 [] [] s.2 := fun s q => kE s (kx _ q).symm
  unfold s_X11_takeBack_2 at hx
  refine q_iload_n hC 1 dX11_takeBack_2 rfl rfl ?_
  refine q_bipush hC 16 dX11_takeBack_3 rfl ?_
  refine q_ic_ge hC 26 dX11_takeBack_5 rfl (fun h1 => ?_) (fun h1 => ?_)
  · have hx := gi_p h1 hx
    exact q_sub [] rfl (kE (b1, N) (Option.some.inj hx).symm)
  · have hx := gi_n h1 hx
    refine q_aload_n hC 0 dX11_takeBack_8 rfl rfl ?_
    refine gf_X11_7 hC dX11_takeBack_9 ?_
    refine q_iload_n hC 1 dX11_takeBack_12 rfl rfl ?_
    refine q_aload_n hC 0 dX11_takeBack_13 rfl rfl ?_
    refine gf_X11_41 hC dX11_takeBack_14 ?_
    refine q_iload_n hC 1 dX11_takeBack_17 rfl rfl ?_
    have g2 := (gd_e hx).1
    have hx := (gd_e hx).2
    refine q_iald hC 15 (gV_t (by decide) (by decide)) rfl g2 dX11_takeBack_18 ?_
    have g3 := (gd_e hx).1
    have hx := (gd_e hx).2
    refine q_iast hC 69 (gV_t (by decide) (by decide)) rfl g3 dX11_takeBack_19 ?_
    refine q_iinc hC 1 1 [(1, .int (b1 + 1)), (0, .ref (gad Y 0 59))] dX11_takeBack_20 rfl rfl (by decide) rfl ?_
    refine q_goto hC 2 dX11_takeBack_23 rfl ?_
    exact q_sub [1, 0] rfl (kI (b1 + 1, gwr N 0 60 (b1).toNatClampNeg (N.1 0 69 (b1).toNatClampNeg)) (Option.some.inj hx).symm)
set_option maxRecDepth 100000 in
set_option maxHeartbeats 4000000 in
theorem c_X11_takeBack {l : Launch} {Y : gY} {M : gMem} {r : gMem} (hx : x_X11_takeBack M = some r) : Met l yX11_takeBack (gws yX11_takeBack cX11_takeBack 2 none) { frames := 0, cells := 0, slots := 0, locals := 0 } (va_Pc [.ref (gad Y 0 59)] (gS0 Y M)) (gQv Y r) 0 0 (gA Y) := by
  refine gmet (lv := [(0, .ref (gad Y 0 59))]) "GuestStaffModel" (by decide) rfl (Nat.le_of_ble_eq_true rfl) rfl (fun X hC hF => ?_)
  unfold x_X11_takeBack at hx
  refine q_iconst hC 0 dX11_takeBack_0 rfl ?_
  refine q_istore_n hC [(1, .int 0), (0, .ref (gad Y 0 59))] dX11_takeBack_1 rfl (by decide) rfl ?_
  obtain ⟨e4, qe4, hx⟩ := gb_e hx
  refine q_sub [1, 0] rfl (w_X11_takeBack_2 hC hF (e := e4) (fun s q => ?_) _ _ qe4)
  · subst q
    exact q_vret hC hF dX11_takeBack_26 (Option.some.inj hx)

theorem dX11_tips_0 : decode cX11_tips 0 = .ok (.aload_n 0, 1) := by decide +kernel
theorem dX11_tips_1 : decode cX11_tips 1 = .ok (.iload_n 1, 1) := by decide +kernel
theorem dX11_tips_2 : decode cX11_tips 2 = .ok (.invokevirtual 85, 3) := by decide +kernel
theorem dX11_tips_5 : decode cX11_tips 5 = .ok (.ifCond .eq 15, 3) := by decide +kernel
theorem dX11_tips_8 : decode cX11_tips 8 = .ok (.iload_n 2, 1) := by decide +kernel
theorem dX11_tips_9 : decode cX11_tips 9 = .ok (.i2l, 1) := by decide +kernel
theorem dX11_tips_10 : decode cX11_tips 10 = .ok (.lconst 0, 1) := by decide +kernel
theorem dX11_tips_11 : decode cX11_tips 11 = .ok (.ldc2_w 170, 3) := by decide +kernel
theorem dX11_tips_14 : decode cX11_tips 14 = .ok (.invokestatic 57, 3) := by decide +kernel
theorem dX11_tips_17 : decode cX11_tips 17 = .ok (.ifCond .ne 8, 3) := by decide +kernel
theorem dX11_tips_20 : decode cX11_tips 20 = .ok (.aload_n 0, 1) := by decide +kernel
theorem dX11_tips_21 : decode cX11_tips 21 = .ok (.invokevirtual 74, 3) := by decide +kernel
theorem dX11_tips_24 : decode cX11_tips 24 = .ok (.ireturn, 1) := by decide +kernel
theorem dX11_tips_25 : decode cX11_tips 25 = .ok (.aload_n 0, 1) := by decide +kernel
theorem dX11_tips_26 : decode cX11_tips 26 = .ok (.invokevirtual 239, 3) := by decide +kernel
theorem dX11_tips_29 : decode cX11_tips 29 = .ok (.iconst 0, 1) := by decide +kernel
theorem dX11_tips_30 : decode cX11_tips 30 = .ok (.istore_n 3, 1) := by decide +kernel
theorem dX11_tips_31 : decode cX11_tips 31 = .ok (.iload_n 3, 1) := by decide +kernel
theorem dX11_tips_32 : decode cX11_tips 32 = .ok (.iload_n 2, 1) := by decide +kernel
theorem dX11_tips_33 : decode cX11_tips 33 = .ok (.if_icmp .ge 13, 3) := by decide +kernel
theorem dX11_tips_36 : decode cX11_tips 36 = .ok (.aload_n 0, 1) := by decide +kernel
theorem dX11_tips_37 : decode cX11_tips 37 = .ok (.invokevirtual 172, 3) := by decide +kernel
theorem dX11_tips_40 : decode cX11_tips 40 = .ok (.iinc 3 1, 3) := by decide +kernel
theorem dX11_tips_43 : decode cX11_tips 43 = .ok (.goto (-12), 3) := by decide +kernel
theorem dX11_tips_46 : decode cX11_tips 46 = .ok (.aload_n 0, 1) := by decide +kernel
theorem dX11_tips_47 : decode cX11_tips 47 = .ok (.getfield 7, 3) := by decide +kernel
theorem dX11_tips_50 : decode cX11_tips 50 = .ok (.bipush 9, 2) := by decide +kernel
theorem dX11_tips_52 : decode cX11_tips 52 = .ok (.iload_n 1, 1) := by decide +kernel
theorem dX11_tips_53 : decode cX11_tips 53 = .ok (.iadd, 1) := by decide +kernel
theorem dX11_tips_54 : decode cX11_tips 54 = .ok (.iaload, 1) := by decide +kernel
theorem dX11_tips_55 : decode cX11_tips 55 = .ok (.istore_n 3, 1) := by decide +kernel
theorem dX11_tips_56 : decode cX11_tips 56 = .ok (.aload_n 0, 1) := by decide +kernel
theorem dX11_tips_57 : decode cX11_tips 57 = .ok (.invokevirtual 242, 3) := by decide +kernel
theorem dX11_tips_60 : decode cX11_tips 60 = .ok (.iload_n 3, 1) := by decide +kernel
theorem dX11_tips_61 : decode cX11_tips 61 = .ok (.ireturn, 1) := by decide +kernel
def j_X11_tips_20 (M : gMem) (p1 : Int32) (p2 : Int32) (N : gMem) : Option (Int32 × gMem) := Option.bind (x_X11_bad N) (fun v5 => some (v5.1, v5.2))
def s_X11_tips_31 (a1 : Int32) (a2 : Int32) (b3 : Int32) (N : gMem) : Option ((Int32 × gMem) ⊕ (Int32 × gMem)) := (if a2 ≤ b3 then some (.inr (b3, N)) else Option.bind (x_X11_oneHour N) (fun v14 => some (.inl (b3 + 1, v14))))
def x_X11_tips (M : gMem) (p1 : Int32) (p2 : Int32) : Option (Int32 × gMem) := Option.bind (x_X11_isGuest M p1) (fun v1 => (if v1 = 0 then j_X11_tips_20 M p1 p2 M else Option.bind (x_X11_in (Int32.toInt64 p2) 0 60) (fun v7 => (if v7 = 0 then j_X11_tips_20 M p1 p2 M else Option.bind (x_X11_putAside M) (fun v11 => Option.bind (itr FU (fun s => s_X11_tips_31 p1 p2 s.1 s.2) (0, v11)) (fun e16 => gd (gin (9 + p1) 70) (Option.bind (x_X11_takeBack e16.2) (fun v18 => some (e16.2.1 0 60 (9 + p1).toNatClampNeg, v18)))))))))
set_option maxRecDepth 100000 in
set_option maxHeartbeats 4000000 in
theorem w_X11_tips_31 {X : gX} {Y : gY} {a1 : Int32} {a2 : Int32} {r : (Int32 × gMem)} (hC : gC X Y cX11_tips "GuestStaffModel" 4 4 87) (hF : gF X Y (some .int) (gQi Y r)) {e : (Int32 × gMem)} (kE : ∀ s : (Int32 × gMem), e = s → gWW X Y 4 46 [(0, .ref (gad Y 0 59)), (1, .int a1)] [] s.2) : ∀ (F : Nat) (s : (Int32 × gMem)), itr F (fun s => s_X11_tips_31 a1 a2 s.1 s.2) s = some e → gWW X Y 4 31 [(0, .ref (gad Y 0 59)), (1, .int a1), (2, .int a2), (3, .int s.1)] [] s.2 := by
  intro F s
  refine itr_w (P := fun s => gWW X Y 4 31 [(0, .ref (gad Y 0 59)), (1, .int a1), (2, .int a2), (3, .int s.1)] [] s.2) (fun s o hx kI kx => ?_) F s
  obtain ⟨b3, N⟩ := s
  have hx : s_X11_tips_31 a1 a2 b3 N = some o := hx
  have kE : ∀ s : (Int32 × gMem), o = .inr s → gWW X Y 4 46 [(0, .ref (gad Y 0 59)), (1, .int a1)] [] s.2 := fun s q => kE s (kx _ q).symm
  unfold s_X11_tips_31 at hx
  refine q_iload_n hC 3 dX11_tips_31 rfl rfl ?_
  refine q_iload_n hC 2 dX11_tips_32 rfl rfl ?_
  refine q_ic_ge hC 46 dX11_tips_33 rfl (fun h13 => ?_) (fun h13 => ?_)
  · have hx := gi_p h13 hx
    exact q_sub [0, 1] rfl (kE (b3, N) (Option.some.inj hx).symm)
  · have hx := gi_n h13 hx
    refine q_aload_n hC 0 dX11_tips_36 rfl rfl ?_
    obtain ⟨v14, q15, hx⟩ := gb_e hx
    refine q_kv (q_rV (As := []) (rest := []) hC mm_X11_oneHour wM_X11_172 (c_X11_oneHour q15) ⟨rfl, rfl, Nat.le_of_ble_eq_true rfl, Nat.le_of_ble_eq_true rfl⟩ (gV_t (by decide) (by decide)) rfl rfl rfl rfl (Nat.le_of_ble_eq_true rfl) dX11_tips_37) ?_
    refine q_iinc hC 3 1 [(3, .int (b3 + 1)), (0, .ref (gad Y 0 59)), (1, .int a1), (2, .int a2)] dX11_tips_40 rfl rfl (by decide) rfl ?_
    refine q_goto hC 31 dX11_tips_43 rfl ?_
    exact q_sub [1, 2, 3, 0] rfl (kI (b3 + 1, v14) (Option.some.inj hx).symm)
set_option maxRecDepth 100000 in
set_option maxHeartbeats 4000000 in
theorem c_X11_tips {l : Launch} {Y : gY} {M : gMem} {p1 : Int32} {p2 : Int32} {r : (Int32 × gMem)} (hx : x_X11_tips M p1 p2 = some r) : Met l yX11_tips (gws yX11_tips cX11_tips 4 (some .int)) { frames := 4, cells := 0, slots := 0, locals := 87 } (va_Pc [.ref (gad Y 0 59), .int p1, .int p2] (gS0 Y M)) (gQi Y r) 0 0 (gA Y) := by
  refine gmet (lv := [(0, .ref (gad Y 0 59)), (1, .int p1), (2, .int p2)]) "GuestStaffModel" (by decide) rfl (Nat.le_of_ble_eq_true rfl) rfl (fun X hC hF => ?_)
  have J20 : ∀ (N : gMem) , j_X11_tips_20 M p1 p2 N = some r → gWW X Y 4 20 [(0, .ref (gad Y 0 59))] [] N := by
    intro N hx
    unfold j_X11_tips_20 at hx
    refine q_aload_n hC 0 dX11_tips_20 rfl rfl ?_
    obtain ⟨v5, q6, hx⟩ := gb_e hx
    refine q_ki (q_rV (As := []) (rest := []) hC mm_X11_bad wM_X11_74 (c_X11_bad q6) ⟨rfl, rfl, Nat.le_of_ble_eq_true rfl, Nat.le_of_ble_eq_true rfl⟩ (gV_t (by decide) (by decide)) rfl rfl rfl rfl (Nat.le_of_ble_eq_true rfl) dX11_tips_21) ?_
    exact q_iret hC hF dX11_tips_24 (Option.some.inj hx)
  unfold x_X11_tips at hx
  refine q_aload_n hC 0 dX11_tips_0 rfl rfl ?_
  refine q_iload_n hC 1 dX11_tips_1 rfl rfl ?_
  obtain ⟨v1, q2, hx⟩ := gb_e hx
  refine q_kzp (q_rV (As := [.int p1]) (rest := []) hC mm_X11_isGuest wM_X11_85 (c_X11_isGuest q2) ⟨rfl, rfl, Nat.le_of_ble_eq_true rfl, Nat.le_of_ble_eq_true rfl⟩ (gV_t (by decide) (by decide)) rfl rfl rfl rfl (Nat.le_of_ble_eq_true rfl) dX11_tips_2) (fun z3 => ?_)
  refine q_if_eq hC 20 dX11_tips_5 rfl (fun h4 => ?_) (fun h4 => ?_)
  · have hx := gi_p h4 hx
    exact q_sub [0] rfl (J20 M hx)
  · have hx := gi_n h4 hx
    refine q_iload_n hC 2 dX11_tips_8 rfl rfl ?_
    refine q_i2l hC dX11_tips_9 ?_
    refine q_lconst hC 0 dX11_tips_10 rfl ?_
    refine q_ldc2 hC 60 dX11_tips_11 wC_X11_170 ?_
    obtain ⟨v7, q8, hx⟩ := gb_e hx
    refine q_kzp (q_rS (As := [.long (Int32.toInt64 p2), .long 0, .long 60]) (rest := []) hC mm_X11_in wM_X11_57 (c_X11_in q8) ⟨rfl, rfl, Nat.le_of_ble_eq_true rfl, Nat.le_of_ble_eq_true rfl⟩ rfl rfl (Nat.le_of_ble_eq_true rfl) dX11_tips_14) (fun z9 => ?_)
    refine q_if_ne hC 25 dX11_tips_17 rfl (fun h10 => ?_) (fun h10 => ?_)
    · have hx := gi_n h10 hx
      refine q_aload_n hC 0 dX11_tips_25 rfl rfl ?_
      obtain ⟨v11, q12, hx⟩ := gb_e hx
      refine q_kv (q_rV (As := []) (rest := []) hC mm_X11_putAside wM_X11_239 (c_X11_putAside q12) ⟨rfl, rfl, Nat.le_of_ble_eq_true rfl, Nat.le_of_ble_eq_true rfl⟩ (gV_t (by decide) (by decide)) rfl rfl rfl rfl (Nat.le_of_ble_eq_true rfl) dX11_tips_26) ?_
      refine q_iconst hC 0 dX11_tips_29 rfl ?_
      refine q_istore_n hC [(3, .int 0), (0, .ref (gad Y 0 59)), (1, .int p1), (2, .int p2)] dX11_tips_30 rfl (by decide) rfl ?_
      obtain ⟨e16, qe16, hx⟩ := gb_e hx
      refine q_sub [1, 2, 3, 0] rfl (w_X11_tips_31 hC hF (e := e16) (fun s q => ?_) _ _ qe16)
      · subst q
        refine q_aload_n hC 0 dX11_tips_46 rfl rfl ?_
        refine gf_X11_7 hC dX11_tips_47 ?_
        refine q_bipush hC 9 dX11_tips_50 rfl ?_
        refine q_iload_n hC 1 dX11_tips_52 rfl rfl ?_
        refine q_iadd hC dX11_tips_53 ?_
        have g17 := (gd_e hx).1
        have hx := (gd_e hx).2
        refine q_iald hC 69 (gV_t (by decide) (by decide)) rfl g17 dX11_tips_54 ?_
        refine q_istore_n hC [(3, .int (e16.2.1 0 60 (9 + p1).toNatClampNeg)), (0, .ref (gad Y 0 59)), (1, .int p1)] dX11_tips_55 rfl (by decide) rfl ?_
        refine q_aload_n hC 1 dX11_tips_56 rfl rfl ?_
        obtain ⟨v18, q19, hx⟩ := gb_e hx
        refine q_kv (q_rV (As := []) (rest := []) hC mm_X11_takeBack wM_X11_242 (c_X11_takeBack q19) ⟨rfl, rfl, Nat.le_of_ble_eq_true rfl, Nat.le_of_ble_eq_true rfl⟩ (gV_t (by decide) (by decide)) rfl rfl rfl rfl (Nat.le_of_ble_eq_true rfl) dX11_tips_57) ?_
        refine q_iload_n hC 0 dX11_tips_60 rfl rfl ?_
        exact q_iret hC hF dX11_tips_61 (Option.some.inj hx)
    · have hx := gi_p h10 hx
      exact q_sub [0] rfl (J20 M hx)

theorem dX11_moods_0 : decode cX11_moods 0 = .ok (.iload_n 1, 1) := by decide +kernel
theorem dX11_moods_1 : decode cX11_moods 1 = .ok (.i2l, 1) := by decide +kernel
theorem dX11_moods_2 : decode cX11_moods 2 = .ok (.lconst 0, 1) := by decide +kernel
theorem dX11_moods_3 : decode cX11_moods 3 = .ok (.ldc2_w 245, 3) := by decide +kernel
theorem dX11_moods_6 : decode cX11_moods 6 = .ok (.invokestatic 57, 3) := by decide +kernel
theorem dX11_moods_9 : decode cX11_moods 9 = .ok (.ifCond .ne 8, 3) := by decide +kernel
theorem dX11_moods_12 : decode cX11_moods 12 = .ok (.aload_n 0, 1) := by decide +kernel
theorem dX11_moods_13 : decode cX11_moods 13 = .ok (.invokevirtual 74, 3) := by decide +kernel
theorem dX11_moods_16 : decode cX11_moods 16 = .ok (.ireturn, 1) := by decide +kernel
theorem dX11_moods_17 : decode cX11_moods 17 = .ok (.aload_n 0, 1) := by decide +kernel
theorem dX11_moods_18 : decode cX11_moods 18 = .ok (.invokevirtual 239, 3) := by decide +kernel
theorem dX11_moods_21 : decode cX11_moods 21 = .ok (.lconst 0, 1) := by decide +kernel
theorem dX11_moods_22 : decode cX11_moods 22 = .ok (.lstore_n 2, 1) := by decide +kernel
theorem dX11_moods_23 : decode cX11_moods 23 = .ok (.lconst 1, 1) := by decide +kernel
theorem dX11_moods_24 : decode cX11_moods 24 = .ok (.lstore 4, 2) := by decide +kernel
theorem dX11_moods_26 : decode cX11_moods 26 = .ok (.iconst 0, 1) := by decide +kernel
theorem dX11_moods_27 : decode cX11_moods 27 = .ok (.istore 6, 2) := by decide +kernel
theorem dX11_moods_29 : decode cX11_moods 29 = .ok (.iload 6, 2) := by decide +kernel
theorem dX11_moods_31 : decode cX11_moods 31 = .ok (.aload_n 0, 1) := by decide +kernel
theorem dX11_moods_32 : decode cX11_moods 32 = .ok (.getfield 7, 3) := by decide +kernel
theorem dX11_moods_35 : decode cX11_moods 35 = .ok (.bipush 16, 2) := by decide +kernel
theorem dX11_moods_37 : decode cX11_moods 37 = .ok (.iaload, 1) := by decide +kernel
theorem dX11_moods_38 : decode cX11_moods 38 = .ok (.if_icmp .ge 17, 3) := by decide +kernel
theorem dX11_moods_41 : decode cX11_moods 41 = .ok (.lload 4, 2) := by decide +kernel
theorem dX11_moods_43 : decode cX11_moods 43 = .ok (.ldc2_w 245, 3) := by decide +kernel
theorem dX11_moods_46 : decode cX11_moods 46 = .ok (.lmul, 1) := by decide +kernel
theorem dX11_moods_47 : decode cX11_moods 47 = .ok (.lstore 4, 2) := by decide +kernel
theorem dX11_moods_49 : decode cX11_moods 49 = .ok (.iinc 6 1, 3) := by decide +kernel
theorem dX11_moods_52 : decode cX11_moods 52 = .ok (.goto (-23), 3) := by decide +kernel
theorem dX11_moods_55 : decode cX11_moods 55 = .ok (.iconst 0, 1) := by decide +kernel
theorem dX11_moods_56 : decode cX11_moods 56 = .ok (.istore 6, 2) := by decide +kernel
theorem dX11_moods_58 : decode cX11_moods 58 = .ok (.iload 6, 2) := by decide +kernel
theorem dX11_moods_60 : decode cX11_moods 60 = .ok (.aload_n 0, 1) := by decide +kernel
theorem dX11_moods_61 : decode cX11_moods 61 = .ok (.invokevirtual 189, 3) := by decide +kernel
theorem dX11_moods_64 : decode cX11_moods 64 = .ok (.if_icmp .gt 101, 3) := by decide +kernel
theorem dX11_moods_67 : decode cX11_moods 67 = .ok (.lconst 1, 1) := by decide +kernel
theorem dX11_moods_68 : decode cX11_moods 68 = .ok (.lstore 7, 2) := by decide +kernel
theorem dX11_moods_70 : decode cX11_moods 70 = .ok (.iconst 0, 1) := by decide +kernel
theorem dX11_moods_71 : decode cX11_moods 71 = .ok (.istore 9, 2) := by decide +kernel
theorem dX11_moods_73 : decode cX11_moods 73 = .ok (.iload 9, 2) := by decide +kernel
theorem dX11_moods_75 : decode cX11_moods 75 = .ok (.aload_n 0, 1) := by decide +kernel
theorem dX11_moods_76 : decode cX11_moods 76 = .ok (.getfield 7, 3) := by decide +kernel
theorem dX11_moods_79 : decode cX11_moods 79 = .ok (.bipush 16, 2) := by decide +kernel
theorem dX11_moods_81 : decode cX11_moods 81 = .ok (.iaload, 1) := by decide +kernel
theorem dX11_moods_82 : decode cX11_moods 82 = .ok (.if_icmp .ge 66, 3) := by decide +kernel
theorem dX11_moods_85 : decode cX11_moods 85 = .ok (.lload 7, 2) := by decide +kernel
theorem dX11_moods_87 : decode cX11_moods 87 = .ok (.iload 6, 2) := by decide +kernel
theorem dX11_moods_89 : decode cX11_moods 89 = .ok (.iload 9, 2) := by decide +kernel
theorem dX11_moods_91 : decode cX11_moods 91 = .ok (.invokestatic 153, 3) := by decide +kernel
theorem dX11_moods_94 : decode cX11_moods 94 = .ok (.ifCond .eq 8, 3) := by decide +kernel
theorem dX11_moods_97 : decode cX11_moods 97 = .ok (.iload_n 1, 1) := by decide +kernel
theorem dX11_moods_98 : decode cX11_moods 98 = .ok (.i2l, 1) := by decide +kernel
theorem dX11_moods_99 : decode cX11_moods 99 = .ok (.goto 8, 3) := by decide +kernel
theorem dX11_moods_102 : decode cX11_moods 102 = .ok (.bipush 10, 2) := by decide +kernel
theorem dX11_moods_104 : decode cX11_moods 104 = .ok (.iload_n 1, 1) := by decide +kernel
theorem dX11_moods_105 : decode cX11_moods 105 = .ok (.isub, 1) := by decide +kernel
theorem dX11_moods_106 : decode cX11_moods 106 = .ok (.i2l, 1) := by decide +kernel
theorem dX11_moods_107 : decode cX11_moods 107 = .ok (.lmul, 1) := by decide +kernel
theorem dX11_moods_108 : decode cX11_moods 108 = .ok (.lstore 7, 2) := by decide +kernel
theorem dX11_moods_110 : decode cX11_moods 110 = .ok (.aload_n 0, 1) := by decide +kernel
theorem dX11_moods_111 : decode cX11_moods 111 = .ok (.getfield 7, 3) := by decide +kernel
theorem dX11_moods_114 : decode cX11_moods 114 = .ok (.iconst 2, 1) := by decide +kernel
theorem dX11_moods_115 : decode cX11_moods 115 = .ok (.iload 9, 2) := by decide +kernel
theorem dX11_moods_117 : decode cX11_moods 117 = .ok (.iadd, 1) := by decide +kernel
theorem dX11_moods_118 : decode cX11_moods 118 = .ok (.iload 6, 2) := by decide +kernel
theorem dX11_moods_120 : decode cX11_moods 120 = .ok (.iload 9, 2) := by decide +kernel
theorem dX11_moods_122 : decode cX11_moods 122 = .ok (.invokestatic 153, 3) := by decide +kernel
theorem dX11_moods_125 : decode cX11_moods 125 = .ok (.ifCond .eq 15, 3) := by decide +kernel
theorem dX11_moods_128 : decode cX11_moods 128 = .ok (.aload_n 0, 1) := by decide +kernel
theorem dX11_moods_129 : decode cX11_moods 129 = .ok (.getfield 41, 3) := by decide +kernel
theorem dX11_moods_132 : decode cX11_moods 132 = .ok (.iconst 2, 1) := by decide +kernel
theorem dX11_moods_133 : decode cX11_moods 133 = .ok (.iload 9, 2) := by decide +kernel
theorem dX11_moods_135 : decode cX11_moods 135 = .ok (.iadd, 1) := by decide +kernel
theorem dX11_moods_136 : decode cX11_moods 136 = .ok (.iaload, 1) := by decide +kernel
theorem dX11_moods_137 : decode cX11_moods 137 = .ok (.goto 4, 3) := by decide +kernel
theorem dX11_moods_140 : decode cX11_moods 140 = .ok (.iconst (-1), 1) := by decide +kernel
theorem dX11_moods_141 : decode cX11_moods 141 = .ok (.iastore, 1) := by decide +kernel
theorem dX11_moods_142 : decode cX11_moods 142 = .ok (.iinc 9 1, 3) := by decide +kernel
theorem dX11_moods_145 : decode cX11_moods 145 = .ok (.goto (-72), 3) := by decide +kernel
theorem dX11_moods_148 : decode cX11_moods 148 = .ok (.lload_n 2, 1) := by decide +kernel
theorem dX11_moods_149 : decode cX11_moods 149 = .ok (.lload 7, 2) := by decide +kernel
theorem dX11_moods_151 : decode cX11_moods 151 = .ok (.aload_n 0, 1) := by decide +kernel
theorem dX11_moods_152 : decode cX11_moods 152 = .ok (.invokevirtual 247, 3) := by decide +kernel
theorem dX11_moods_155 : decode cX11_moods 155 = .ok (.i2l, 1) := by decide +kernel
theorem dX11_moods_156 : decode cX11_moods 156 = .ok (.lmul, 1) := by decide +kernel
theorem dX11_moods_157 : decode cX11_moods 157 = .ok (.ladd, 1) := by decide +kernel
theorem dX11_moods_158 : decode cX11_moods 158 = .ok (.lstore_n 2, 1) := by decide +kernel
theorem dX11_moods_159 : decode cX11_moods 159 = .ok (.iinc 6 1, 3) := by decide +kernel
theorem dX11_moods_162 : decode cX11_moods 162 = .ok (.goto (-104), 3) := by decide +kernel
theorem dX11_moods_165 : decode cX11_moods 165 = .ok (.aload_n 0, 1) := by decide +kernel
theorem dX11_moods_166 : decode cX11_moods 166 = .ok (.invokevirtual 242, 3) := by decide +kernel
theorem dX11_moods_169 : decode cX11_moods 169 = .ok (.lload_n 2, 1) := by decide +kernel
theorem dX11_moods_170 : decode cX11_moods 170 = .ok (.lstore 6, 2) := by decide +kernel
theorem dX11_moods_172 : decode cX11_moods 172 = .ok (.lload 4, 2) := by decide +kernel
theorem dX11_moods_174 : decode cX11_moods 174 = .ok (.lstore 8, 2) := by decide +kernel
theorem dX11_moods_176 : decode cX11_moods 176 = .ok (.lload 8, 2) := by decide +kernel
theorem dX11_moods_178 : decode cX11_moods 178 = .ok (.lconst 0, 1) := by decide +kernel
theorem dX11_moods_179 : decode cX11_moods 179 = .ok (.lcmp, 1) := by decide +kernel
theorem dX11_moods_180 : decode cX11_moods 180 = .ok (.ifCond .eq 21, 3) := by decide +kernel
theorem dX11_moods_183 : decode cX11_moods 183 = .ok (.lload 6, 2) := by decide +kernel
theorem dX11_moods_185 : decode cX11_moods 185 = .ok (.lload 8, 2) := by decide +kernel
theorem dX11_moods_187 : decode cX11_moods 187 = .ok (.lrem, 1) := by decide +kernel
theorem dX11_moods_188 : decode cX11_moods 188 = .ok (.lstore 10, 2) := by decide +kernel
theorem dX11_moods_190 : decode cX11_moods 190 = .ok (.lload 8, 2) := by decide +kernel
theorem dX11_moods_192 : decode cX11_moods 192 = .ok (.lstore 6, 2) := by decide +kernel
theorem dX11_moods_194 : decode cX11_moods 194 = .ok (.lload 10, 2) := by decide +kernel
theorem dX11_moods_196 : decode cX11_moods 196 = .ok (.lstore 8, 2) := by decide +kernel
theorem dX11_moods_198 : decode cX11_moods 198 = .ok (.goto (-22), 3) := by decide +kernel
theorem dX11_moods_201 : decode cX11_moods 201 = .ok (.aload_n 0, 1) := by decide +kernel
theorem dX11_moods_202 : decode cX11_moods 202 = .ok (.lload_n 2, 1) := by decide +kernel
theorem dX11_moods_203 : decode cX11_moods 203 = .ok (.lload 6, 2) := by decide +kernel
theorem dX11_moods_205 : decode cX11_moods 205 = .ok (.ldiv, 1) := by decide +kernel
theorem dX11_moods_206 : decode cX11_moods 206 = .ok (.putfield 250, 3) := by decide +kernel
theorem dX11_moods_209 : decode cX11_moods 209 = .ok (.aload_n 0, 1) := by decide +kernel
theorem dX11_moods_210 : decode cX11_moods 210 = .ok (.lload 4, 2) := by decide +kernel
theorem dX11_moods_212 : decode cX11_moods 212 = .ok (.lload 6, 2) := by decide +kernel
theorem dX11_moods_214 : decode cX11_moods 214 = .ok (.ldiv, 1) := by decide +kernel
theorem dX11_moods_215 : decode cX11_moods 215 = .ok (.putfield 13, 3) := by decide +kernel
theorem dX11_moods_218 : decode cX11_moods 218 = .ok (.iconst 1, 1) := by decide +kernel
theorem dX11_moods_219 : decode cX11_moods 219 = .ok (.ireturn, 1) := by decide +kernel
def s_X11_moods_29 (M : gMem) (a1 : Int32) (a2 : Int64) (b4 : Int64) (b6 : Int32) : Option ((Int64 × Int32) ⊕ (Int64 × Int32)) := (if (M.1 0 60 16) ≤ b6 then some (.inr (b4, b6)) else some (.inl (b4 * 10, b6 + 1)))
def j_X11_moods_73_141 (a1 : Int32) (a2 : Int64) (a4 : Int64) (a6 : Int32) (N : gMem) (b7 : Int64) (b9 : Int32) (t0 : Int32) (t1 : Int32) : Option ((Int64 × Int32 × gMem) ⊕ (Int64 × Int32 × gMem)) := gd (gin t1 70) (some (.inl (b7, b9 + 1, gwr N 0 60 (t1).toNatClampNeg t0)))
def j_X11_moods_73_107 (a1 : Int32) (a2 : Int64) (a4 : Int64) (a6 : Int32) (N : gMem) (b9 : Int32) (t0 : Int64) (t1 : Int64) : Option ((Int64 × Int32 × gMem) ⊕ (Int64 × Int32 × gMem)) := Option.bind (x_X11_has a6 b9) (fun v17 => (if v17 = 0 then j_X11_moods_73_141 a1 a2 a4 a6 N (t1 * t0) b9 (-1) (2 + b9) else gd (gin (2 + b9) 16) (j_X11_moods_73_141 a1 a2 a4 a6 N (t1 * t0) b9 (N.1 0 69 (2 + b9).toNatClampNeg) (2 + b9))))
def s_X11_moods_73 (a1 : Int32) (a2 : Int64) (a4 : Int64) (a6 : Int32) (b7 : Int64) (b9 : Int32) (N : gMem) : Option ((Int64 × Int32 × gMem) ⊕ (Int64 × Int32 × gMem)) := (if (N.1 0 60 16) ≤ b9 then some (.inr (b7, b9, N)) else Option.bind (x_X11_has a6 b9) (fun v13 => (if v13 = 0 then j_X11_moods_73_107 a1 a2 a4 a6 N b9 (Int32.toInt64 (10 - a1)) b7 else j_X11_moods_73_107 a1 a2 a4 a6 N b9 (Int32.toInt64 a1) b7)))
def s_X11_moods_58 (a1 : Int32) (a4 : Int64) (b2 : Int64) (b6 : Int32) (N : gMem) : Option ((Int64 × Int32 × gMem) ⊕ (Int64 × Int32 × gMem)) := Option.bind (x_X11_everybody N) (fun v9 => (if v9 < b6 then some (.inr (b2, b6, N)) else Option.bind (itr FU (fun s => s_X11_moods_73 a1 b2 a4 b6 s.1 s.2.1 s.2.2) (1, 0, N)) (fun e23 => Option.bind (x_X11_servedMany e23.2.2) (fun v24 => some (.inl (b2 + (e23.1 * (Int32.toInt64 v24)), b6 + 1, e23.2.2))))))
def s_X11_moods_176 (M : gMem) (a2 : Int64) (a4 : Int64) (b6 : Int64) (b8 : Int64) : Option ((Int64 × Int64) ⊕ (Int64 × Int64)) := (if (lg_cmp b8 0) = 0 then some (.inr (b6, b8)) else gd (¬ b8 = 0) (some (.inl (b8, b6 - b6 / b8 * b8))))
def x_X11_moods (M : gMem) (p1 : Int32) : Option (Int32 × gMem) := Option.bind (x_X11_in (Int32.toInt64 p1) 0 10) (fun v1 => (if v1 = 0 then Option.bind (x_X11_bad M) (fun v34 => some (v34.1, v34.2)) else Option.bind (x_X11_putAside M) (fun v5 => Option.bind (itr FU (fun s => s_X11_moods_29 v5 p1 0 s.1 s.2) (1, 0)) (fun e8 => Option.bind (itr FU (fun s => s_X11_moods_58 p1 e8.1 s.1 s.2.1 s.2.2) (0, 0, v5)) (fun e26 => Option.bind (x_X11_takeBack e26.2.2) (fun v27 => Option.bind (itr FU (fun s => s_X11_moods_176 v27 e26.1 e8.1 s.1 s.2) (e26.1, e8.1)) (fun e31 => gd (¬ e31.1 = 0) (gd (¬ e31.1 = 0) (some (1, gwl (gwl v27 59 1 (e26.1 / e31.1)) 59 2 (e8.1 / e31.1)))))))))))
set_option maxRecDepth 100000 in
set_option maxHeartbeats 4000000 in
theorem w_X11_moods_29 {X : gX} {Y : gY} {M : gMem} {a1 : Int32} {a2 : Int64} {r : (Int32 × gMem)} (hC : gC X Y cX11_moods "GuestStaffModel" 12 4 87) (hF : gF X Y (some .int) (gQi Y r)) {e : (Int64 × Int32)} (kE : ∀ s : (Int64 × Int32), e = s → gWW X Y 12 55 [(0, .ref (gad Y 0 59)), (1, .int a1), (2, .long a2), (4, .long s.1)] [] M) : ∀ (F : Nat) (s : (Int64 × Int32)), itr F (fun s => s_X11_moods_29 M a1 a2 s.1 s.2) s = some e → gWW X Y 12 29 [(0, .ref (gad Y 0 59)), (1, .int a1), (2, .long a2), (4, .long s.1), (6, .int s.2)] [] M := by
  intro F s
  refine itr_w (P := fun s => gWW X Y 12 29 [(0, .ref (gad Y 0 59)), (1, .int a1), (2, .long a2), (4, .long s.1), (6, .int s.2)] [] M) (fun s o hx kI kx => ?_) F s
  obtain ⟨b4, b6⟩ := s
  have hx : s_X11_moods_29 M a1 a2 b4 b6 = some o := hx
  have kE : ∀ s : (Int64 × Int32), o = .inr s → gWW X Y 12 55 [(0, .ref (gad Y 0 59)), (1, .int a1), (2, .long a2), (4, .long s.1)] [] M := fun s q => kE s (kx _ q).symm
  unfold s_X11_moods_29 at hx
  refine q_iload hC 4 dX11_moods_29 rfl ?_
  refine q_aload_n hC 0 dX11_moods_31 rfl rfl ?_
  refine gf_X11_7 hC dX11_moods_32 ?_
  refine q_bipush hC 16 dX11_moods_35 rfl ?_
  refine q_ialdk hC 16 69 (gV_t (by decide) (by decide)) rfl (by decide) rfl dX11_moods_37 ?_
  refine q_ic_ge hC 55 dX11_moods_38 rfl (fun h7 => ?_) (fun h7 => ?_)
  · have hx := gi_p h7 hx
    exact q_sub [0, 1, 2, 3] rfl (kE (b4, b6) (Option.some.inj hx).symm)
  · have hx := gi_n h7 hx
    refine q_lload hC 3 dX11_moods_41 rfl ?_
    refine q_ldc2 hC 10 dX11_moods_43 wC_X11_245 ?_
    refine q_lmul hC dX11_moods_46 ?_
    refine q_lstore hC [(4, .long (b4 * 10)), (0, .ref (gad Y 0 59)), (1, .int a1), (2, .long a2), (6, .int b6)] dX11_moods_47 (by decide) rfl ?_
    refine q_iinc hC 4 1 [(6, .int (b6 + 1)), (4, .long (b4 * 10)), (0, .ref (gad Y 0 59)), (1, .int a1), (2, .long a2)] dX11_moods_49 rfl rfl (by decide) rfl ?_
    refine q_goto hC 29 dX11_moods_52 rfl ?_
    exact q_sub [2, 3, 4, 1, 0] rfl (kI (b4 * 10, b6 + 1) (Option.some.inj hx).symm)
set_option maxRecDepth 100000 in
set_option maxHeartbeats 4000000 in
theorem w_X11_moods_73 {X : gX} {Y : gY} {a1 : Int32} {a2 : Int64} {a4 : Int64} {a6 : Int32} {r : (Int32 × gMem)} (hC : gC X Y cX11_moods "GuestStaffModel" 12 4 87) (hF : gF X Y (some .int) (gQi Y r)) {e : (Int64 × Int32 × gMem)} (kE : ∀ s : (Int64 × Int32 × gMem), e = s → gWW X Y 12 148 [(0, .ref (gad Y 0 59)), (1, .int a1), (2, .long a2), (4, .long a4), (6, .int a6), (7, .long s.1)] [] s.2.2) : ∀ (F : Nat) (s : (Int64 × Int32 × gMem)), itr F (fun s => s_X11_moods_73 a1 a2 a4 a6 s.1 s.2.1 s.2.2) s = some e → gWW X Y 12 73 [(0, .ref (gad Y 0 59)), (1, .int a1), (2, .long a2), (4, .long a4), (6, .int a6), (7, .long s.1), (9, .int s.2.1)] [] s.2.2 := by
  intro F s
  refine itr_w (P := fun s => gWW X Y 12 73 [(0, .ref (gad Y 0 59)), (1, .int a1), (2, .long a2), (4, .long a4), (6, .int a6), (7, .long s.1), (9, .int s.2.1)] [] s.2.2) (fun s o hx kI kx => ?_) F s
  obtain ⟨b7, b9, N⟩ := s
  have hx : s_X11_moods_73 a1 a2 a4 a6 b7 b9 N = some o := hx
  have kE : ∀ s : (Int64 × Int32 × gMem), o = .inr s → gWW X Y 12 148 [(0, .ref (gad Y 0 59)), (1, .int a1), (2, .long a2), (4, .long a4), (6, .int a6), (7, .long s.1)] [] s.2.2 := fun s q => kE s (kx _ q).symm
  have J141 : ∀ (N : gMem) (b7 : Int64) (b9 : Int32) (t0 : Int32) (t1 : Int32) , j_X11_moods_73_141 a1 a2 a4 a6 N b7 b9 t0 t1 = some o → gWW X Y 12 141 [(0, .ref (gad Y 0 59)), (1, .int a1), (2, .long a2), (4, .long a4), (6, .int a6), (7, .long b7), (9, .int b9)] [.int t0, .int t1, .ref (gad Y 0 60)] N := by
    intro N b7 b9 t0 t1 hx
    unfold j_X11_moods_73_141 at hx
    have g21 := (gd_e hx).1
    have hx := (gd_e hx).2
    refine q_iast hC 69 (gV_t (by decide) (by decide)) rfl g21 dX11_moods_141 ?_
    refine q_iinc hC 6 1 [(9, .int (b9 + 1)), (0, .ref (gad Y 0 59)), (1, .int a1), (2, .long a2), (4, .long a4), (6, .int a6), (7, .long b7)] dX11_moods_142 rfl rfl (by decide) rfl ?_
    refine q_goto hC 73 dX11_moods_145 rfl ?_
    exact q_sub [1, 2, 3, 4, 5, 6, 0] rfl (kI (b7, b9 + 1, gwr N 0 60 (t1).toNatClampNeg t0) (Option.some.inj hx).symm)
  have J107 : ∀ (N : gMem) (b9 : Int32) (t0 : Int64) (t1 : Int64) , j_X11_moods_73_107 a1 a2 a4 a6 N b9 t0 t1 = some o → gWW X Y 12 107 [(0, .ref (gad Y 0 59)), (1, .int a1), (2, .long a2), (4, .long a4), (6, .int a6), (9, .int b9)] [.long t0, .long t1] N := by
    intro N b9 t0 t1 hx
    unfold j_X11_moods_73_107 at hx
    refine q_lmul hC dX11_moods_107 ?_
    refine q_lstore hC [(7, .long (t1 * t0)), (0, .ref (gad Y 0 59)), (1, .int a1), (2, .long a2), (4, .long a4), (6, .int a6), (9, .int b9)] dX11_moods_108 (by decide) rfl ?_
    refine q_aload_n hC 1 dX11_moods_110 rfl rfl ?_
    refine gf_X11_7 hC dX11_moods_111 ?_
    refine q_iconst hC 2 dX11_moods_114 rfl ?_
    refine q_iload hC 6 dX11_moods_115 rfl ?_
    refine q_iadd hC dX11_moods_117 ?_
    refine q_iload hC 5 dX11_moods_118 rfl ?_
    refine q_iload hC 6 dX11_moods_120 rfl ?_
    obtain ⟨v17, q18, hx⟩ := gb_e hx
    refine q_kzp (q_rS (As := [.int a6, .int b9]) (rest := [.int (2 + b9), .ref (gad Y 0 60)]) hC mm_X11_has wM_X11_153 (c_X11_has q18) ⟨rfl, rfl, Nat.le_of_ble_eq_true rfl, Nat.le_of_ble_eq_true rfl⟩ rfl rfl (Nat.le_of_ble_eq_true rfl) dX11_moods_122) (fun z19 => ?_)
    refine q_if_eq hC 140 dX11_moods_125 rfl (fun h20 => ?_) (fun h20 => ?_)
    · have hx := gi_p h20 hx
      refine q_iconst hC (-1) dX11_moods_140 rfl ?_
      exact q_sub [1, 2, 3, 4, 5, 0, 6] rfl (J141 N (t1 * t0) b9 (-1) (2 + b9) hx)
    · have hx := gi_n h20 hx
      refine q_aload_n hC 1 dX11_moods_128 rfl rfl ?_
      refine gf_X11_41 hC dX11_moods_129 ?_
      refine q_iconst hC 2 dX11_moods_132 rfl ?_
      refine q_iload hC 6 dX11_moods_133 rfl ?_
      refine q_iadd hC dX11_moods_135 ?_
      have g22 := (gd_e hx).1
      have hx := (gd_e hx).2
      refine q_iald hC 15 (gV_t (by decide) (by decide)) rfl g22 dX11_moods_136 ?_
      refine q_goto hC 141 dX11_moods_137 rfl ?_
      exact q_sub [1, 2, 3, 4, 5, 0, 6] rfl (J141 N (t1 * t0) b9 (N.1 0 69 (2 + b9).toNatClampNeg) (2 + b9) hx)
  unfold s_X11_moods_73 at hx
  refine q_iload hC 6 dX11_moods_73 rfl ?_
  refine q_aload_n hC 0 dX11_moods_75 rfl rfl ?_
  refine gf_X11_7 hC dX11_moods_76 ?_
  refine q_bipush hC 16 dX11_moods_79 rfl ?_
  refine q_ialdk hC 16 69 (gV_t (by decide) (by decide)) rfl (by decide) rfl dX11_moods_81 ?_
  refine q_ic_ge hC 148 dX11_moods_82 rfl (fun h12 => ?_) (fun h12 => ?_)
  · have hx := gi_p h12 hx
    exact q_sub [0, 1, 2, 3, 4, 5] rfl (kE (b7, b9, N) (Option.some.inj hx).symm)
  · have hx := gi_n h12 hx
    refine q_lload hC 5 dX11_moods_85 rfl ?_
    refine q_iload hC 4 dX11_moods_87 rfl ?_
    refine q_iload hC 6 dX11_moods_89 rfl ?_
    obtain ⟨v13, q14, hx⟩ := gb_e hx
    refine q_kzp (q_rS (As := [.int a6, .int b9]) (rest := [.long b7]) hC mm_X11_has wM_X11_153 (c_X11_has q14) ⟨rfl, rfl, Nat.le_of_ble_eq_true rfl, Nat.le_of_ble_eq_true rfl⟩ rfl rfl (Nat.le_of_ble_eq_true rfl) dX11_moods_91) (fun z15 => ?_)
    refine q_if_eq hC 102 dX11_moods_94 rfl (fun h16 => ?_) (fun h16 => ?_)
    · have hx := gi_p h16 hx
      refine q_bipush hC 10 dX11_moods_102 rfl ?_
      refine q_iload_n hC 1 dX11_moods_104 rfl rfl ?_
      refine q_isub hC dX11_moods_105 ?_
      refine q_i2l hC dX11_moods_106 ?_
      exact q_sub [0, 1, 2, 3, 4, 6] rfl (J107 N b9 (Int32.toInt64 (10 - a1)) b7 hx)
    · have hx := gi_n h16 hx
      refine q_iload_n hC 1 dX11_moods_97 rfl rfl ?_
      refine q_i2l hC dX11_moods_98 ?_
      refine q_goto hC 107 dX11_moods_99 rfl ?_
      exact q_sub [0, 1, 2, 3, 4, 6] rfl (J107 N b9 (Int32.toInt64 a1) b7 hx)
set_option maxRecDepth 100000 in
set_option maxHeartbeats 4000000 in
theorem w_X11_moods_58 {X : gX} {Y : gY} {a1 : Int32} {a4 : Int64} {r : (Int32 × gMem)} (hC : gC X Y cX11_moods "GuestStaffModel" 12 4 87) (hF : gF X Y (some .int) (gQi Y r)) {e : (Int64 × Int32 × gMem)} (kE : ∀ s : (Int64 × Int32 × gMem), e = s → gWW X Y 12 165 [(0, .ref (gad Y 0 59)), (2, .long s.1), (4, .long a4)] [] s.2.2) : ∀ (F : Nat) (s : (Int64 × Int32 × gMem)), itr F (fun s => s_X11_moods_58 a1 a4 s.1 s.2.1 s.2.2) s = some e → gWW X Y 12 58 [(0, .ref (gad Y 0 59)), (1, .int a1), (2, .long s.1), (4, .long a4), (6, .int s.2.1)] [] s.2.2 := by
  intro F s
  refine itr_w (P := fun s => gWW X Y 12 58 [(0, .ref (gad Y 0 59)), (1, .int a1), (2, .long s.1), (4, .long a4), (6, .int s.2.1)] [] s.2.2) (fun s o hx kI kx => ?_) F s
  obtain ⟨b2, b6, N⟩ := s
  have hx : s_X11_moods_58 a1 a4 b2 b6 N = some o := hx
  have kE : ∀ s : (Int64 × Int32 × gMem), o = .inr s → gWW X Y 12 165 [(0, .ref (gad Y 0 59)), (2, .long s.1), (4, .long a4)] [] s.2.2 := fun s q => kE s (kx _ q).symm
  unfold s_X11_moods_58 at hx
  refine q_iload hC 4 dX11_moods_58 rfl ?_
  refine q_aload_n hC 0 dX11_moods_60 rfl rfl ?_
  obtain ⟨v9, q10, hx⟩ := gb_e hx
  refine q_kip (q_rV (As := []) (rest := [.int b6]) hC mm_X11_everybody wM_X11_189 (c_X11_everybody q10) ⟨rfl, rfl, Nat.le_of_ble_eq_true rfl, Nat.le_of_ble_eq_true rfl⟩ (gV_t (by decide) (by decide)) rfl rfl rfl rfl (Nat.le_of_ble_eq_true rfl) dX11_moods_61) ?_
  refine q_ic_gt hC 165 dX11_moods_64 rfl (fun h11 => ?_) (fun h11 => ?_)
  · have hx := gi_p h11 hx
    exact q_sub [0, 2, 3] rfl (kE (b2, b6, N) (Option.some.inj hx).symm)
  · have hx := gi_n h11 hx
    refine q_lconst hC 1 dX11_moods_67 rfl ?_
    refine q_lstore hC [(7, .long 1), (0, .ref (gad Y 0 59)), (1, .int a1), (2, .long b2), (4, .long a4), (6, .int b6)] dX11_moods_68 (by decide) rfl ?_
    refine q_iconst hC 0 dX11_moods_70 rfl ?_
    refine q_istore hC [(9, .int 0), (7, .long 1), (0, .ref (gad Y 0 59)), (1, .int a1), (2, .long b2), (4, .long a4), (6, .int b6)] dX11_moods_71 (by decide) rfl ?_
    obtain ⟨e23, qe23, hx⟩ := gb_e hx
    refine q_sub [2, 3, 4, 5, 6, 1, 0] rfl (w_X11_moods_73 hC hF (e := e23) (fun s q => ?_) _ _ qe23)
    · subst q
      refine q_lload_n hC 2 dX11_moods_148 rfl rfl ?_
      refine q_lload hC 5 dX11_moods_149 rfl ?_
      refine q_aload_n hC 0 dX11_moods_151 rfl rfl ?_
      obtain ⟨v24, q25, hx⟩ := gb_e hx
      refine q_kip (q_rV (As := []) (rest := [.long e23.1, .long b2]) hC mm_X11_servedMany wM_X11_247 (c_X11_servedMany q25) ⟨rfl, rfl, Nat.le_of_ble_eq_true rfl, Nat.le_of_ble_eq_true rfl⟩ (gV_t (by decide) (by decide)) rfl rfl rfl rfl (Nat.le_of_ble_eq_true rfl) dX11_moods_152) ?_
      refine q_i2l hC dX11_moods_155 ?_
      refine q_lmul hC dX11_moods_156 ?_
      refine q_ladd hC dX11_moods_157 ?_
      refine q_lstore_n hC [(2, .long (b2 + (e23.1 * (Int32.toInt64 v24)))), (0, .ref (gad Y 0 59)), (1, .int a1), (4, .long a4), (6, .int b6), (7, .long e23.1)] dX11_moods_158 rfl (by decide) rfl ?_
      refine q_iinc hC 4 1 [(6, .int (b6 + 1)), (2, .long (b2 + (e23.1 * (Int32.toInt64 v24)))), (0, .ref (gad Y 0 59)), (1, .int a1), (4, .long a4), (7, .long e23.1)] dX11_moods_159 rfl rfl (by decide) rfl ?_
      refine q_goto hC 58 dX11_moods_162 rfl ?_
      exact q_sub [2, 3, 1, 4, 0] rfl (kI (b2 + (e23.1 * (Int32.toInt64 v24)), b6 + 1, e23.2.2) (Option.some.inj hx).symm)
set_option maxRecDepth 100000 in
set_option maxHeartbeats 4000000 in
theorem w_X11_moods_176 {X : gX} {Y : gY} {M : gMem} {a2 : Int64} {a4 : Int64} {r : (Int32 × gMem)} (hC : gC X Y cX11_moods "GuestStaffModel" 12 4 87) (hF : gF X Y (some .int) (gQi Y r)) {e : (Int64 × Int64)} (kE : ∀ s : (Int64 × Int64), e = s → gWW X Y 12 201 [(0, .ref (gad Y 0 59)), (2, .long a2), (4, .long a4), (6, .long s.1)] [] M) : ∀ (F : Nat) (s : (Int64 × Int64)), itr F (fun s => s_X11_moods_176 M a2 a4 s.1 s.2) s = some e → gWW X Y 12 176 [(0, .ref (gad Y 0 59)), (2, .long a2), (4, .long a4), (6, .long s.1), (8, .long s.2)] [] M := by
  intro F s
  refine itr_w (P := fun s => gWW X Y 12 176 [(0, .ref (gad Y 0 59)), (2, .long a2), (4, .long a4), (6, .long s.1), (8, .long s.2)] [] M) (fun s o hx kI kx => ?_) F s
  obtain ⟨b6, b8⟩ := s
  have hx : s_X11_moods_176 M a2 a4 b6 b8 = some o := hx
  have kE : ∀ s : (Int64 × Int64), o = .inr s → gWW X Y 12 201 [(0, .ref (gad Y 0 59)), (2, .long a2), (4, .long a4), (6, .long s.1)] [] M := fun s q => kE s (kx _ q).symm
  unfold s_X11_moods_176 at hx
  refine q_lload hC 4 dX11_moods_176 rfl ?_
  refine q_lconst hC 0 dX11_moods_178 rfl ?_
  refine q_lcmp hC dX11_moods_179 ?_
  refine q_if_eq hC 201 dX11_moods_180 rfl (fun h29 => ?_) (fun h29 => ?_)
  · have hx := gi_p h29 hx
    exact q_sub [0, 1, 2, 3] rfl (kE (b6, b8) (Option.some.inj hx).symm)
  · have hx := gi_n h29 hx
    refine q_lload hC 3 dX11_moods_183 rfl ?_
    refine q_lload hC 4 dX11_moods_185 rfl ?_
    have g30 := (gd_e hx).1
    have hx := (gd_e hx).2
    refine q_lrem hC dX11_moods_187 g30 ?_
    refine q_lstore hC [(10, .long (b6 - b6 / b8 * b8)), (0, .ref (gad Y 0 59)), (2, .long a2), (4, .long a4), (6, .long b6), (8, .long b8)] dX11_moods_188 (by decide) rfl ?_
    refine q_lload hC 5 dX11_moods_190 rfl ?_
    refine q_lstore hC [(6, .long b8), (10, .long (b6 - b6 / b8 * b8)), (0, .ref (gad Y 0 59)), (2, .long a2), (4, .long a4), (8, .long b8)] dX11_moods_192 (by decide) rfl ?_
    refine q_lload hC 1 dX11_moods_194 rfl ?_
    refine q_lstore hC [(8, .long (b6 - b6 / b8 * b8)), (6, .long b8), (10, .long (b6 - b6 / b8 * b8)), (0, .ref (gad Y 0 59)), (2, .long a2), (4, .long a4)] dX11_moods_196 (by decide) rfl ?_
    refine q_goto hC 176 dX11_moods_198 rfl ?_
    exact q_sub [3, 4, 5, 1, 0] rfl (kI (b8, b6 - b6 / b8 * b8) (Option.some.inj hx).symm)
set_option maxRecDepth 100000 in
set_option maxHeartbeats 4000000 in
theorem c_X11_moods {l : Launch} {Y : gY} {M : gMem} {p1 : Int32} {r : (Int32 × gMem)} (hx : x_X11_moods M p1 = some r) : Met l yX11_moods (gws yX11_moods cX11_moods 12 (some .int)) { frames := 4, cells := 0, slots := 0, locals := 87 } (va_Pc [.ref (gad Y 0 59), .int p1] (gS0 Y M)) (gQi Y r) 0 0 (gA Y) := by
  refine gmet (lv := [(0, .ref (gad Y 0 59)), (1, .int p1)]) "GuestStaffModel" (by decide) rfl (Nat.le_of_ble_eq_true rfl) rfl (fun X hC hF => ?_)
  unfold x_X11_moods at hx
  refine q_iload_n hC 1 dX11_moods_0 rfl rfl ?_
  refine q_i2l hC dX11_moods_1 ?_
  refine q_lconst hC 0 dX11_moods_2 rfl ?_
  refine q_ldc2 hC 10 dX11_moods_3 wC_X11_245 ?_
  obtain ⟨v1, q2, hx⟩ := gb_e hx
  refine q_kzp (q_rS (As := [.long (Int32.toInt64 p1), .long 0, .long 10]) (rest := []) hC mm_X11_in wM_X11_57 (c_X11_in q2) ⟨rfl, rfl, Nat.le_of_ble_eq_true rfl, Nat.le_of_ble_eq_true rfl⟩ rfl rfl (Nat.le_of_ble_eq_true rfl) dX11_moods_6) (fun z3 => ?_)
  refine q_if_ne hC 17 dX11_moods_9 rfl (fun h4 => ?_) (fun h4 => ?_)
  · have hx := gi_n h4 hx
    refine q_aload_n hC 0 dX11_moods_17 rfl rfl ?_
    obtain ⟨v5, q6, hx⟩ := gb_e hx
    refine q_kv (q_rV (As := []) (rest := []) hC mm_X11_putAside wM_X11_239 (c_X11_putAside q6) ⟨rfl, rfl, Nat.le_of_ble_eq_true rfl, Nat.le_of_ble_eq_true rfl⟩ (gV_t (by decide) (by decide)) rfl rfl rfl rfl (Nat.le_of_ble_eq_true rfl) dX11_moods_18) ?_
    refine q_lconst hC 0 dX11_moods_21 rfl ?_
    refine q_lstore_n hC [(2, .long 0), (0, .ref (gad Y 0 59)), (1, .int p1)] dX11_moods_22 rfl (by decide) rfl ?_
    refine q_lconst hC 1 dX11_moods_23 rfl ?_
    refine q_lstore hC [(4, .long 1), (2, .long 0), (0, .ref (gad Y 0 59)), (1, .int p1)] dX11_moods_24 (by decide) rfl ?_
    refine q_iconst hC 0 dX11_moods_26 rfl ?_
    refine q_istore hC [(6, .int 0), (4, .long 1), (2, .long 0), (0, .ref (gad Y 0 59)), (1, .int p1)] dX11_moods_27 (by decide) rfl ?_
    obtain ⟨e8, qe8, hx⟩ := gb_e hx
    refine q_sub [3, 4, 2, 1, 0] rfl (w_X11_moods_29 hC hF (e := e8) (fun s q => ?_) _ _ qe8)
    · subst q
      refine q_iconst hC 0 dX11_moods_55 rfl ?_
      refine q_istore hC [(6, .int 0), (0, .ref (gad Y 0 59)), (1, .int p1), (2, .long 0), (4, .long e8.1)] dX11_moods_56 (by decide) rfl ?_
      obtain ⟨e26, qe26, hx⟩ := gb_e hx
      refine q_sub [1, 2, 3, 4, 0] rfl (w_X11_moods_58 hC hF (e := e26) (fun s q => ?_) _ _ qe26)
      · subst q
        refine q_aload_n hC 0 dX11_moods_165 rfl rfl ?_
        obtain ⟨v27, q28, hx⟩ := gb_e hx
        refine q_kv (q_rV (As := []) (rest := []) hC mm_X11_takeBack wM_X11_242 (c_X11_takeBack q28) ⟨rfl, rfl, Nat.le_of_ble_eq_true rfl, Nat.le_of_ble_eq_true rfl⟩ (gV_t (by decide) (by decide)) rfl rfl rfl rfl (Nat.le_of_ble_eq_true rfl) dX11_moods_166) ?_
        refine q_lload_n hC 1 dX11_moods_169 rfl rfl ?_
        refine q_lstore hC [(6, .long e26.1), (0, .ref (gad Y 0 59)), (2, .long e26.1), (4, .long e8.1)] dX11_moods_170 (by decide) rfl ?_
        refine q_lload hC 3 dX11_moods_172 rfl ?_
        refine q_lstore hC [(8, .long e8.1), (6, .long e26.1), (0, .ref (gad Y 0 59)), (2, .long e26.1), (4, .long e8.1)] dX11_moods_174 (by decide) rfl ?_
        obtain ⟨e31, qe31, hx⟩ := gb_e hx
        refine q_sub [2, 3, 4, 1, 0] rfl (w_X11_moods_176 hC hF (e := e31) (fun s q => ?_) _ _ qe31)
        · subst q
          refine q_aload_n hC 0 dX11_moods_201 rfl rfl ?_
          refine q_lload_n hC 1 dX11_moods_202 rfl rfl ?_
          refine q_lload hC 3 dX11_moods_203 rfl ?_
          have g32 := (gd_e hx).1
          have hx := (gd_e hx).2
          refine q_ldiv hC dX11_moods_205 g32 ?_
          refine pf_X11_250 hC dX11_moods_206 ?_
          refine q_aload_n hC 0 dX11_moods_209 rfl rfl ?_
          refine q_lload hC 2 dX11_moods_210 rfl ?_
          refine q_lload hC 3 dX11_moods_212 rfl ?_
          have g33 := (gd_e hx).1
          have hx := (gd_e hx).2
          refine q_ldiv hC dX11_moods_214 g33 ?_
          refine pf_X11_13 hC dX11_moods_215 ?_
          refine q_iconst hC 1 dX11_moods_218 rfl ?_
          exact q_iret hC hF dX11_moods_219 (Option.some.inj hx)
  · have hx := gi_p h4 hx
    refine q_aload_n hC 0 dX11_moods_12 rfl rfl ?_
    obtain ⟨v34, q35, hx⟩ := gb_e hx
    refine q_ki (q_rV (As := []) (rest := []) hC mm_X11_bad wM_X11_74 (c_X11_bad q35) ⟨rfl, rfl, Nat.le_of_ble_eq_true rfl, Nat.le_of_ble_eq_true rfl⟩ (gV_t (by decide) (by decide)) rfl rfl rfl rfl (Nat.le_of_ble_eq_true rfl) dX11_moods_13) ?_
    exact q_iret hC hF dX11_moods_16 (Option.some.inj hx)

theorem dX11_hours_0 : decode cX11_hours 0 = .ok (.iload_n 1, 1) := by decide +kernel
theorem dX11_hours_1 : decode cX11_hours 1 = .ok (.i2l, 1) := by decide +kernel
theorem dX11_hours_2 : decode cX11_hours 2 = .ok (.lconst 0, 1) := by decide +kernel
theorem dX11_hours_3 : decode cX11_hours 3 = .ok (.ldc2_w 253, 3) := by decide +kernel
theorem dX11_hours_6 : decode cX11_hours 6 = .ok (.invokestatic 57, 3) := by decide +kernel
theorem dX11_hours_9 : decode cX11_hours 9 = .ok (.ifCond .eq 15, 3) := by decide +kernel
theorem dX11_hours_12 : decode cX11_hours 12 = .ok (.iload_n 2, 1) := by decide +kernel
theorem dX11_hours_13 : decode cX11_hours 13 = .ok (.i2l, 1) := by decide +kernel
theorem dX11_hours_14 : decode cX11_hours 14 = .ok (.lconst 0, 1) := by decide +kernel
theorem dX11_hours_15 : decode cX11_hours 15 = .ok (.ldc2_w 170, 3) := by decide +kernel
theorem dX11_hours_18 : decode cX11_hours 18 = .ok (.invokestatic 57, 3) := by decide +kernel
theorem dX11_hours_21 : decode cX11_hours 21 = .ok (.ifCond .ne 8, 3) := by decide +kernel
theorem dX11_hours_24 : decode cX11_hours 24 = .ok (.aload_n 0, 1) := by decide +kernel
theorem dX11_hours_25 : decode cX11_hours 25 = .ok (.invokevirtual 74, 3) := by decide +kernel
theorem dX11_hours_28 : decode cX11_hours 28 = .ok (.ireturn, 1) := by decide +kernel
theorem dX11_hours_29 : decode cX11_hours 29 = .ok (.aload_n 0, 1) := by decide +kernel
theorem dX11_hours_30 : decode cX11_hours 30 = .ok (.invokevirtual 239, 3) := by decide +kernel
theorem dX11_hours_33 : decode cX11_hours 33 = .ok (.iload_n 1, 1) := by decide +kernel
theorem dX11_hours_34 : decode cX11_hours 34 = .ok (.i2l, 1) := by decide +kernel
theorem dX11_hours_35 : decode cX11_hours 35 = .ok (.lstore_n 3, 1) := by decide +kernel
theorem dX11_hours_36 : decode cX11_hours 36 = .ok (.iconst 0, 1) := by decide +kernel
theorem dX11_hours_37 : decode cX11_hours 37 = .ok (.istore 5, 2) := by decide +kernel
theorem dX11_hours_39 : decode cX11_hours 39 = .ok (.iload 5, 2) := by decide +kernel
theorem dX11_hours_41 : decode cX11_hours 41 = .ok (.iload_n 2, 1) := by decide +kernel
theorem dX11_hours_42 : decode cX11_hours 42 = .ok (.if_icmp .ge 91, 3) := by decide +kernel
theorem dX11_hours_45 : decode cX11_hours 45 = .ok (.iconst 0, 1) := by decide +kernel
theorem dX11_hours_46 : decode cX11_hours 46 = .ok (.istore 6, 2) := by decide +kernel
theorem dX11_hours_48 : decode cX11_hours 48 = .ok (.iload 6, 2) := by decide +kernel
theorem dX11_hours_50 : decode cX11_hours 50 = .ok (.aload_n 0, 1) := by decide +kernel
theorem dX11_hours_51 : decode cX11_hours 51 = .ok (.getfield 7, 3) := by decide +kernel
theorem dX11_hours_54 : decode cX11_hours 54 = .ok (.bipush 16, 2) := by decide +kernel
theorem dX11_hours_56 : decode cX11_hours 56 = .ok (.iaload, 1) := by decide +kernel
theorem dX11_hours_57 : decode cX11_hours 57 = .ok (.if_icmp .ge 66, 3) := by decide +kernel
theorem dX11_hours_60 : decode cX11_hours 60 = .ok (.lload_n 3, 1) := by decide +kernel
theorem dX11_hours_61 : decode cX11_hours 61 = .ok (.ldc2_w 255, 3) := by decide +kernel
theorem dX11_hours_64 : decode cX11_hours 64 = .ok (.lmul, 1) := by decide +kernel
theorem dX11_hours_65 : decode cX11_hours 65 = .ok (.ldc2_w 257, 3) := by decide +kernel
theorem dX11_hours_68 : decode cX11_hours 68 = .ok (.ladd, 1) := by decide +kernel
theorem dX11_hours_69 : decode cX11_hours 69 = .ok (.ldc2_w 259, 3) := by decide +kernel
theorem dX11_hours_72 : decode cX11_hours 72 = .ok (.lrem, 1) := by decide +kernel
theorem dX11_hours_73 : decode cX11_hours 73 = .ok (.lstore_n 3, 1) := by decide +kernel
theorem dX11_hours_74 : decode cX11_hours 74 = .ok (.lload_n 3, 1) := by decide +kernel
theorem dX11_hours_75 : decode cX11_hours 75 = .ok (.ldc2_w 261, 3) := by decide +kernel
theorem dX11_hours_78 : decode cX11_hours 78 = .ok (.ldiv, 1) := by decide +kernel
theorem dX11_hours_79 : decode cX11_hours 79 = .ok (.ldc2_w 263, 3) := by decide +kernel
theorem dX11_hours_82 : decode cX11_hours 82 = .ok (.lrem, 1) := by decide +kernel
theorem dX11_hours_83 : decode cX11_hours 83 = .ok (.l2i, 1) := by decide +kernel
theorem dX11_hours_84 : decode cX11_hours 84 = .ok (.istore 7, 2) := by decide +kernel
theorem dX11_hours_86 : decode cX11_hours 86 = .ok (.aload_n 0, 1) := by decide +kernel
theorem dX11_hours_87 : decode cX11_hours 87 = .ok (.getfield 7, 3) := by decide +kernel
theorem dX11_hours_90 : decode cX11_hours 90 = .ok (.iconst 2, 1) := by decide +kernel
theorem dX11_hours_91 : decode cX11_hours 91 = .ok (.iload 6, 2) := by decide +kernel
theorem dX11_hours_93 : decode cX11_hours 93 = .ok (.iadd, 1) := by decide +kernel
theorem dX11_hours_94 : decode cX11_hours 94 = .ok (.iload 7, 2) := by decide +kernel
theorem dX11_hours_96 : decode cX11_hours 96 = .ok (.iload 6, 2) := by decide +kernel
theorem dX11_hours_98 : decode cX11_hours 98 = .ok (.if_icmp .eq 12, 3) := by decide +kernel
theorem dX11_hours_101 : decode cX11_hours 101 = .ok (.aload_n 0, 1) := by decide +kernel
theorem dX11_hours_102 : decode cX11_hours 102 = .ok (.iload 7, 2) := by decide +kernel
theorem dX11_hours_104 : decode cX11_hours 104 = .ok (.invokevirtual 85, 3) := by decide +kernel
theorem dX11_hours_107 : decode cX11_hours 107 = .ok (.ifCond .ne 7, 3) := by decide +kernel
theorem dX11_hours_110 : decode cX11_hours 110 = .ok (.iconst (-1), 1) := by decide +kernel
theorem dX11_hours_111 : decode cX11_hours 111 = .ok (.goto 5, 3) := by decide +kernel
theorem dX11_hours_114 : decode cX11_hours 114 = .ok (.iload 7, 2) := by decide +kernel
theorem dX11_hours_116 : decode cX11_hours 116 = .ok (.iastore, 1) := by decide +kernel
theorem dX11_hours_117 : decode cX11_hours 117 = .ok (.iinc 6 1, 3) := by decide +kernel
theorem dX11_hours_120 : decode cX11_hours 120 = .ok (.goto (-72), 3) := by decide +kernel
theorem dX11_hours_123 : decode cX11_hours 123 = .ok (.aload_n 0, 1) := by decide +kernel
theorem dX11_hours_124 : decode cX11_hours 124 = .ok (.invokevirtual 172, 3) := by decide +kernel
theorem dX11_hours_127 : decode cX11_hours 127 = .ok (.iinc 5 1, 3) := by decide +kernel
theorem dX11_hours_130 : decode cX11_hours 130 = .ok (.goto (-91), 3) := by decide +kernel
theorem dX11_hours_133 : decode cX11_hours 133 = .ok (.aload_n 0, 1) := by decide +kernel
theorem dX11_hours_134 : decode cX11_hours 134 = .ok (.getfield 7, 3) := by decide +kernel
theorem dX11_hours_137 : decode cX11_hours 137 = .ok (.iconst 1, 1) := by decide +kernel
theorem dX11_hours_138 : decode cX11_hours 138 = .ok (.iaload, 1) := by decide +kernel
theorem dX11_hours_139 : decode cX11_hours 139 = .ok (.aload_n 0, 1) := by decide +kernel
theorem dX11_hours_140 : decode cX11_hours 140 = .ok (.getfield 41, 3) := by decide +kernel
theorem dX11_hours_143 : decode cX11_hours 143 = .ok (.iconst 1, 1) := by decide +kernel
theorem dX11_hours_144 : decode cX11_hours 144 = .ok (.iaload, 1) := by decide +kernel
theorem dX11_hours_145 : decode cX11_hours 145 = .ok (.isub, 1) := by decide +kernel
theorem dX11_hours_146 : decode cX11_hours 146 = .ok (.istore 5, 2) := by decide +kernel
theorem dX11_hours_148 : decode cX11_hours 148 = .ok (.aload_n 0, 1) := by decide +kernel
theorem dX11_hours_149 : decode cX11_hours 149 = .ok (.invokevirtual 242, 3) := by decide +kernel
theorem dX11_hours_152 : decode cX11_hours 152 = .ok (.iload 5, 2) := by decide +kernel
theorem dX11_hours_154 : decode cX11_hours 154 = .ok (.ireturn, 1) := by decide +kernel
def j_X11_hours_24 (M : gMem) (p1 : Int32) (p2 : Int32) (N : gMem) : Option (Int32 × gMem) := Option.bind (x_X11_bad N) (fun v5 => some (v5.1, v5.2))
def j_X11_hours_48_116 (a2 : Int32) (a5 : Int32) (N : gMem) (b3 : Int64) (b6 : Int32) (t0 : Int32) (t1 : Int32) : Option ((Int64 × Int32 × gMem) ⊕ (Int64 × Int32 × gMem)) := gd (gin t1 70) (some (.inl (b3, b6 + 1, gwr N 0 60 (t1).toNatClampNeg t0)))
def j_X11_hours_48_110 (a2 : Int32) (a5 : Int32) (N : gMem) (b3 : Int64) (b6 : Int32) (t0 : Int32) : Option ((Int64 × Int32 × gMem) ⊕ (Int64 × Int32 × gMem)) := j_X11_hours_48_116 a2 a5 N b3 b6 (-1) t0
def s_X11_hours_48 (a2 : Int32) (a5 : Int32) (b3 : Int64) (b6 : Int32) (N : gMem) : Option ((Int64 × Int32 × gMem) ⊕ (Int64 × Int32 × gMem)) := (if (N.1 0 60 16) ≤ b6 then some (.inr (b3, b6, N)) else (if (Int64.toInt32 (((((b3 * 1103515245) + 12345) - ((b3 * 1103515245) + 12345) / 2147483648 * 2147483648) / 65536) - ((((b3 * 1103515245) + 12345) - ((b3 * 1103515245) + 12345) / 2147483648 * 2147483648) / 65536) / 8 * 8)) = b6 then j_X11_hours_48_110 a2 a5 N (((b3 * 1103515245) + 12345) - ((b3 * 1103515245) + 12345) / 2147483648 * 2147483648) b6 (2 + b6) else Option.bind (x_X11_isGuest N (Int64.toInt32 (((((b3 * 1103515245) + 12345) - ((b3 * 1103515245) + 12345) / 2147483648 * 2147483648) / 65536) - ((((b3 * 1103515245) + 12345) - ((b3 * 1103515245) + 12345) / 2147483648 * 2147483648) / 65536) / 8 * 8))) (fun v17 => (if v17 = 0 then j_X11_hours_48_110 a2 a5 N (((b3 * 1103515245) + 12345) - ((b3 * 1103515245) + 12345) / 2147483648 * 2147483648) b6 (2 + b6) else j_X11_hours_48_116 a2 a5 N (((b3 * 1103515245) + 12345) - ((b3 * 1103515245) + 12345) / 2147483648 * 2147483648) b6 (Int64.toInt32 (((((b3 * 1103515245) + 12345) - ((b3 * 1103515245) + 12345) / 2147483648 * 2147483648) / 65536) - ((((b3 * 1103515245) + 12345) - ((b3 * 1103515245) + 12345) / 2147483648 * 2147483648) / 65536) / 8 * 8)) (2 + b6)))))
def s_X11_hours_39 (a2 : Int32) (b3 : Int64) (b5 : Int32) (N : gMem) : Option ((Int64 × Int32 × gMem) ⊕ (Int64 × Int32 × gMem)) := (if a2 ≤ b5 then some (.inr (b3, b5, N)) else Option.bind (itr FU (fun s => s_X11_hours_48 a2 b5 s.1 s.2.1 s.2.2) (b3, 0, N)) (fun e21 => Option.bind (x_X11_oneHour e21.2.2) (fun v22 => some (.inl (e21.1, b5 + 1, v22)))))
def x_X11_hours (M : gMem) (p1 : Int32) (p2 : Int32) : Option (Int32 × gMem) := Option.bind (x_X11_in (Int32.toInt64 p1) 0 999999) (fun v1 => (if v1 = 0 then j_X11_hours_24 M p1 p2 M else Option.bind (x_X11_in (Int32.toInt64 p2) 0 60) (fun v7 => (if v7 = 0 then j_X11_hours_24 M p1 p2 M else Option.bind (x_X11_putAside M) (fun v11 => Option.bind (itr FU (fun s => s_X11_hours_39 p2 s.1 s.2.1 s.2.2) (Int32.toInt64 p1, 0, v11)) (fun e24 => Option.bind (x_X11_takeBack e24.2.2) (fun v25 => some ((e24.2.2.1 0 60 1) - (e24.2.2.1 0 69 1), v25))))))))
set_option maxRecDepth 100000 in
set_option maxHeartbeats 4000000 in
theorem w_X11_hours_48 {X : gX} {Y : gY} {a2 : Int32} {a5 : Int32} {r : (Int32 × gMem)} (hC : gC X Y cX11_hours "GuestStaffModel" 8 4 87) (hF : gF X Y (some .int) (gQi Y r)) {e : (Int64 × Int32 × gMem)} (kE : ∀ s : (Int64 × Int32 × gMem), e = s → gWW X Y 8 123 [(0, .ref (gad Y 0 59)), (2, .int a2), (3, .long s.1), (5, .int a5)] [] s.2.2) : ∀ (F : Nat) (s : (Int64 × Int32 × gMem)), itr F (fun s => s_X11_hours_48 a2 a5 s.1 s.2.1 s.2.2) s = some e → gWW X Y 8 48 [(0, .ref (gad Y 0 59)), (2, .int a2), (3, .long s.1), (5, .int a5), (6, .int s.2.1)] [] s.2.2 := by
  intro F s
  refine itr_w (P := fun s => gWW X Y 8 48 [(0, .ref (gad Y 0 59)), (2, .int a2), (3, .long s.1), (5, .int a5), (6, .int s.2.1)] [] s.2.2) (fun s o hx kI kx => ?_) F s
  obtain ⟨b3, b6, N⟩ := s
  have hx : s_X11_hours_48 a2 a5 b3 b6 N = some o := hx
  have kE : ∀ s : (Int64 × Int32 × gMem), o = .inr s → gWW X Y 8 123 [(0, .ref (gad Y 0 59)), (2, .int a2), (3, .long s.1), (5, .int a5)] [] s.2.2 := fun s q => kE s (kx _ q).symm
  have J116 : ∀ (N : gMem) (b3 : Int64) (b6 : Int32) (t0 : Int32) (t1 : Int32) , j_X11_hours_48_116 a2 a5 N b3 b6 t0 t1 = some o → gWW X Y 8 116 [(0, .ref (gad Y 0 59)), (2, .int a2), (3, .long b3), (5, .int a5), (6, .int b6)] [.int t0, .int t1, .ref (gad Y 0 60)] N := by
    intro N b3 b6 t0 t1 hx
    unfold j_X11_hours_48_116 at hx
    have g16 := (gd_e hx).1
    have hx := (gd_e hx).2
    refine q_iast hC 69 (gV_t (by decide) (by decide)) rfl g16 dX11_hours_116 ?_
    refine q_iinc hC 4 1 [(6, .int (b6 + 1)), (0, .ref (gad Y 0 59)), (2, .int a2), (3, .long b3), (5, .int a5)] dX11_hours_117 rfl rfl (by decide) rfl ?_
    refine q_goto hC 48 dX11_hours_120 rfl ?_
    exact q_sub [1, 2, 3, 4, 0] rfl (kI (b3, b6 + 1, gwr N 0 60 (t1).toNatClampNeg t0) (Option.some.inj hx).symm)
  have J110 : ∀ (N : gMem) (b3 : Int64) (b6 : Int32) (t0 : Int32) , j_X11_hours_48_110 a2 a5 N b3 b6 t0 = some o → gWW X Y 8 110 [(0, .ref (gad Y 0 59)), (2, .int a2), (3, .long b3), (5, .int a5), (6, .int b6)] [.int t0, .ref (gad Y 0 60)] N := by
    intro N b3 b6 t0 hx
    unfold j_X11_hours_48_110 at hx
    refine q_iconst hC (-1) dX11_hours_110 rfl ?_
    refine q_goto hC 116 dX11_hours_111 rfl ?_
    exact q_sub [0, 1, 2, 3, 4] rfl (J116 N b3 b6 (-1) t0 hx)
  unfold s_X11_hours_48 at hx
  refine q_iload hC 4 dX11_hours_48 rfl ?_
  refine q_aload_n hC 0 dX11_hours_50 rfl rfl ?_
  refine gf_X11_7 hC dX11_hours_51 ?_
  refine q_bipush hC 16 dX11_hours_54 rfl ?_
  refine q_ialdk hC 16 69 (gV_t (by decide) (by decide)) rfl (by decide) rfl dX11_hours_56 ?_
  refine q_ic_ge hC 123 dX11_hours_57 rfl (fun h14 => ?_) (fun h14 => ?_)
  · have hx := gi_p h14 hx
    exact q_sub [0, 1, 2, 3] rfl (kE (b3, b6, N) (Option.some.inj hx).symm)
  · have hx := gi_n h14 hx
    refine q_lload_n hC 2 dX11_hours_60 rfl rfl ?_
    refine q_ldc2 hC 1103515245 dX11_hours_61 wC_X11_255 ?_
    refine q_lmul hC dX11_hours_64 ?_
    refine q_ldc2 hC 12345 dX11_hours_65 wC_X11_257 ?_
    refine q_ladd hC dX11_hours_68 ?_
    refine q_ldc2 hC 2147483648 dX11_hours_69 wC_X11_259 ?_
    refine q_lrem hC dX11_hours_72 (by decide) ?_
    refine q_lstore_n hC [(3, .long (((b3 * 1103515245) + 12345) - ((b3 * 1103515245) + 12345) / 2147483648 * 2147483648)), (0, .ref (gad Y 0 59)), (2, .int a2), (5, .int a5), (6, .int b6)] dX11_hours_73 rfl (by decide) rfl ?_
    refine q_lload_n hC 0 dX11_hours_74 rfl rfl ?_
    refine q_ldc2 hC 65536 dX11_hours_75 wC_X11_261 ?_
    refine q_ldiv hC dX11_hours_78 (by decide) ?_
    refine q_ldc2 hC 8 dX11_hours_79 wC_X11_263 ?_
    refine q_lrem hC dX11_hours_82 (by decide) ?_
    refine q_l2i hC dX11_hours_83 ?_
    refine q_istore hC [(7, .int (Int64.toInt32 (((((b3 * 1103515245) + 12345) - ((b3 * 1103515245) + 12345) / 2147483648 * 2147483648) / 65536) - ((((b3 * 1103515245) + 12345) - ((b3 * 1103515245) + 12345) / 2147483648 * 2147483648) / 65536) / 8 * 8))), (3, .long (((b3 * 1103515245) + 12345) - ((b3 * 1103515245) + 12345) / 2147483648 * 2147483648)), (0, .ref (gad Y 0 59)), (2, .int a2), (5, .int a5), (6, .int b6)] dX11_hours_84 (by decide) rfl ?_
    refine q_aload_n hC 2 dX11_hours_86 rfl rfl ?_
    refine gf_X11_7 hC dX11_hours_87 ?_
    refine q_iconst hC 2 dX11_hours_90 rfl ?_
    refine q_iload hC 5 dX11_hours_91 rfl ?_
    refine q_iadd hC dX11_hours_93 ?_
    refine q_iload hC 0 dX11_hours_94 rfl ?_
    refine q_iload hC 5 dX11_hours_96 rfl ?_
    refine q_ic_eq hC 110 dX11_hours_98 rfl (fun h15 => ?_) (fun h15 => ?_)
    · have hx := gi_p h15 hx
      exact q_sub [2, 3, 1, 4, 5] rfl (J110 N (((b3 * 1103515245) + 12345) - ((b3 * 1103515245) + 12345) / 2147483648 * 2147483648) b6 (2 + b6) hx)
    · have hx := gi_n h15 hx
      refine q_aload_n hC 2 dX11_hours_101 rfl rfl ?_
      refine q_iload hC 0 dX11_hours_102 rfl ?_
      obtain ⟨v17, q18, hx⟩ := gb_e hx
      refine q_kzp (q_rV (As := [.int (Int64.toInt32 (((((b3 * 1103515245) + 12345) - ((b3 * 1103515245) + 12345) / 2147483648 * 2147483648) / 65536) - ((((b3 * 1103515245) + 12345) - ((b3 * 1103515245) + 12345) / 2147483648 * 2147483648) / 65536) / 8 * 8))]) (rest := [.int (2 + b6), .ref (gad Y 0 60)]) hC mm_X11_isGuest wM_X11_85 (c_X11_isGuest q18) ⟨rfl, rfl, Nat.le_of_ble_eq_true rfl, Nat.le_of_ble_eq_true rfl⟩ (gV_t (by decide) (by decide)) rfl rfl rfl rfl (Nat.le_of_ble_eq_true rfl) dX11_hours_104) (fun z19 => ?_)
      refine q_if_ne hC 114 dX11_hours_107 rfl (fun h20 => ?_) (fun h20 => ?_)
      · have hx := gi_n h20 hx
        refine q_iload hC 0 dX11_hours_114 rfl ?_
        exact q_sub [2, 3, 1, 4, 5] rfl (J116 N (((b3 * 1103515245) + 12345) - ((b3 * 1103515245) + 12345) / 2147483648 * 2147483648) b6 (Int64.toInt32 (((((b3 * 1103515245) + 12345) - ((b3 * 1103515245) + 12345) / 2147483648 * 2147483648) / 65536) - ((((b3 * 1103515245) + 12345) - ((b3 * 1103515245) + 12345) / 2147483648 * 2147483648) / 65536) / 8 * 8)) (2 + b6) hx)
      · have hx := gi_p h20 hx
        exact q_sub [2, 3, 1, 4, 5] rfl (J110 N (((b3 * 1103515245) + 12345) - ((b3 * 1103515245) + 12345) / 2147483648 * 2147483648) b6 (2 + b6) hx)
set_option maxRecDepth 100000 in
set_option maxHeartbeats 4000000 in
theorem w_X11_hours_39 {X : gX} {Y : gY} {a2 : Int32} {r : (Int32 × gMem)} (hC : gC X Y cX11_hours "GuestStaffModel" 8 4 87) (hF : gF X Y (some .int) (gQi Y r)) {e : (Int64 × Int32 × gMem)} (kE : ∀ s : (Int64 × Int32 × gMem), e = s → gWW X Y 8 133 [(0, .ref (gad Y 0 59))] [] s.2.2) : ∀ (F : Nat) (s : (Int64 × Int32 × gMem)), itr F (fun s => s_X11_hours_39 a2 s.1 s.2.1 s.2.2) s = some e → gWW X Y 8 39 [(0, .ref (gad Y 0 59)), (2, .int a2), (3, .long s.1), (5, .int s.2.1)] [] s.2.2 := by
  intro F s
  refine itr_w (P := fun s => gWW X Y 8 39 [(0, .ref (gad Y 0 59)), (2, .int a2), (3, .long s.1), (5, .int s.2.1)] [] s.2.2) (fun s o hx kI kx => ?_) F s
  obtain ⟨b3, b5, N⟩ := s
  have hx : s_X11_hours_39 a2 b3 b5 N = some o := hx
  have kE : ∀ s : (Int64 × Int32 × gMem), o = .inr s → gWW X Y 8 133 [(0, .ref (gad Y 0 59))] [] s.2.2 := fun s q => kE s (kx _ q).symm
  unfold s_X11_hours_39 at hx
  refine q_iload hC 3 dX11_hours_39 rfl ?_
  refine q_iload_n hC 1 dX11_hours_41 rfl rfl ?_
  refine q_ic_ge hC 133 dX11_hours_42 rfl (fun h13 => ?_) (fun h13 => ?_)
  · have hx := gi_p h13 hx
    exact q_sub [0] rfl (kE (b3, b5, N) (Option.some.inj hx).symm)
  · have hx := gi_n h13 hx
    refine q_iconst hC 0 dX11_hours_45 rfl ?_
    refine q_istore hC [(6, .int 0), (0, .ref (gad Y 0 59)), (2, .int a2), (3, .long b3), (5, .int b5)] dX11_hours_46 (by decide) rfl ?_
    obtain ⟨e21, qe21, hx⟩ := gb_e hx
    refine q_sub [1, 2, 3, 4, 0] rfl (w_X11_hours_48 hC hF (e := e21) (fun s q => ?_) _ _ qe21)
    · subst q
      refine q_aload_n hC 0 dX11_hours_123 rfl rfl ?_
      obtain ⟨v22, q23, hx⟩ := gb_e hx
      refine q_kv (q_rV (As := []) (rest := []) hC mm_X11_oneHour wM_X11_172 (c_X11_oneHour q23) ⟨rfl, rfl, Nat.le_of_ble_eq_true rfl, Nat.le_of_ble_eq_true rfl⟩ (gV_t (by decide) (by decide)) rfl rfl rfl rfl (Nat.le_of_ble_eq_true rfl) dX11_hours_124) ?_
      refine q_iinc hC 3 1 [(5, .int (b5 + 1)), (0, .ref (gad Y 0 59)), (2, .int a2), (3, .long e21.1)] dX11_hours_127 rfl rfl (by decide) rfl ?_
      refine q_goto hC 39 dX11_hours_130 rfl ?_
      exact q_sub [1, 2, 3, 0] rfl (kI (e21.1, b5 + 1, v22) (Option.some.inj hx).symm)
set_option maxRecDepth 100000 in
set_option maxHeartbeats 4000000 in
theorem c_X11_hours {l : Launch} {Y : gY} {M : gMem} {p1 : Int32} {p2 : Int32} {r : (Int32 × gMem)} (hx : x_X11_hours M p1 p2 = some r) : Met l yX11_hours (gws yX11_hours cX11_hours 8 (some .int)) { frames := 4, cells := 0, slots := 0, locals := 87 } (va_Pc [.ref (gad Y 0 59), .int p1, .int p2] (gS0 Y M)) (gQi Y r) 0 0 (gA Y) := by
  refine gmet (lv := [(0, .ref (gad Y 0 59)), (1, .int p1), (2, .int p2)]) "GuestStaffModel" (by decide) rfl (Nat.le_of_ble_eq_true rfl) rfl (fun X hC hF => ?_)
  have J24 : ∀ (N : gMem) , j_X11_hours_24 M p1 p2 N = some r → gWW X Y 8 24 [(0, .ref (gad Y 0 59))] [] N := by
    intro N hx
    unfold j_X11_hours_24 at hx
    refine q_aload_n hC 0 dX11_hours_24 rfl rfl ?_
    obtain ⟨v5, q6, hx⟩ := gb_e hx
    refine q_ki (q_rV (As := []) (rest := []) hC mm_X11_bad wM_X11_74 (c_X11_bad q6) ⟨rfl, rfl, Nat.le_of_ble_eq_true rfl, Nat.le_of_ble_eq_true rfl⟩ (gV_t (by decide) (by decide)) rfl rfl rfl rfl (Nat.le_of_ble_eq_true rfl) dX11_hours_25) ?_
    exact q_iret hC hF dX11_hours_28 (Option.some.inj hx)
  unfold x_X11_hours at hx
  refine q_iload_n hC 1 dX11_hours_0 rfl rfl ?_
  refine q_i2l hC dX11_hours_1 ?_
  refine q_lconst hC 0 dX11_hours_2 rfl ?_
  refine q_ldc2 hC 999999 dX11_hours_3 wC_X11_253 ?_
  obtain ⟨v1, q2, hx⟩ := gb_e hx
  refine q_kzp (q_rS (As := [.long (Int32.toInt64 p1), .long 0, .long 999999]) (rest := []) hC mm_X11_in wM_X11_57 (c_X11_in q2) ⟨rfl, rfl, Nat.le_of_ble_eq_true rfl, Nat.le_of_ble_eq_true rfl⟩ rfl rfl (Nat.le_of_ble_eq_true rfl) dX11_hours_6) (fun z3 => ?_)
  refine q_if_eq hC 24 dX11_hours_9 rfl (fun h4 => ?_) (fun h4 => ?_)
  · have hx := gi_p h4 hx
    exact q_sub [0] rfl (J24 M hx)
  · have hx := gi_n h4 hx
    refine q_iload_n hC 2 dX11_hours_12 rfl rfl ?_
    refine q_i2l hC dX11_hours_13 ?_
    refine q_lconst hC 0 dX11_hours_14 rfl ?_
    refine q_ldc2 hC 60 dX11_hours_15 wC_X11_170 ?_
    obtain ⟨v7, q8, hx⟩ := gb_e hx
    refine q_kzp (q_rS (As := [.long (Int32.toInt64 p2), .long 0, .long 60]) (rest := []) hC mm_X11_in wM_X11_57 (c_X11_in q8) ⟨rfl, rfl, Nat.le_of_ble_eq_true rfl, Nat.le_of_ble_eq_true rfl⟩ rfl rfl (Nat.le_of_ble_eq_true rfl) dX11_hours_18) (fun z9 => ?_)
    refine q_if_ne hC 29 dX11_hours_21 rfl (fun h10 => ?_) (fun h10 => ?_)
    · have hx := gi_n h10 hx
      refine q_aload_n hC 0 dX11_hours_29 rfl rfl ?_
      obtain ⟨v11, q12, hx⟩ := gb_e hx
      refine q_kv (q_rV (As := []) (rest := []) hC mm_X11_putAside wM_X11_239 (c_X11_putAside q12) ⟨rfl, rfl, Nat.le_of_ble_eq_true rfl, Nat.le_of_ble_eq_true rfl⟩ (gV_t (by decide) (by decide)) rfl rfl rfl rfl (Nat.le_of_ble_eq_true rfl) dX11_hours_30) ?_
      refine q_iload_n hC 1 dX11_hours_33 rfl rfl ?_
      refine q_i2l hC dX11_hours_34 ?_
      refine q_lstore_n hC [(3, .long (Int32.toInt64 p1)), (0, .ref (gad Y 0 59)), (1, .int p1), (2, .int p2)] dX11_hours_35 rfl (by decide) rfl ?_
      refine q_iconst hC 0 dX11_hours_36 rfl ?_
      refine q_istore hC [(5, .int 0), (3, .long (Int32.toInt64 p1)), (0, .ref (gad Y 0 59)), (1, .int p1), (2, .int p2)] dX11_hours_37 (by decide) rfl ?_
      obtain ⟨e24, qe24, hx⟩ := gb_e hx
      refine q_sub [2, 4, 1, 0] rfl (w_X11_hours_39 hC hF (e := e24) (fun s q => ?_) _ _ qe24)
      · subst q
        refine q_aload_n hC 0 dX11_hours_133 rfl rfl ?_
        refine gf_X11_7 hC dX11_hours_134 ?_
        refine q_iconst hC 1 dX11_hours_137 rfl ?_
        refine q_ialdk hC 1 69 (gV_t (by decide) (by decide)) rfl (by decide) rfl dX11_hours_138 ?_
        refine q_aload_n hC 0 dX11_hours_139 rfl rfl ?_
        refine gf_X11_41 hC dX11_hours_140 ?_
        refine q_iconst hC 1 dX11_hours_143 rfl ?_
        refine q_ialdk hC 1 15 (gV_t (by decide) (by decide)) rfl (by decide) rfl dX11_hours_144 ?_
        refine q_isub hC dX11_hours_145 ?_
        refine q_istore hC [(5, .int ((e24.2.2.1 0 60 1) - (e24.2.2.1 0 69 1))), (0, .ref (gad Y 0 59))] dX11_hours_146 (by decide) rfl ?_
        refine q_aload_n hC 1 dX11_hours_148 rfl rfl ?_
        obtain ⟨v25, q26, hx⟩ := gb_e hx
        refine q_kv (q_rV (As := []) (rest := []) hC mm_X11_takeBack wM_X11_242 (c_X11_takeBack q26) ⟨rfl, rfl, Nat.le_of_ble_eq_true rfl, Nat.le_of_ble_eq_true rfl⟩ (gV_t (by decide) (by decide)) rfl rfl rfl rfl (Nat.le_of_ble_eq_true rfl) dX11_hours_149) ?_
        refine q_iload hC 0 dX11_hours_152 rfl ?_
        exact q_iret hC hF dX11_hours_154 (Option.some.inj hx)
    · have hx := gi_p h10 hx
      exact q_sub [0] rfl (J24 M hx)

theorem dX11_part_0 : decode cX11_part 0 = .ok (.iload_n 1, 1) := by decide +kernel
theorem dX11_part_1 : decode cX11_part 1 = .ok (.ifCond .ne 10, 3) := by decide +kernel
theorem dX11_part_4 : decode cX11_part 4 = .ok (.aload_n 0, 1) := by decide +kernel
theorem dX11_part_5 : decode cX11_part 5 = .ok (.getfield 250, 3) := by decide +kernel
theorem dX11_part_8 : decode cX11_part 8 = .ok (.goto 20, 3) := by decide +kernel
theorem dX11_part_11 : decode cX11_part 11 = .ok (.iload_n 1, 1) := by decide +kernel
theorem dX11_part_12 : decode cX11_part 12 = .ok (.iconst 1, 1) := by decide +kernel
theorem dX11_part_13 : decode cX11_part 13 = .ok (.if_icmp .ne 10, 3) := by decide +kernel
theorem dX11_part_16 : decode cX11_part 16 = .ok (.aload_n 0, 1) := by decide +kernel
theorem dX11_part_17 : decode cX11_part 17 = .ok (.getfield 13, 3) := by decide +kernel
theorem dX11_part_20 : decode cX11_part 20 = .ok (.goto 8, 3) := by decide +kernel
theorem dX11_part_23 : decode cX11_part 23 = .ok (.aload_n 0, 1) := by decide +kernel
theorem dX11_part_24 : decode cX11_part 24 = .ok (.invokevirtual 74, 3) := by decide +kernel
theorem dX11_part_27 : decode cX11_part 27 = .ok (.i2l, 1) := by decide +kernel
theorem dX11_part_28 : decode cX11_part 28 = .ok (.lreturn, 1) := by decide +kernel
def x_X11_part (M : gMem) (p1 : Int32) : Option (Int64 × gMem) := (if p1 = 0 then some (M.2 59 1, M) else (if p1 = 1 then some (M.2 59 2, M) else Option.bind (x_X11_bad M) (fun v3 => some (Int32.toInt64 v3.1, v3.2))))
set_option maxRecDepth 100000 in
set_option maxHeartbeats 4000000 in
theorem c_X11_part {l : Launch} {Y : gY} {M : gMem} {p1 : Int32} {r : (Int64 × gMem)} (hx : x_X11_part M p1 = some r) : Met l yX11_part (gws yX11_part cX11_part 2 (some .long)) { frames := 1, cells := 0, slots := 0, locals := 20 } (va_Pc [.ref (gad Y 0 59), .int p1] (gS0 Y M)) (gQl Y r) 0 0 (gA Y) := by
  refine gmet (lv := [(0, .ref (gad Y 0 59)), (1, .int p1)]) "GuestStaffModel" (by decide) rfl (Nat.le_of_ble_eq_true rfl) rfl (fun X hC hF => ?_)
  unfold x_X11_part at hx
  refine q_iload_n hC 1 dX11_part_0 rfl rfl ?_
  refine q_if_ne hC 11 dX11_part_1 rfl (fun h1 => ?_) (fun h1 => ?_)
  · have hx := gi_n h1 hx
    refine q_iload_n hC 1 dX11_part_11 rfl rfl ?_
    refine q_iconst hC 1 dX11_part_12 rfl ?_
    refine q_ic_ne hC 23 dX11_part_13 rfl (fun h2 => ?_) (fun h2 => ?_)
    · have hx := gi_n h2 hx
      refine q_aload_n hC 0 dX11_part_23 rfl rfl ?_
      obtain ⟨v3, q4, hx⟩ := gb_e hx
      refine q_ki (q_rV (As := []) (rest := []) hC mm_X11_bad wM_X11_74 (c_X11_bad q4) ⟨rfl, rfl, Nat.le_of_ble_eq_true rfl, Nat.le_of_ble_eq_true rfl⟩ (gV_t (by decide) (by decide)) rfl rfl rfl rfl (Nat.le_of_ble_eq_true rfl) dX11_part_24) ?_
      refine q_i2l hC dX11_part_27 ?_
      exact q_lret hC hF dX11_part_28 (Option.some.inj hx)
    · have hx := gi_p h2 hx
      refine q_aload_n hC 0 dX11_part_16 rfl rfl ?_
      refine gf_X11_13 hC dX11_part_17 ?_
      refine q_goto hC 28 dX11_part_20 rfl ?_
      exact q_lret hC hF dX11_part_28 (Option.some.inj hx)
  · have hx := gi_p h1 hx
    refine q_aload_n hC 0 dX11_part_4 rfl rfl ?_
    refine gf_X11_250 hC dX11_part_5 ?_
    refine q_goto hC 28 dX11_part_8 rfl ?_
    exact q_lret hC hF dX11_part_28 (Option.some.inj hx)

theorem dX11_image_0 : decode cX11_image 0 = .ok (.iload_n 1, 1) := by decide +kernel
theorem dX11_image_1 : decode cX11_image 1 = .ok (.i2l, 1) := by decide +kernel
theorem dX11_image_2 : decode cX11_image 2 = .ok (.lconst 0, 1) := by decide +kernel
theorem dX11_image_3 : decode cX11_image 3 = .ok (.lconst 1, 1) := by decide +kernel
theorem dX11_image_4 : decode cX11_image 4 = .ok (.invokestatic 57, 3) := by decide +kernel
theorem dX11_image_7 : decode cX11_image 7 = .ok (.ifCond .ne 8, 3) := by decide +kernel
theorem dX11_image_10 : decode cX11_image 10 = .ok (.aload_n 0, 1) := by decide +kernel
theorem dX11_image_11 : decode cX11_image 11 = .ok (.invokevirtual 74, 3) := by decide +kernel
theorem dX11_image_14 : decode cX11_image 14 = .ok (.ireturn, 1) := by decide +kernel
theorem dX11_image_15 : decode cX11_image 15 = .ok (.iconst 0, 1) := by decide +kernel
theorem dX11_image_16 : decode cX11_image 16 = .ok (.istore_n 2, 1) := by decide +kernel
theorem dX11_image_17 : decode cX11_image 17 = .ok (.iload_n 2, 1) := by decide +kernel
theorem dX11_image_18 : decode cX11_image 18 = .ok (.bipush 70, 2) := by decide +kernel
theorem dX11_image_20 : decode cX11_image 20 = .ok (.if_icmp .ge 26, 3) := by decide +kernel
theorem dX11_image_23 : decode cX11_image 23 = .ok (.aload_n 0, 1) := by decide +kernel
theorem dX11_image_24 : decode cX11_image 24 = .ok (.getfield 48, 3) := by decide +kernel
theorem dX11_image_27 : decode cX11_image 27 = .ok (.bipush 70, 2) := by decide +kernel
theorem dX11_image_29 : decode cX11_image 29 = .ok (.iload_n 1, 1) := by decide +kernel
theorem dX11_image_30 : decode cX11_image 30 = .ok (.imul, 1) := by decide +kernel
theorem dX11_image_31 : decode cX11_image 31 = .ok (.iload_n 2, 1) := by decide +kernel
theorem dX11_image_32 : decode cX11_image 32 = .ok (.iadd, 1) := by decide +kernel
theorem dX11_image_33 : decode cX11_image 33 = .ok (.aload_n 0, 1) := by decide +kernel
theorem dX11_image_34 : decode cX11_image 34 = .ok (.getfield 7, 3) := by decide +kernel
theorem dX11_image_37 : decode cX11_image 37 = .ok (.iload_n 2, 1) := by decide +kernel
theorem dX11_image_38 : decode cX11_image 38 = .ok (.iaload, 1) := by decide +kernel
theorem dX11_image_39 : decode cX11_image 39 = .ok (.iastore, 1) := by decide +kernel
theorem dX11_image_40 : decode cX11_image 40 = .ok (.iinc 2 1, 3) := by decide +kernel
theorem dX11_image_43 : decode cX11_image 43 = .ok (.goto (-26), 3) := by decide +kernel
theorem dX11_image_46 : decode cX11_image 46 = .ok (.iconst 0, 1) := by decide +kernel
theorem dX11_image_47 : decode cX11_image 47 = .ok (.istore_n 2, 1) := by decide +kernel
theorem dX11_image_48 : decode cX11_image 48 = .ok (.iload_n 2, 1) := by decide +kernel
theorem dX11_image_49 : decode cX11_image 49 = .ok (.sipush 128, 3) := by decide +kernel
theorem dX11_image_52 : decode cX11_image 52 = .ok (.if_icmp .ge 27, 3) := by decide +kernel
theorem dX11_image_55 : decode cX11_image 55 = .ok (.aload_n 0, 1) := by decide +kernel
theorem dX11_image_56 : decode cX11_image 56 = .ok (.getfield 51, 3) := by decide +kernel
theorem dX11_image_59 : decode cX11_image 59 = .ok (.sipush 128, 3) := by decide +kernel
theorem dX11_image_62 : decode cX11_image 62 = .ok (.iload_n 1, 1) := by decide +kernel
theorem dX11_image_63 : decode cX11_image 63 = .ok (.imul, 1) := by decide +kernel
theorem dX11_image_64 : decode cX11_image 64 = .ok (.iload_n 2, 1) := by decide +kernel
theorem dX11_image_65 : decode cX11_image 65 = .ok (.iadd, 1) := by decide +kernel
theorem dX11_image_66 : decode cX11_image 66 = .ok (.aload_n 0, 1) := by decide +kernel
theorem dX11_image_67 : decode cX11_image 67 = .ok (.getfield 26, 3) := by decide +kernel
theorem dX11_image_70 : decode cX11_image 70 = .ok (.iload_n 2, 1) := by decide +kernel
theorem dX11_image_71 : decode cX11_image 71 = .ok (.iaload, 1) := by decide +kernel
theorem dX11_image_72 : decode cX11_image 72 = .ok (.iastore, 1) := by decide +kernel
theorem dX11_image_73 : decode cX11_image 73 = .ok (.iinc 2 1, 3) := by decide +kernel
theorem dX11_image_76 : decode cX11_image 76 = .ok (.goto (-28), 3) := by decide +kernel
theorem dX11_image_79 : decode cX11_image 79 = .ok (.aload_n 0, 1) := by decide +kernel
theorem dX11_image_80 : decode cX11_image 80 = .ok (.getfield 54, 3) := by decide +kernel
theorem dX11_image_83 : decode cX11_image 83 = .ok (.iload_n 1, 1) := by decide +kernel
theorem dX11_image_84 : decode cX11_image 84 = .ok (.aload_n 0, 1) := by decide +kernel
theorem dX11_image_85 : decode cX11_image 85 = .ok (.getfield 61, 3) := by decide +kernel
theorem dX11_image_88 : decode cX11_image 88 = .ok (.iastore, 1) := by decide +kernel
theorem dX11_image_89 : decode cX11_image 89 = .ok (.aload_n 0, 1) := by decide +kernel
theorem dX11_image_90 : decode cX11_image 90 = .ok (.getfield 44, 3) := by decide +kernel
theorem dX11_image_93 : decode cX11_image 93 = .ok (.iload_n 1, 1) := by decide +kernel
theorem dX11_image_94 : decode cX11_image 94 = .ok (.iconst 1, 1) := by decide +kernel
theorem dX11_image_95 : decode cX11_image 95 = .ok (.bastore, 1) := by decide +kernel
theorem dX11_image_96 : decode cX11_image 96 = .ok (.iconst 1, 1) := by decide +kernel
theorem dX11_image_97 : decode cX11_image 97 = .ok (.ireturn, 1) := by decide +kernel
def s_X11_image_17 (a1 : Int32) (b2 : Int32) (N : gMem) : Option ((Int32 × gMem) ⊕ (Int32 × gMem)) := (if 70 ≤ b2 then some (.inr (b2, N)) else gd (gin b2 70) (gd (gin ((70 * a1) + b2) 140) (some (.inl (b2 + 1, gwr N 0 71 ((70 * a1) + b2).toNatClampNeg (N.1 0 60 (b2).toNatClampNeg))))))
def s_X11_image_48 (a1 : Int32) (b2 : Int32) (N : gMem) : Option ((Int32 × gMem) ⊕ (Int32 × gMem)) := (if 128 ≤ b2 then some (.inr (b2, N)) else gd (gin b2 128) (gd (gin ((128 * a1) + b2) 256) (some (.inl (b2 + 1, gwr N 0 72 ((128 * a1) + b2).toNatClampNeg (N.1 0 64 (b2).toNatClampNeg))))))
def x_X11_image (M : gMem) (p1 : Int32) : Option (Int32 × gMem) := Option.bind (x_X11_in (Int32.toInt64 p1) 0 1) (fun v1 => (if v1 = 0 then Option.bind (x_X11_bad M) (fun v15 => some (v15.1, v15.2)) else Option.bind (itr FU (fun s => s_X11_image_17 p1 s.1 s.2) (0, M)) (fun e8 => Option.bind (itr FU (fun s => s_X11_image_48 p1 s.1 s.2) (0, e8.2)) (fun e12 => gd (gin p1 2) (gd (gin p1 2) (some (1, gwr (gwr e12.2 0 73 (p1).toNatClampNeg (e12.2.1 0 59 14)) 0 70 (p1).toNatClampNeg 1)))))))
set_option maxRecDepth 100000 in
set_option maxHeartbeats 4000000 in
theorem w_X11_image_17 {X : gX} {Y : gY} {a1 : Int32} {r : (Int32 × gMem)} (hC : gC X Y cX11_image "GuestStaffModel" 3 1 25) (hF : gF X Y (some .int) (gQi Y r)) {e : (Int32 × gMem)} (kE : ∀ s : (Int32 × gMem), e = s → gWW X Y 3 46 [(0, .ref (gad Y 0 59)), (1, .int a1)] [] s.2) : ∀ (F : Nat) (s : (Int32 × gMem)), itr F (fun s => s_X11_image_17 a1 s.1 s.2) s = some e → gWW X Y 3 17 [(0, .ref (gad Y 0 59)), (1, .int a1), (2, .int s.1)] [] s.2 := by
  intro F s
  refine itr_w (P := fun s => gWW X Y 3 17 [(0, .ref (gad Y 0 59)), (1, .int a1), (2, .int s.1)] [] s.2) (fun s o hx kI kx => ?_) F s
  obtain ⟨b2, N⟩ := s
  have hx : s_X11_image_17 a1 b2 N = some o := hx
  have kE : ∀ s : (Int32 × gMem), o = .inr s → gWW X Y 3 46 [(0, .ref (gad Y 0 59)), (1, .int a1)] [] s.2 := fun s q => kE s (kx _ q).symm
  unfold s_X11_image_17 at hx
  refine q_iload_n hC 2 dX11_image_17 rfl rfl ?_
  refine q_bipush hC 70 dX11_image_18 rfl ?_
  refine q_ic_ge hC 46 dX11_image_20 rfl (fun h5 => ?_) (fun h5 => ?_)
  · have hx := gi_p h5 hx
    exact q_sub [0, 1] rfl (kE (b2, N) (Option.some.inj hx).symm)
  · have hx := gi_n h5 hx
    refine q_aload_n hC 0 dX11_image_23 rfl rfl ?_
    refine gf_X11_48 hC dX11_image_24 ?_
    refine q_bipush hC 70 dX11_image_27 rfl ?_
    refine q_iload_n hC 1 dX11_image_29 rfl rfl ?_
    refine q_imul hC dX11_image_30 ?_
    refine q_iload_n hC 2 dX11_image_31 rfl rfl ?_
    refine q_iadd hC dX11_image_32 ?_
    refine q_aload_n hC 0 dX11_image_33 rfl rfl ?_
    refine gf_X11_7 hC dX11_image_34 ?_
    refine q_iload_n hC 2 dX11_image_37 rfl rfl ?_
    have g6 := (gd_e hx).1
    have hx := (gd_e hx).2
    refine q_iald hC 69 (gV_t (by decide) (by decide)) rfl g6 dX11_image_38 ?_
    have g7 := (gd_e hx).1
    have hx := (gd_e hx).2
    refine q_iast hC 139 (gV_t (by decide) (by decide)) rfl g7 dX11_image_39 ?_
    refine q_iinc hC 2 1 [(2, .int (b2 + 1)), (0, .ref (gad Y 0 59)), (1, .int a1)] dX11_image_40 rfl rfl (by decide) rfl ?_
    refine q_goto hC 17 dX11_image_43 rfl ?_
    exact q_sub [1, 2, 0] rfl (kI (b2 + 1, gwr N 0 71 ((70 * a1) + b2).toNatClampNeg (N.1 0 60 (b2).toNatClampNeg)) (Option.some.inj hx).symm)
set_option maxRecDepth 100000 in
set_option maxHeartbeats 4000000 in
theorem w_X11_image_48 {X : gX} {Y : gY} {a1 : Int32} {r : (Int32 × gMem)} (hC : gC X Y cX11_image "GuestStaffModel" 3 1 25) (hF : gF X Y (some .int) (gQi Y r)) {e : (Int32 × gMem)} (kE : ∀ s : (Int32 × gMem), e = s → gWW X Y 3 79 [(0, .ref (gad Y 0 59)), (1, .int a1)] [] s.2) : ∀ (F : Nat) (s : (Int32 × gMem)), itr F (fun s => s_X11_image_48 a1 s.1 s.2) s = some e → gWW X Y 3 48 [(0, .ref (gad Y 0 59)), (1, .int a1), (2, .int s.1)] [] s.2 := by
  intro F s
  refine itr_w (P := fun s => gWW X Y 3 48 [(0, .ref (gad Y 0 59)), (1, .int a1), (2, .int s.1)] [] s.2) (fun s o hx kI kx => ?_) F s
  obtain ⟨b2, N⟩ := s
  have hx : s_X11_image_48 a1 b2 N = some o := hx
  have kE : ∀ s : (Int32 × gMem), o = .inr s → gWW X Y 3 79 [(0, .ref (gad Y 0 59)), (1, .int a1)] [] s.2 := fun s q => kE s (kx _ q).symm
  unfold s_X11_image_48 at hx
  refine q_iload_n hC 2 dX11_image_48 rfl rfl ?_
  refine q_sipush hC 128 dX11_image_49 rfl ?_
  refine q_ic_ge hC 79 dX11_image_52 rfl (fun h9 => ?_) (fun h9 => ?_)
  · have hx := gi_p h9 hx
    exact q_sub [0, 1] rfl (kE (b2, N) (Option.some.inj hx).symm)
  · have hx := gi_n h9 hx
    refine q_aload_n hC 0 dX11_image_55 rfl rfl ?_
    refine gf_X11_51 hC dX11_image_56 ?_
    refine q_sipush hC 128 dX11_image_59 rfl ?_
    refine q_iload_n hC 1 dX11_image_62 rfl rfl ?_
    refine q_imul hC dX11_image_63 ?_
    refine q_iload_n hC 2 dX11_image_64 rfl rfl ?_
    refine q_iadd hC dX11_image_65 ?_
    refine q_aload_n hC 0 dX11_image_66 rfl rfl ?_
    refine gf_X11_26 hC dX11_image_67 ?_
    refine q_iload_n hC 2 dX11_image_70 rfl rfl ?_
    have g10 := (gd_e hx).1
    have hx := (gd_e hx).2
    refine q_iald hC 127 (gV_t (by decide) (by decide)) rfl g10 dX11_image_71 ?_
    have g11 := (gd_e hx).1
    have hx := (gd_e hx).2
    refine q_iast hC 255 (gV_t (by decide) (by decide)) rfl g11 dX11_image_72 ?_
    refine q_iinc hC 2 1 [(2, .int (b2 + 1)), (0, .ref (gad Y 0 59)), (1, .int a1)] dX11_image_73 rfl rfl (by decide) rfl ?_
    refine q_goto hC 48 dX11_image_76 rfl ?_
    exact q_sub [1, 2, 0] rfl (kI (b2 + 1, gwr N 0 72 ((128 * a1) + b2).toNatClampNeg (N.1 0 64 (b2).toNatClampNeg)) (Option.some.inj hx).symm)
set_option maxRecDepth 100000 in
set_option maxHeartbeats 4000000 in
theorem c_X11_image {l : Launch} {Y : gY} {M : gMem} {p1 : Int32} {r : (Int32 × gMem)} (hx : x_X11_image M p1 = some r) : Met l yX11_image (gws yX11_image cX11_image 3 (some .int)) { frames := 1, cells := 0, slots := 0, locals := 25 } (va_Pc [.ref (gad Y 0 59), .int p1] (gS0 Y M)) (gQi Y r) 0 0 (gA Y) := by
  refine gmet (lv := [(0, .ref (gad Y 0 59)), (1, .int p1)]) "GuestStaffModel" (by decide) rfl (Nat.le_of_ble_eq_true rfl) rfl (fun X hC hF => ?_)
  unfold x_X11_image at hx
  refine q_iload_n hC 1 dX11_image_0 rfl rfl ?_
  refine q_i2l hC dX11_image_1 ?_
  refine q_lconst hC 0 dX11_image_2 rfl ?_
  refine q_lconst hC 1 dX11_image_3 rfl ?_
  obtain ⟨v1, q2, hx⟩ := gb_e hx
  refine q_kzp (q_rS (As := [.long (Int32.toInt64 p1), .long 0, .long 1]) (rest := []) hC mm_X11_in wM_X11_57 (c_X11_in q2) ⟨rfl, rfl, Nat.le_of_ble_eq_true rfl, Nat.le_of_ble_eq_true rfl⟩ rfl rfl (Nat.le_of_ble_eq_true rfl) dX11_image_4) (fun z3 => ?_)
  refine q_if_ne hC 15 dX11_image_7 rfl (fun h4 => ?_) (fun h4 => ?_)
  · have hx := gi_n h4 hx
    refine q_iconst hC 0 dX11_image_15 rfl ?_
    refine q_istore_n hC [(2, .int 0), (0, .ref (gad Y 0 59)), (1, .int p1)] dX11_image_16 rfl (by decide) rfl ?_
    obtain ⟨e8, qe8, hx⟩ := gb_e hx
    refine q_sub [1, 2, 0] rfl (w_X11_image_17 hC hF (e := e8) (fun s q => ?_) _ _ qe8)
    · subst q
      refine q_iconst hC 0 dX11_image_46 rfl ?_
      refine q_istore_n hC [(2, .int 0), (0, .ref (gad Y 0 59)), (1, .int p1)] dX11_image_47 rfl (by decide) rfl ?_
      obtain ⟨e12, qe12, hx⟩ := gb_e hx
      refine q_sub [1, 2, 0] rfl (w_X11_image_48 hC hF (e := e12) (fun s q => ?_) _ _ qe12)
      · subst q
        refine q_aload_n hC 0 dX11_image_79 rfl rfl ?_
        refine gf_X11_54 hC dX11_image_80 ?_
        refine q_iload_n hC 1 dX11_image_83 rfl rfl ?_
        refine q_aload_n hC 0 dX11_image_84 rfl rfl ?_
        refine gf_X11_61 hC dX11_image_85 ?_
        have g13 := (gd_e hx).1
        have hx := (gd_e hx).2
        refine q_iast hC 1 (gV_t (by decide) (by decide)) rfl g13 dX11_image_88 ?_
        refine q_aload_n hC 0 dX11_image_89 rfl rfl ?_
        refine gf_X11_44 hC dX11_image_90 ?_
        refine q_iload_n hC 1 dX11_image_93 rfl rfl ?_
        refine q_iconst hC 1 dX11_image_94 rfl ?_
        have g14 := (gd_e hx).1
        have hx := (gd_e hx).2
        refine q_zast hC (gV_t (by decide) (by decide)) (fun _ => rfl) g14 rfl dX11_image_95 ?_
        refine q_iconst hC 1 dX11_image_96 rfl ?_
        exact q_iret hC hF dX11_image_97 (Option.some.inj hx)
  · have hx := gi_p h4 hx
    refine q_aload_n hC 0 dX11_image_10 rfl rfl ?_
    obtain ⟨v15, q16, hx⟩ := gb_e hx
    refine q_ki (q_rV (As := []) (rest := []) hC mm_X11_bad wM_X11_74 (c_X11_bad q16) ⟨rfl, rfl, Nat.le_of_ble_eq_true rfl, Nat.le_of_ble_eq_true rfl⟩ (gV_t (by decide) (by decide)) rfl rfl rfl rfl (Nat.le_of_ble_eq_true rfl) dX11_image_11) ?_
    exact q_iret hC hF dX11_image_14 (Option.some.inj hx)

theorem dX11_from_0 : decode cX11_from 0 = .ok (.iload_n 1, 1) := by decide +kernel
theorem dX11_from_1 : decode cX11_from 1 = .ok (.i2l, 1) := by decide +kernel
theorem dX11_from_2 : decode cX11_from 2 = .ok (.lconst 0, 1) := by decide +kernel
theorem dX11_from_3 : decode cX11_from 3 = .ok (.lconst 1, 1) := by decide +kernel
theorem dX11_from_4 : decode cX11_from 4 = .ok (.invokestatic 57, 3) := by decide +kernel
theorem dX11_from_7 : decode cX11_from 7 = .ok (.ifCond .ne 8, 3) := by decide +kernel
theorem dX11_from_10 : decode cX11_from 10 = .ok (.aload_n 0, 1) := by decide +kernel
theorem dX11_from_11 : decode cX11_from 11 = .ok (.invokevirtual 74, 3) := by decide +kernel
theorem dX11_from_14 : decode cX11_from 14 = .ok (.ireturn, 1) := by decide +kernel
theorem dX11_from_15 : decode cX11_from 15 = .ok (.aload_n 0, 1) := by decide +kernel
theorem dX11_from_16 : decode cX11_from 16 = .ok (.getfield 44, 3) := by decide +kernel
theorem dX11_from_19 : decode cX11_from 19 = .ok (.iload_n 1, 1) := by decide +kernel
theorem dX11_from_20 : decode cX11_from 20 = .ok (.baload, 1) := by decide +kernel
theorem dX11_from_21 : decode cX11_from 21 = .ok (.ifCond .ne 8, 3) := by decide +kernel
theorem dX11_from_24 : decode cX11_from 24 = .ok (.aload_n 0, 1) := by decide +kernel
theorem dX11_from_25 : decode cX11_from 25 = .ok (.invokevirtual 175, 3) := by decide +kernel
theorem dX11_from_28 : decode cX11_from 28 = .ok (.ireturn, 1) := by decide +kernel
theorem dX11_from_29 : decode cX11_from 29 = .ok (.iconst 0, 1) := by decide +kernel
theorem dX11_from_30 : decode cX11_from 30 = .ok (.istore_n 2, 1) := by decide +kernel
theorem dX11_from_31 : decode cX11_from 31 = .ok (.iload_n 2, 1) := by decide +kernel
theorem dX11_from_32 : decode cX11_from 32 = .ok (.bipush 70, 2) := by decide +kernel
theorem dX11_from_34 : decode cX11_from 34 = .ok (.if_icmp .ge 26, 3) := by decide +kernel
theorem dX11_from_37 : decode cX11_from 37 = .ok (.aload_n 0, 1) := by decide +kernel
theorem dX11_from_38 : decode cX11_from 38 = .ok (.getfield 7, 3) := by decide +kernel
theorem dX11_from_41 : decode cX11_from 41 = .ok (.iload_n 2, 1) := by decide +kernel
theorem dX11_from_42 : decode cX11_from 42 = .ok (.aload_n 0, 1) := by decide +kernel
theorem dX11_from_43 : decode cX11_from 43 = .ok (.getfield 48, 3) := by decide +kernel
theorem dX11_from_46 : decode cX11_from 46 = .ok (.bipush 70, 2) := by decide +kernel
theorem dX11_from_48 : decode cX11_from 48 = .ok (.iload_n 1, 1) := by decide +kernel
theorem dX11_from_49 : decode cX11_from 49 = .ok (.imul, 1) := by decide +kernel
theorem dX11_from_50 : decode cX11_from 50 = .ok (.iload_n 2, 1) := by decide +kernel
theorem dX11_from_51 : decode cX11_from 51 = .ok (.iadd, 1) := by decide +kernel
theorem dX11_from_52 : decode cX11_from 52 = .ok (.iaload, 1) := by decide +kernel
theorem dX11_from_53 : decode cX11_from 53 = .ok (.iastore, 1) := by decide +kernel
theorem dX11_from_54 : decode cX11_from 54 = .ok (.iinc 2 1, 3) := by decide +kernel
theorem dX11_from_57 : decode cX11_from 57 = .ok (.goto (-26), 3) := by decide +kernel
theorem dX11_from_60 : decode cX11_from 60 = .ok (.iconst 0, 1) := by decide +kernel
theorem dX11_from_61 : decode cX11_from 61 = .ok (.istore_n 2, 1) := by decide +kernel
theorem dX11_from_62 : decode cX11_from 62 = .ok (.iload_n 2, 1) := by decide +kernel
theorem dX11_from_63 : decode cX11_from 63 = .ok (.sipush 128, 3) := by decide +kernel
theorem dX11_from_66 : decode cX11_from 66 = .ok (.if_icmp .ge 27, 3) := by decide +kernel
theorem dX11_from_69 : decode cX11_from 69 = .ok (.aload_n 0, 1) := by decide +kernel
theorem dX11_from_70 : decode cX11_from 70 = .ok (.getfield 26, 3) := by decide +kernel
theorem dX11_from_73 : decode cX11_from 73 = .ok (.iload_n 2, 1) := by decide +kernel
theorem dX11_from_74 : decode cX11_from 74 = .ok (.aload_n 0, 1) := by decide +kernel
theorem dX11_from_75 : decode cX11_from 75 = .ok (.getfield 51, 3) := by decide +kernel
theorem dX11_from_78 : decode cX11_from 78 = .ok (.sipush 128, 3) := by decide +kernel
theorem dX11_from_81 : decode cX11_from 81 = .ok (.iload_n 1, 1) := by decide +kernel
theorem dX11_from_82 : decode cX11_from 82 = .ok (.imul, 1) := by decide +kernel
theorem dX11_from_83 : decode cX11_from 83 = .ok (.iload_n 2, 1) := by decide +kernel
theorem dX11_from_84 : decode cX11_from 84 = .ok (.iadd, 1) := by decide +kernel
theorem dX11_from_85 : decode cX11_from 85 = .ok (.iaload, 1) := by decide +kernel
theorem dX11_from_86 : decode cX11_from 86 = .ok (.iastore, 1) := by decide +kernel
theorem dX11_from_87 : decode cX11_from 87 = .ok (.iinc 2 1, 3) := by decide +kernel
theorem dX11_from_90 : decode cX11_from 90 = .ok (.goto (-28), 3) := by decide +kernel
theorem dX11_from_93 : decode cX11_from 93 = .ok (.aload_n 0, 1) := by decide +kernel
theorem dX11_from_94 : decode cX11_from 94 = .ok (.aload_n 0, 1) := by decide +kernel
theorem dX11_from_95 : decode cX11_from 95 = .ok (.getfield 54, 3) := by decide +kernel
theorem dX11_from_98 : decode cX11_from 98 = .ok (.iload_n 1, 1) := by decide +kernel
theorem dX11_from_99 : decode cX11_from 99 = .ok (.iaload, 1) := by decide +kernel
theorem dX11_from_100 : decode cX11_from 100 = .ok (.putfield 61, 3) := by decide +kernel
theorem dX11_from_103 : decode cX11_from 103 = .ok (.iconst 1, 1) := by decide +kernel
theorem dX11_from_104 : decode cX11_from 104 = .ok (.ireturn, 1) := by decide +kernel
def s_X11_from_31 (a1 : Int32) (b2 : Int32) (N : gMem) : Option ((Int32 × gMem) ⊕ (Int32 × gMem)) := (if 70 ≤ b2 then some (.inr (b2, N)) else gd (gin ((70 * a1) + b2) 140) (gd (gin b2 70) (some (.inl (b2 + 1, gwr N 0 60 (b2).toNatClampNeg (N.1 0 71 ((70 * a1) + b2).toNatClampNeg))))))
def s_X11_from_62 (a1 : Int32) (b2 : Int32) (N : gMem) : Option ((Int32 × gMem) ⊕ (Int32 × gMem)) := (if 128 ≤ b2 then some (.inr (b2, N)) else gd (gin ((128 * a1) + b2) 256) (gd (gin b2 128) (some (.inl (b2 + 1, gwr N 0 64 (b2).toNatClampNeg (N.1 0 72 ((128 * a1) + b2).toNatClampNeg))))))
def x_X11_from (M : gMem) (p1 : Int32) : Option (Int32 × gMem) := Option.bind (x_X11_in (Int32.toInt64 p1) 0 1) (fun v1 => (if v1 = 0 then Option.bind (x_X11_bad M) (fun v18 => some (v18.1, v18.2)) else gd (gin p1 2) ((if (M.1 0 70 (p1).toNatClampNeg) = 0 then Option.bind (x_X11_no M) (fun v16 => some (v16.1, v16.2)) else Option.bind (itr FU (fun s => s_X11_from_31 p1 s.1 s.2) (0, M)) (fun e10 => Option.bind (itr FU (fun s => s_X11_from_62 p1 s.1 s.2) (0, e10.2)) (fun e14 => gd (gin p1 2) (some (1, gwr e14.2 0 59 14 (e14.2.1 0 73 (p1).toNatClampNeg)))))))))
set_option maxRecDepth 100000 in
set_option maxHeartbeats 4000000 in
theorem w_X11_from_31 {X : gX} {Y : gY} {a1 : Int32} {r : (Int32 × gMem)} (hC : gC X Y cX11_from "GuestStaffModel" 3 1 25) (hF : gF X Y (some .int) (gQi Y r)) {e : (Int32 × gMem)} (kE : ∀ s : (Int32 × gMem), e = s → gWW X Y 3 60 [(0, .ref (gad Y 0 59)), (1, .int a1)] [] s.2) : ∀ (F : Nat) (s : (Int32 × gMem)), itr F (fun s => s_X11_from_31 a1 s.1 s.2) s = some e → gWW X Y 3 31 [(0, .ref (gad Y 0 59)), (1, .int a1), (2, .int s.1)] [] s.2 := by
  intro F s
  refine itr_w (P := fun s => gWW X Y 3 31 [(0, .ref (gad Y 0 59)), (1, .int a1), (2, .int s.1)] [] s.2) (fun s o hx kI kx => ?_) F s
  obtain ⟨b2, N⟩ := s
  have hx : s_X11_from_31 a1 b2 N = some o := hx
  have kE : ∀ s : (Int32 × gMem), o = .inr s → gWW X Y 3 60 [(0, .ref (gad Y 0 59)), (1, .int a1)] [] s.2 := fun s q => kE s (kx _ q).symm
  unfold s_X11_from_31 at hx
  refine q_iload_n hC 2 dX11_from_31 rfl rfl ?_
  refine q_bipush hC 70 dX11_from_32 rfl ?_
  refine q_ic_ge hC 60 dX11_from_34 rfl (fun h7 => ?_) (fun h7 => ?_)
  · have hx := gi_p h7 hx
    exact q_sub [0, 1] rfl (kE (b2, N) (Option.some.inj hx).symm)
  · have hx := gi_n h7 hx
    refine q_aload_n hC 0 dX11_from_37 rfl rfl ?_
    refine gf_X11_7 hC dX11_from_38 ?_
    refine q_iload_n hC 2 dX11_from_41 rfl rfl ?_
    refine q_aload_n hC 0 dX11_from_42 rfl rfl ?_
    refine gf_X11_48 hC dX11_from_43 ?_
    refine q_bipush hC 70 dX11_from_46 rfl ?_
    refine q_iload_n hC 1 dX11_from_48 rfl rfl ?_
    refine q_imul hC dX11_from_49 ?_
    refine q_iload_n hC 2 dX11_from_50 rfl rfl ?_
    refine q_iadd hC dX11_from_51 ?_
    have g8 := (gd_e hx).1
    have hx := (gd_e hx).2
    refine q_iald hC 139 (gV_t (by decide) (by decide)) rfl g8 dX11_from_52 ?_
    have g9 := (gd_e hx).1
    have hx := (gd_e hx).2
    refine q_iast hC 69 (gV_t (by decide) (by decide)) rfl g9 dX11_from_53 ?_
    refine q_iinc hC 2 1 [(2, .int (b2 + 1)), (0, .ref (gad Y 0 59)), (1, .int a1)] dX11_from_54 rfl rfl (by decide) rfl ?_
    refine q_goto hC 31 dX11_from_57 rfl ?_
    exact q_sub [1, 2, 0] rfl (kI (b2 + 1, gwr N 0 60 (b2).toNatClampNeg (N.1 0 71 ((70 * a1) + b2).toNatClampNeg)) (Option.some.inj hx).symm)
set_option maxRecDepth 100000 in
set_option maxHeartbeats 4000000 in
theorem w_X11_from_62 {X : gX} {Y : gY} {a1 : Int32} {r : (Int32 × gMem)} (hC : gC X Y cX11_from "GuestStaffModel" 3 1 25) (hF : gF X Y (some .int) (gQi Y r)) {e : (Int32 × gMem)} (kE : ∀ s : (Int32 × gMem), e = s → gWW X Y 3 93 [(0, .ref (gad Y 0 59)), (1, .int a1)] [] s.2) : ∀ (F : Nat) (s : (Int32 × gMem)), itr F (fun s => s_X11_from_62 a1 s.1 s.2) s = some e → gWW X Y 3 62 [(0, .ref (gad Y 0 59)), (1, .int a1), (2, .int s.1)] [] s.2 := by
  intro F s
  refine itr_w (P := fun s => gWW X Y 3 62 [(0, .ref (gad Y 0 59)), (1, .int a1), (2, .int s.1)] [] s.2) (fun s o hx kI kx => ?_) F s
  obtain ⟨b2, N⟩ := s
  have hx : s_X11_from_62 a1 b2 N = some o := hx
  have kE : ∀ s : (Int32 × gMem), o = .inr s → gWW X Y 3 93 [(0, .ref (gad Y 0 59)), (1, .int a1)] [] s.2 := fun s q => kE s (kx _ q).symm
  unfold s_X11_from_62 at hx
  refine q_iload_n hC 2 dX11_from_62 rfl rfl ?_
  refine q_sipush hC 128 dX11_from_63 rfl ?_
  refine q_ic_ge hC 93 dX11_from_66 rfl (fun h11 => ?_) (fun h11 => ?_)
  · have hx := gi_p h11 hx
    exact q_sub [0, 1] rfl (kE (b2, N) (Option.some.inj hx).symm)
  · have hx := gi_n h11 hx
    refine q_aload_n hC 0 dX11_from_69 rfl rfl ?_
    refine gf_X11_26 hC dX11_from_70 ?_
    refine q_iload_n hC 2 dX11_from_73 rfl rfl ?_
    refine q_aload_n hC 0 dX11_from_74 rfl rfl ?_
    refine gf_X11_51 hC dX11_from_75 ?_
    refine q_sipush hC 128 dX11_from_78 rfl ?_
    refine q_iload_n hC 1 dX11_from_81 rfl rfl ?_
    refine q_imul hC dX11_from_82 ?_
    refine q_iload_n hC 2 dX11_from_83 rfl rfl ?_
    refine q_iadd hC dX11_from_84 ?_
    have g12 := (gd_e hx).1
    have hx := (gd_e hx).2
    refine q_iald hC 255 (gV_t (by decide) (by decide)) rfl g12 dX11_from_85 ?_
    have g13 := (gd_e hx).1
    have hx := (gd_e hx).2
    refine q_iast hC 127 (gV_t (by decide) (by decide)) rfl g13 dX11_from_86 ?_
    refine q_iinc hC 2 1 [(2, .int (b2 + 1)), (0, .ref (gad Y 0 59)), (1, .int a1)] dX11_from_87 rfl rfl (by decide) rfl ?_
    refine q_goto hC 62 dX11_from_90 rfl ?_
    exact q_sub [1, 2, 0] rfl (kI (b2 + 1, gwr N 0 64 (b2).toNatClampNeg (N.1 0 72 ((128 * a1) + b2).toNatClampNeg)) (Option.some.inj hx).symm)
set_option maxRecDepth 100000 in
set_option maxHeartbeats 4000000 in
theorem c_X11_from {l : Launch} {Y : gY} {M : gMem} {p1 : Int32} {r : (Int32 × gMem)} (hx : x_X11_from M p1 = some r) : Met l yX11_from (gws yX11_from cX11_from 3 (some .int)) { frames := 1, cells := 0, slots := 0, locals := 25 } (va_Pc [.ref (gad Y 0 59), .int p1] (gS0 Y M)) (gQi Y r) 0 0 (gA Y) := by
  refine gmet (lv := [(0, .ref (gad Y 0 59)), (1, .int p1)]) "GuestStaffModel" (by decide) rfl (Nat.le_of_ble_eq_true rfl) rfl (fun X hC hF => ?_)
  unfold x_X11_from at hx
  refine q_iload_n hC 1 dX11_from_0 rfl rfl ?_
  refine q_i2l hC dX11_from_1 ?_
  refine q_lconst hC 0 dX11_from_2 rfl ?_
  refine q_lconst hC 1 dX11_from_3 rfl ?_
  obtain ⟨v1, q2, hx⟩ := gb_e hx
  refine q_kzp (q_rS (As := [.long (Int32.toInt64 p1), .long 0, .long 1]) (rest := []) hC mm_X11_in wM_X11_57 (c_X11_in q2) ⟨rfl, rfl, Nat.le_of_ble_eq_true rfl, Nat.le_of_ble_eq_true rfl⟩ rfl rfl (Nat.le_of_ble_eq_true rfl) dX11_from_4) (fun z3 => ?_)
  refine q_if_ne hC 15 dX11_from_7 rfl (fun h4 => ?_) (fun h4 => ?_)
  · have hx := gi_n h4 hx
    refine q_aload_n hC 0 dX11_from_15 rfl rfl ?_
    refine gf_X11_44 hC dX11_from_16 ?_
    refine q_iload_n hC 1 dX11_from_19 rfl rfl ?_
    have g5 := (gd_e hx).1
    have hx := (gd_e hx).2
    refine q_zald hC (gV_t (by decide) (by decide)) rfl g5 dX11_from_20 ?_
    refine q_if_ne hC 29 dX11_from_21 rfl (fun h6 => ?_) (fun h6 => ?_)
    · have hx := gi_n h6 hx
      refine q_iconst hC 0 dX11_from_29 rfl ?_
      refine q_istore_n hC [(2, .int 0), (0, .ref (gad Y 0 59)), (1, .int p1)] dX11_from_30 rfl (by decide) rfl ?_
      obtain ⟨e10, qe10, hx⟩ := gb_e hx
      refine q_sub [1, 2, 0] rfl (w_X11_from_31 hC hF (e := e10) (fun s q => ?_) _ _ qe10)
      · subst q
        refine q_iconst hC 0 dX11_from_60 rfl ?_
        refine q_istore_n hC [(2, .int 0), (0, .ref (gad Y 0 59)), (1, .int p1)] dX11_from_61 rfl (by decide) rfl ?_
        obtain ⟨e14, qe14, hx⟩ := gb_e hx
        refine q_sub [1, 2, 0] rfl (w_X11_from_62 hC hF (e := e14) (fun s q => ?_) _ _ qe14)
        · subst q
          refine q_aload_n hC 0 dX11_from_93 rfl rfl ?_
          refine q_aload_n hC 0 dX11_from_94 rfl rfl ?_
          refine gf_X11_54 hC dX11_from_95 ?_
          refine q_iload_n hC 1 dX11_from_98 rfl rfl ?_
          have g15 := (gd_e hx).1
          have hx := (gd_e hx).2
          refine q_iald hC 1 (gV_t (by decide) (by decide)) rfl g15 dX11_from_99 ?_
          refine pf_X11_61 hC dX11_from_100 ?_
          refine q_iconst hC 1 dX11_from_103 rfl ?_
          exact q_iret hC hF dX11_from_104 (Option.some.inj hx)
    · have hx := gi_p h6 hx
      refine q_aload_n hC 0 dX11_from_24 rfl rfl ?_
      obtain ⟨v16, q17, hx⟩ := gb_e hx
      refine q_ki (q_rV (As := []) (rest := []) hC mm_X11_no wM_X11_175 (c_X11_no q17) ⟨rfl, rfl, Nat.le_of_ble_eq_true rfl, Nat.le_of_ble_eq_true rfl⟩ (gV_t (by decide) (by decide)) rfl rfl rfl rfl (Nat.le_of_ble_eq_true rfl) dX11_from_25) ?_
      exact q_iret hC hF dX11_from_28 (Option.some.inj hx)
  · have hx := gi_p h4 hx
    refine q_aload_n hC 0 dX11_from_10 rfl rfl ?_
    obtain ⟨v18, q19, hx⟩ := gb_e hx
    refine q_ki (q_rV (As := []) (rest := []) hC mm_X11_bad wM_X11_74 (c_X11_bad q19) ⟨rfl, rfl, Nat.le_of_ble_eq_true rfl, Nat.le_of_ble_eq_true rfl⟩ (gV_t (by decide) (by decide)) rfl rfl rfl rfl (Nat.le_of_ble_eq_true rfl) dX11_from_11) ?_
    exact q_iret hC hF dX11_from_14 (Option.some.inj hx)

theorem dX11_status_0 : decode cX11_status 0 = .ok (.iload_n 1, 1) := by decide +kernel
theorem dX11_status_1 : decode cX11_status 1 = .ok (.i2l, 1) := by decide +kernel
theorem dX11_status_2 : decode cX11_status 2 = .ok (.lconst 0, 1) := by decide +kernel
theorem dX11_status_3 : decode cX11_status 3 = .ok (.ldc2_w 265, 3) := by decide +kernel
theorem dX11_status_6 : decode cX11_status 6 = .ok (.invokestatic 57, 3) := by decide +kernel
theorem dX11_status_9 : decode cX11_status 9 = .ok (.ifCond .ne 10, 3) := by decide +kernel
theorem dX11_status_12 : decode cX11_status 12 = .ok (.aload_n 0, 1) := by decide +kernel
theorem dX11_status_13 : decode cX11_status 13 = .ok (.invokevirtual 74, 3) := by decide +kernel
theorem dX11_status_16 : decode cX11_status 16 = .ok (.pop, 1) := by decide +kernel
theorem dX11_status_17 : decode cX11_status 17 = .ok (.iconst (-1), 1) := by decide +kernel
theorem dX11_status_18 : decode cX11_status 18 = .ok (.ireturn, 1) := by decide +kernel
theorem dX11_status_19 : decode cX11_status 19 = .ok (.aload_n 0, 1) := by decide +kernel
theorem dX11_status_20 : decode cX11_status 20 = .ok (.getfield 17, 3) := by decide +kernel
theorem dX11_status_23 : decode cX11_status 23 = .ok (.iload_n 1, 1) := by decide +kernel
theorem dX11_status_24 : decode cX11_status 24 = .ok (.iaload, 1) := by decide +kernel
theorem dX11_status_25 : decode cX11_status 25 = .ok (.ireturn, 1) := by decide +kernel
def x_X11_status (M : gMem) (p1 : Int32) : Option (Int32 × gMem) := Option.bind (x_X11_in (Int32.toInt64 p1) 0 2) (fun v1 => (if v1 = 0 then Option.bind (x_X11_bad M) (fun v6 => some ((-1), v6.2)) else gd (gin p1 3) (some (M.1 0 61 (p1).toNatClampNeg, M))))
set_option maxRecDepth 100000 in
set_option maxHeartbeats 4000000 in
theorem c_X11_status {l : Launch} {Y : gY} {M : gMem} {p1 : Int32} {r : (Int32 × gMem)} (hx : x_X11_status M p1 = some r) : Met l yX11_status (gws yX11_status cX11_status 2 (some .int)) { frames := 1, cells := 0, slots := 0, locals := 25 } (va_Pc [.ref (gad Y 0 59), .int p1] (gS0 Y M)) (gQi Y r) 0 0 (gA Y) := by
  refine gmet (lv := [(0, .ref (gad Y 0 59)), (1, .int p1)]) "GuestStaffModel" (by decide) rfl (Nat.le_of_ble_eq_true rfl) rfl (fun X hC hF => ?_)
  unfold x_X11_status at hx
  refine q_iload_n hC 1 dX11_status_0 rfl rfl ?_
  refine q_i2l hC dX11_status_1 ?_
  refine q_lconst hC 0 dX11_status_2 rfl ?_
  refine q_ldc2 hC 2 dX11_status_3 wC_X11_265 ?_
  obtain ⟨v1, q2, hx⟩ := gb_e hx
  refine q_kzp (q_rS (As := [.long (Int32.toInt64 p1), .long 0, .long 2]) (rest := []) hC mm_X11_in wM_X11_57 (c_X11_in q2) ⟨rfl, rfl, Nat.le_of_ble_eq_true rfl, Nat.le_of_ble_eq_true rfl⟩ rfl rfl (Nat.le_of_ble_eq_true rfl) dX11_status_6) (fun z3 => ?_)
  refine q_if_ne hC 19 dX11_status_9 rfl (fun h4 => ?_) (fun h4 => ?_)
  · have hx := gi_n h4 hx
    refine q_aload_n hC 0 dX11_status_19 rfl rfl ?_
    refine gf_X11_17 hC dX11_status_20 ?_
    refine q_iload_n hC 1 dX11_status_23 rfl rfl ?_
    have g5 := (gd_e hx).1
    have hx := (gd_e hx).2
    refine q_iald hC 2 (gV_t (by decide) (by decide)) rfl g5 dX11_status_24 ?_
    exact q_iret hC hF dX11_status_25 (Option.some.inj hx)
  · have hx := gi_p h4 hx
    refine q_aload_n hC 0 dX11_status_12 rfl rfl ?_
    obtain ⟨v6, q7, hx⟩ := gb_e hx
    refine q_ki (q_rV (As := []) (rest := []) hC mm_X11_bad wM_X11_74 (c_X11_bad q7) ⟨rfl, rfl, Nat.le_of_ble_eq_true rfl, Nat.le_of_ble_eq_true rfl⟩ (gV_t (by decide) (by decide)) rfl rfl rfl rfl (Nat.le_of_ble_eq_true rfl) dX11_status_13) ?_
    refine q_pop hC dX11_status_16 rfl ?_
    refine q_iconst hC (-1) dX11_status_17 rfl ?_
    exact q_iret hC hF dX11_status_18 (Option.some.inj hx)

theorem dX11_countOf_0 : decode cX11_countOf 0 = .ok (.iload_n 1, 1) := by decide +kernel
theorem dX11_countOf_1 : decode cX11_countOf 1 = .ok (.tableswitch 79 0 5 #[39, 47, 54, 61, 66, 74], 39) := by decide +kernel
theorem dX11_countOf_40 : decode cX11_countOf 40 = .ok (.aload_n 0, 1) := by decide +kernel
theorem dX11_countOf_41 : decode cX11_countOf 41 = .ok (.getfield 7, 3) := by decide +kernel
theorem dX11_countOf_44 : decode cX11_countOf 44 = .ok (.bipush 16, 2) := by decide +kernel
theorem dX11_countOf_46 : decode cX11_countOf 46 = .ok (.iaload, 1) := by decide +kernel
theorem dX11_countOf_47 : decode cX11_countOf 47 = .ok (.ireturn, 1) := by decide +kernel
theorem dX11_countOf_48 : decode cX11_countOf 48 = .ok (.aload_n 0, 1) := by decide +kernel
theorem dX11_countOf_49 : decode cX11_countOf 49 = .ok (.getfield 7, 3) := by decide +kernel
theorem dX11_countOf_52 : decode cX11_countOf 52 = .ok (.iconst 0, 1) := by decide +kernel
theorem dX11_countOf_53 : decode cX11_countOf 53 = .ok (.iaload, 1) := by decide +kernel
theorem dX11_countOf_54 : decode cX11_countOf 54 = .ok (.ireturn, 1) := by decide +kernel
theorem dX11_countOf_55 : decode cX11_countOf 55 = .ok (.aload_n 0, 1) := by decide +kernel
theorem dX11_countOf_56 : decode cX11_countOf 56 = .ok (.getfield 7, 3) := by decide +kernel
theorem dX11_countOf_59 : decode cX11_countOf 59 = .ok (.iconst 1, 1) := by decide +kernel
theorem dX11_countOf_60 : decode cX11_countOf 60 = .ok (.iaload, 1) := by decide +kernel
theorem dX11_countOf_61 : decode cX11_countOf 61 = .ok (.ireturn, 1) := by decide +kernel
theorem dX11_countOf_62 : decode cX11_countOf 62 = .ok (.aload_n 0, 1) := by decide +kernel
theorem dX11_countOf_63 : decode cX11_countOf 63 = .ok (.invokevirtual 247, 3) := by decide +kernel
theorem dX11_countOf_66 : decode cX11_countOf 66 = .ok (.ireturn, 1) := by decide +kernel
theorem dX11_countOf_67 : decode cX11_countOf 67 = .ok (.aload_n 0, 1) := by decide +kernel
theorem dX11_countOf_68 : decode cX11_countOf 68 = .ok (.getfield 7, 3) := by decide +kernel
theorem dX11_countOf_71 : decode cX11_countOf 71 = .ok (.bipush 38, 2) := by decide +kernel
theorem dX11_countOf_73 : decode cX11_countOf 73 = .ok (.iaload, 1) := by decide +kernel
theorem dX11_countOf_74 : decode cX11_countOf 74 = .ok (.ireturn, 1) := by decide +kernel
theorem dX11_countOf_75 : decode cX11_countOf 75 = .ok (.aload_n 0, 1) := by decide +kernel
theorem dX11_countOf_76 : decode cX11_countOf 76 = .ok (.getfield 61, 3) := by decide +kernel
theorem dX11_countOf_79 : decode cX11_countOf 79 = .ok (.ireturn, 1) := by decide +kernel
theorem dX11_countOf_80 : decode cX11_countOf 80 = .ok (.aload_n 0, 1) := by decide +kernel
theorem dX11_countOf_81 : decode cX11_countOf 81 = .ok (.getfield 97, 3) := by decide +kernel
theorem dX11_countOf_84 : decode cX11_countOf 84 = .ok (.ireturn, 1) := by decide +kernel
def x_X11_countOf (M : gMem) (p1 : Int32) : Option Int32 := (if p1 = 0 then some (M.1 0 60 16) else (if p1 = 1 then some (M.1 0 60 0) else (if p1 = 2 then some (M.1 0 60 1) else (if p1 = 3 then Option.bind (x_X11_servedMany M) (fun v5 => some v5) else (if p1 = 4 then some (M.1 0 60 38) else (if p1 = 5 then some (M.1 0 59 14) else some (M.1 0 59 5)))))))
set_option maxRecDepth 100000 in
set_option maxHeartbeats 4000000 in
theorem c_X11_countOf {l : Launch} {Y : gY} {M : gMem} {p1 : Int32} {r : Int32} (hx : x_X11_countOf M p1 = some r) : Met l yX11_countOf (gws yX11_countOf cX11_countOf 2 (some .int)) { frames := 4, cells := 0, slots := 0, locals := 87 } (va_Pc [.ref (gad Y 0 59), .int p1] (gS0 Y M)) (gQi Y (r, M)) 0 0 (gA Y) := by
  refine gmet (lv := [(0, .ref (gad Y 0 59)), (1, .int p1)]) "GuestStaffModel" (by decide) rfl (Nat.le_of_ble_eq_true rfl) rfl (fun X hC hF => ?_)
  unfold x_X11_countOf at hx
  refine q_iload_n hC 1 dX11_countOf_0 rfl rfl ?_
  by_cases h1 : p1 = 0
  · have hx := gi_p h1 hx
    refine q_tin hC 0 40 h1 dX11_countOf_1 (by decide) (by decide) rfl rfl ?_
    refine q_aload_n hC 0 dX11_countOf_40 rfl rfl ?_
    refine gf_X11_7 hC dX11_countOf_41 ?_
    refine q_bipush hC 16 dX11_countOf_44 rfl ?_
    refine q_ialdk hC 16 69 (gV_t (by decide) (by decide)) rfl (by decide) rfl dX11_countOf_46 ?_
    exact q_iret hC hF dX11_countOf_47 (congrArg (fun z => (z, M)) (Option.some.inj hx))
  have hx := gi_n h1 hx
  by_cases h2 : p1 = 1
  · have hx := gi_p h2 hx
    refine q_tin hC 1 48 h2 dX11_countOf_1 (by decide) (by decide) rfl rfl ?_
    refine q_aload_n hC 0 dX11_countOf_48 rfl rfl ?_
    refine gf_X11_7 hC dX11_countOf_49 ?_
    refine q_iconst hC 0 dX11_countOf_52 rfl ?_
    refine q_ialdk hC 0 69 (gV_t (by decide) (by decide)) rfl (by decide) rfl dX11_countOf_53 ?_
    exact q_iret hC hF dX11_countOf_54 (congrArg (fun z => (z, M)) (Option.some.inj hx))
  have hx := gi_n h2 hx
  by_cases h3 : p1 = 2
  · have hx := gi_p h3 hx
    refine q_tin hC 2 55 h3 dX11_countOf_1 (by decide) (by decide) rfl rfl ?_
    refine q_aload_n hC 0 dX11_countOf_55 rfl rfl ?_
    refine gf_X11_7 hC dX11_countOf_56 ?_
    refine q_iconst hC 1 dX11_countOf_59 rfl ?_
    refine q_ialdk hC 1 69 (gV_t (by decide) (by decide)) rfl (by decide) rfl dX11_countOf_60 ?_
    exact q_iret hC hF dX11_countOf_61 (congrArg (fun z => (z, M)) (Option.some.inj hx))
  have hx := gi_n h3 hx
  by_cases h4 : p1 = 3
  · have hx := gi_p h4 hx
    refine q_tin hC 3 62 h4 dX11_countOf_1 (by decide) (by decide) rfl rfl ?_
    refine q_aload_n hC 0 dX11_countOf_62 rfl rfl ?_
    obtain ⟨v5, q6, hx⟩ := gb_e hx
    refine q_kip (q_rV (As := []) (rest := []) hC mm_X11_servedMany wM_X11_247 (c_X11_servedMany q6) ⟨rfl, rfl, Nat.le_of_ble_eq_true rfl, Nat.le_of_ble_eq_true rfl⟩ (gV_t (by decide) (by decide)) rfl rfl rfl rfl (Nat.le_of_ble_eq_true rfl) dX11_countOf_63) ?_
    exact q_iret hC hF dX11_countOf_66 (congrArg (fun z => (z, M)) (Option.some.inj hx))
  have hx := gi_n h4 hx
  by_cases h7 : p1 = 4
  · have hx := gi_p h7 hx
    refine q_tin hC 4 67 h7 dX11_countOf_1 (by decide) (by decide) rfl rfl ?_
    refine q_aload_n hC 0 dX11_countOf_67 rfl rfl ?_
    refine gf_X11_7 hC dX11_countOf_68 ?_
    refine q_bipush hC 38 dX11_countOf_71 rfl ?_
    refine q_ialdk hC 38 69 (gV_t (by decide) (by decide)) rfl (by decide) rfl dX11_countOf_73 ?_
    exact q_iret hC hF dX11_countOf_74 (congrArg (fun z => (z, M)) (Option.some.inj hx))
  have hx := gi_n h7 hx
  by_cases h8 : p1 = 5
  · have hx := gi_p h8 hx
    refine q_tin hC 5 75 h8 dX11_countOf_1 (by decide) (by decide) rfl rfl ?_
    refine q_aload_n hC 0 dX11_countOf_75 rfl rfl ?_
    refine gf_X11_61 hC dX11_countOf_76 ?_
    exact q_iret hC hF dX11_countOf_79 (congrArg (fun z => (z, M)) (Option.some.inj hx))
  have hx := gi_n h8 hx
  have th1 := lv_neT (a := 0) h1 (by decide)
  have th2 := lv_neT (a := 1) h2 (by decide)
  have th3 := lv_neT (a := 2) h3 (by decide)
  have th4 := lv_neT (a := 3) h4 (by decide)
  have th7 := lv_neT (a := 4) h7 (by decide)
  have th8 := lv_neT (a := 5) h8 (by decide)
  refine q_tout hC 80 (by omega) dX11_countOf_1 rfl ?_
  refine q_aload_n hC 0 dX11_countOf_80 rfl rfl ?_
  refine gf_X11_97 hC dX11_countOf_81 ?_
  exact q_iret hC hF dX11_countOf_84 (congrArg (fun z => (z, M)) (Option.some.inj hx))

theorem dX11_count_0 : decode cX11_count 0 = .ok (.iload_n 1, 1) := by decide +kernel
theorem dX11_count_1 : decode cX11_count 1 = .ok (.i2l, 1) := by decide +kernel
theorem dX11_count_2 : decode cX11_count 2 = .ok (.lconst 0, 1) := by decide +kernel
theorem dX11_count_3 : decode cX11_count 3 = .ok (.ldc2_w 178, 3) := by decide +kernel
theorem dX11_count_6 : decode cX11_count 6 = .ok (.invokestatic 57, 3) := by decide +kernel
theorem dX11_count_9 : decode cX11_count 9 = .ok (.ifCond .eq 11, 3) := by decide +kernel
theorem dX11_count_12 : decode cX11_count 12 = .ok (.aload_n 0, 1) := by decide +kernel
theorem dX11_count_13 : decode cX11_count 13 = .ok (.iload_n 1, 1) := by decide +kernel
theorem dX11_count_14 : decode cX11_count 14 = .ok (.invokevirtual 267, 3) := by decide +kernel
theorem dX11_count_17 : decode cX11_count 17 = .ok (.goto 7, 3) := by decide +kernel
theorem dX11_count_20 : decode cX11_count 20 = .ok (.aload_n 0, 1) := by decide +kernel
theorem dX11_count_21 : decode cX11_count 21 = .ok (.invokevirtual 74, 3) := by decide +kernel
theorem dX11_count_24 : decode cX11_count 24 = .ok (.ireturn, 1) := by decide +kernel
def x_X11_count (M : gMem) (p1 : Int32) : Option (Int32 × gMem) := Option.bind (x_X11_in (Int32.toInt64 p1) 0 6) (fun v1 => (if v1 = 0 then Option.bind (x_X11_bad M) (fun v5 => some (v5.1, v5.2)) else Option.bind (x_X11_countOf M p1) (fun v7 => some (v7, M))))
set_option maxRecDepth 100000 in
set_option maxHeartbeats 4000000 in
theorem c_X11_count {l : Launch} {Y : gY} {M : gMem} {p1 : Int32} {r : (Int32 × gMem)} (hx : x_X11_count M p1 = some r) : Met l yX11_count (gws yX11_count cX11_count 2 (some .int)) { frames := 5, cells := 0, slots := 0, locals := 108 } (va_Pc [.ref (gad Y 0 59), .int p1] (gS0 Y M)) (gQi Y r) 0 0 (gA Y) := by
  refine gmet (lv := [(0, .ref (gad Y 0 59)), (1, .int p1)]) "GuestStaffModel" (by decide) rfl (Nat.le_of_ble_eq_true rfl) rfl (fun X hC hF => ?_)
  unfold x_X11_count at hx
  refine q_iload_n hC 1 dX11_count_0 rfl rfl ?_
  refine q_i2l hC dX11_count_1 ?_
  refine q_lconst hC 0 dX11_count_2 rfl ?_
  refine q_ldc2 hC 6 dX11_count_3 wC_X11_178 ?_
  obtain ⟨v1, q2, hx⟩ := gb_e hx
  refine q_kzp (q_rS (As := [.long (Int32.toInt64 p1), .long 0, .long 6]) (rest := []) hC mm_X11_in wM_X11_57 (c_X11_in q2) ⟨rfl, rfl, Nat.le_of_ble_eq_true rfl, Nat.le_of_ble_eq_true rfl⟩ rfl rfl (Nat.le_of_ble_eq_true rfl) dX11_count_6) (fun z3 => ?_)
  refine q_if_eq hC 20 dX11_count_9 rfl (fun h4 => ?_) (fun h4 => ?_)
  · have hx := gi_p h4 hx
    refine q_aload_n hC 0 dX11_count_20 rfl rfl ?_
    obtain ⟨v5, q6, hx⟩ := gb_e hx
    refine q_ki (q_rV (As := []) (rest := []) hC mm_X11_bad wM_X11_74 (c_X11_bad q6) ⟨rfl, rfl, Nat.le_of_ble_eq_true rfl, Nat.le_of_ble_eq_true rfl⟩ (gV_t (by decide) (by decide)) rfl rfl rfl rfl (Nat.le_of_ble_eq_true rfl) dX11_count_21) ?_
    exact q_iret hC hF dX11_count_24 (Option.some.inj hx)
  · have hx := gi_n h4 hx
    refine q_aload_n hC 0 dX11_count_12 rfl rfl ?_
    refine q_iload_n hC 1 dX11_count_13 rfl rfl ?_
    obtain ⟨v7, q8, hx⟩ := gb_e hx
    refine q_kip (q_rV (As := [.int p1]) (rest := []) hC mm_X11_countOf wM_X11_267 (c_X11_countOf q8) ⟨rfl, rfl, Nat.le_of_ble_eq_true rfl, Nat.le_of_ble_eq_true rfl⟩ (gV_t (by decide) (by decide)) rfl rfl rfl rfl (Nat.le_of_ble_eq_true rfl) dX11_count_14) ?_
    refine q_goto hC 24 dX11_count_17 rfl ?_
    exact q_iret hC hF dX11_count_24 (Option.some.inj hx)

theorem dX11_digest_0 : decode cX11_digest 0 = .ok (.ldc2_w 270, 3) := by decide +kernel
theorem dX11_digest_3 : decode cX11_digest 3 = .ok (.lstore_n 1, 1) := by decide +kernel
theorem dX11_digest_4 : decode cX11_digest 4 = .ok (.iconst 0, 1) := by decide +kernel
theorem dX11_digest_5 : decode cX11_digest 5 = .ok (.istore_n 3, 1) := by decide +kernel
theorem dX11_digest_6 : decode cX11_digest 6 = .ok (.iload_n 3, 1) := by decide +kernel
theorem dX11_digest_7 : decode cX11_digest 7 = .ok (.bipush 7, 2) := by decide +kernel
theorem dX11_digest_9 : decode cX11_digest 9 = .ok (.if_icmp .ge 22, 3) := by decide +kernel
theorem dX11_digest_12 : decode cX11_digest 12 = .ok (.ldc2_w 272, 3) := by decide +kernel
theorem dX11_digest_15 : decode cX11_digest 15 = .ok (.lload_n 1, 1) := by decide +kernel
theorem dX11_digest_16 : decode cX11_digest 16 = .ok (.lmul, 1) := by decide +kernel
theorem dX11_digest_17 : decode cX11_digest 17 = .ok (.aload_n 0, 1) := by decide +kernel
theorem dX11_digest_18 : decode cX11_digest 18 = .ok (.iload_n 3, 1) := by decide +kernel
theorem dX11_digest_19 : decode cX11_digest 19 = .ok (.invokevirtual 267, 3) := by decide +kernel
theorem dX11_digest_22 : decode cX11_digest 22 = .ok (.i2l, 1) := by decide +kernel
theorem dX11_digest_23 : decode cX11_digest 23 = .ok (.ladd, 1) := by decide +kernel
theorem dX11_digest_24 : decode cX11_digest 24 = .ok (.lstore_n 1, 1) := by decide +kernel
theorem dX11_digest_25 : decode cX11_digest 25 = .ok (.iinc 3 1, 3) := by decide +kernel
theorem dX11_digest_28 : decode cX11_digest 28 = .ok (.goto (-22), 3) := by decide +kernel
theorem dX11_digest_31 : decode cX11_digest 31 = .ok (.iconst 0, 1) := by decide +kernel
theorem dX11_digest_32 : decode cX11_digest 32 = .ok (.istore_n 3, 1) := by decide +kernel
theorem dX11_digest_33 : decode cX11_digest 33 = .ok (.iload_n 3, 1) := by decide +kernel
theorem dX11_digest_34 : decode cX11_digest 34 = .ok (.aload_n 0, 1) := by decide +kernel
theorem dX11_digest_35 : decode cX11_digest 35 = .ok (.getfield 7, 3) := by decide +kernel
theorem dX11_digest_38 : decode cX11_digest 38 = .ok (.bipush 16, 2) := by decide +kernel
theorem dX11_digest_40 : decode cX11_digest 40 = .ok (.iaload, 1) := by decide +kernel
theorem dX11_digest_41 : decode cX11_digest 41 = .ok (.if_icmp .ge 93, 3) := by decide +kernel
theorem dX11_digest_44 : decode cX11_digest 44 = .ok (.ldc2_w 272, 3) := by decide +kernel
theorem dX11_digest_47 : decode cX11_digest 47 = .ok (.lload_n 1, 1) := by decide +kernel
theorem dX11_digest_48 : decode cX11_digest 48 = .ok (.lmul, 1) := by decide +kernel
theorem dX11_digest_49 : decode cX11_digest 49 = .ok (.aload_n 0, 1) := by decide +kernel
theorem dX11_digest_50 : decode cX11_digest 50 = .ok (.getfield 7, 3) := by decide +kernel
theorem dX11_digest_53 : decode cX11_digest 53 = .ok (.bipush 17, 2) := by decide +kernel
theorem dX11_digest_55 : decode cX11_digest 55 = .ok (.iload_n 3, 1) := by decide +kernel
theorem dX11_digest_56 : decode cX11_digest 56 = .ok (.iadd, 1) := by decide +kernel
theorem dX11_digest_57 : decode cX11_digest 57 = .ok (.iaload, 1) := by decide +kernel
theorem dX11_digest_58 : decode cX11_digest 58 = .ok (.i2l, 1) := by decide +kernel
theorem dX11_digest_59 : decode cX11_digest 59 = .ok (.ladd, 1) := by decide +kernel
theorem dX11_digest_60 : decode cX11_digest 60 = .ok (.lstore_n 1, 1) := by decide +kernel
theorem dX11_digest_61 : decode cX11_digest 61 = .ok (.ldc2_w 272, 3) := by decide +kernel
theorem dX11_digest_64 : decode cX11_digest 64 = .ok (.lload_n 1, 1) := by decide +kernel
theorem dX11_digest_65 : decode cX11_digest 65 = .ok (.lmul, 1) := by decide +kernel
theorem dX11_digest_66 : decode cX11_digest 66 = .ok (.aload_n 0, 1) := by decide +kernel
theorem dX11_digest_67 : decode cX11_digest 67 = .ok (.getfield 7, 3) := by decide +kernel
theorem dX11_digest_70 : decode cX11_digest 70 = .ok (.bipush 24, 2) := by decide +kernel
theorem dX11_digest_72 : decode cX11_digest 72 = .ok (.iload_n 3, 1) := by decide +kernel
theorem dX11_digest_73 : decode cX11_digest 73 = .ok (.iadd, 1) := by decide +kernel
theorem dX11_digest_74 : decode cX11_digest 74 = .ok (.iaload, 1) := by decide +kernel
theorem dX11_digest_75 : decode cX11_digest 75 = .ok (.i2l, 1) := by decide +kernel
theorem dX11_digest_76 : decode cX11_digest 76 = .ok (.ladd, 1) := by decide +kernel
theorem dX11_digest_77 : decode cX11_digest 77 = .ok (.lstore_n 1, 1) := by decide +kernel
theorem dX11_digest_78 : decode cX11_digest 78 = .ok (.ldc2_w 272, 3) := by decide +kernel
theorem dX11_digest_81 : decode cX11_digest 81 = .ok (.lload_n 1, 1) := by decide +kernel
theorem dX11_digest_82 : decode cX11_digest 82 = .ok (.lmul, 1) := by decide +kernel
theorem dX11_digest_83 : decode cX11_digest 83 = .ok (.aload_n 0, 1) := by decide +kernel
theorem dX11_digest_84 : decode cX11_digest 84 = .ok (.getfield 7, 3) := by decide +kernel
theorem dX11_digest_87 : decode cX11_digest 87 = .ok (.bipush 31, 2) := by decide +kernel
theorem dX11_digest_89 : decode cX11_digest 89 = .ok (.iload_n 3, 1) := by decide +kernel
theorem dX11_digest_90 : decode cX11_digest 90 = .ok (.iadd, 1) := by decide +kernel
theorem dX11_digest_91 : decode cX11_digest 91 = .ok (.iaload, 1) := by decide +kernel
theorem dX11_digest_92 : decode cX11_digest 92 = .ok (.i2l, 1) := by decide +kernel
theorem dX11_digest_93 : decode cX11_digest 93 = .ok (.ladd, 1) := by decide +kernel
theorem dX11_digest_94 : decode cX11_digest 94 = .ok (.lstore_n 1, 1) := by decide +kernel
theorem dX11_digest_95 : decode cX11_digest 95 = .ok (.ldc2_w 272, 3) := by decide +kernel
theorem dX11_digest_98 : decode cX11_digest 98 = .ok (.lload_n 1, 1) := by decide +kernel
theorem dX11_digest_99 : decode cX11_digest 99 = .ok (.lmul, 1) := by decide +kernel
theorem dX11_digest_100 : decode cX11_digest 100 = .ok (.aload_n 0, 1) := by decide +kernel
theorem dX11_digest_101 : decode cX11_digest 101 = .ok (.getfield 7, 3) := by decide +kernel
theorem dX11_digest_104 : decode cX11_digest 104 = .ok (.iconst 2, 1) := by decide +kernel
theorem dX11_digest_105 : decode cX11_digest 105 = .ok (.iload_n 3, 1) := by decide +kernel
theorem dX11_digest_106 : decode cX11_digest 106 = .ok (.iadd, 1) := by decide +kernel
theorem dX11_digest_107 : decode cX11_digest 107 = .ok (.iaload, 1) := by decide +kernel
theorem dX11_digest_108 : decode cX11_digest 108 = .ok (.i2l, 1) := by decide +kernel
theorem dX11_digest_109 : decode cX11_digest 109 = .ok (.ladd, 1) := by decide +kernel
theorem dX11_digest_110 : decode cX11_digest 110 = .ok (.lstore_n 1, 1) := by decide +kernel
theorem dX11_digest_111 : decode cX11_digest 111 = .ok (.ldc2_w 272, 3) := by decide +kernel
theorem dX11_digest_114 : decode cX11_digest 114 = .ok (.lload_n 1, 1) := by decide +kernel
theorem dX11_digest_115 : decode cX11_digest 115 = .ok (.lmul, 1) := by decide +kernel
theorem dX11_digest_116 : decode cX11_digest 116 = .ok (.aload_n 0, 1) := by decide +kernel
theorem dX11_digest_117 : decode cX11_digest 117 = .ok (.getfield 7, 3) := by decide +kernel
theorem dX11_digest_120 : decode cX11_digest 120 = .ok (.bipush 9, 2) := by decide +kernel
theorem dX11_digest_122 : decode cX11_digest 122 = .ok (.iload_n 3, 1) := by decide +kernel
theorem dX11_digest_123 : decode cX11_digest 123 = .ok (.iadd, 1) := by decide +kernel
theorem dX11_digest_124 : decode cX11_digest 124 = .ok (.iaload, 1) := by decide +kernel
theorem dX11_digest_125 : decode cX11_digest 125 = .ok (.i2l, 1) := by decide +kernel
theorem dX11_digest_126 : decode cX11_digest 126 = .ok (.ladd, 1) := by decide +kernel
theorem dX11_digest_127 : decode cX11_digest 127 = .ok (.lstore_n 1, 1) := by decide +kernel
theorem dX11_digest_128 : decode cX11_digest 128 = .ok (.iinc 3 1, 3) := by decide +kernel
theorem dX11_digest_131 : decode cX11_digest 131 = .ok (.goto (-98), 3) := by decide +kernel
theorem dX11_digest_134 : decode cX11_digest 134 = .ok (.iconst 0, 1) := by decide +kernel
theorem dX11_digest_135 : decode cX11_digest 135 = .ok (.istore_n 3, 1) := by decide +kernel
theorem dX11_digest_136 : decode cX11_digest 136 = .ok (.iload_n 3, 1) := by decide +kernel
theorem dX11_digest_137 : decode cX11_digest 137 = .ok (.iconst 5, 1) := by decide +kernel
theorem dX11_digest_138 : decode cX11_digest 138 = .ok (.aload_n 0, 1) := by decide +kernel
theorem dX11_digest_139 : decode cX11_digest 139 = .ok (.getfield 7, 3) := by decide +kernel
theorem dX11_digest_142 : decode cX11_digest 142 = .ok (.bipush 38, 2) := by decide +kernel
theorem dX11_digest_144 : decode cX11_digest 144 = .ok (.iaload, 1) := by decide +kernel
theorem dX11_digest_145 : decode cX11_digest 145 = .ok (.imul, 1) := by decide +kernel
theorem dX11_digest_146 : decode cX11_digest 146 = .ok (.if_icmp .ge 26, 3) := by decide +kernel
theorem dX11_digest_149 : decode cX11_digest 149 = .ok (.ldc2_w 272, 3) := by decide +kernel
theorem dX11_digest_152 : decode cX11_digest 152 = .ok (.lload_n 1, 1) := by decide +kernel
theorem dX11_digest_153 : decode cX11_digest 153 = .ok (.lmul, 1) := by decide +kernel
theorem dX11_digest_154 : decode cX11_digest 154 = .ok (.aload_n 0, 1) := by decide +kernel
theorem dX11_digest_155 : decode cX11_digest 155 = .ok (.getfield 7, 3) := by decide +kernel
theorem dX11_digest_158 : decode cX11_digest 158 = .ok (.bipush 39, 2) := by decide +kernel
theorem dX11_digest_160 : decode cX11_digest 160 = .ok (.iload_n 3, 1) := by decide +kernel
theorem dX11_digest_161 : decode cX11_digest 161 = .ok (.iadd, 1) := by decide +kernel
theorem dX11_digest_162 : decode cX11_digest 162 = .ok (.iaload, 1) := by decide +kernel
theorem dX11_digest_163 : decode cX11_digest 163 = .ok (.i2l, 1) := by decide +kernel
theorem dX11_digest_164 : decode cX11_digest 164 = .ok (.ladd, 1) := by decide +kernel
theorem dX11_digest_165 : decode cX11_digest 165 = .ok (.lstore_n 1, 1) := by decide +kernel
theorem dX11_digest_166 : decode cX11_digest 166 = .ok (.iinc 3 1, 3) := by decide +kernel
theorem dX11_digest_169 : decode cX11_digest 169 = .ok (.goto (-33), 3) := by decide +kernel
theorem dX11_digest_172 : decode cX11_digest 172 = .ok (.ldc2_w 272, 3) := by decide +kernel
theorem dX11_digest_175 : decode cX11_digest 175 = .ok (.lload_n 1, 1) := by decide +kernel
theorem dX11_digest_176 : decode cX11_digest 176 = .ok (.lmul, 1) := by decide +kernel
theorem dX11_digest_177 : decode cX11_digest 177 = .ok (.aload_n 0, 1) := by decide +kernel
theorem dX11_digest_178 : decode cX11_digest 178 = .ok (.getfield 250, 3) := by decide +kernel
theorem dX11_digest_181 : decode cX11_digest 181 = .ok (.ladd, 1) := by decide +kernel
theorem dX11_digest_182 : decode cX11_digest 182 = .ok (.lstore_n 1, 1) := by decide +kernel
theorem dX11_digest_183 : decode cX11_digest 183 = .ok (.ldc2_w 272, 3) := by decide +kernel
theorem dX11_digest_186 : decode cX11_digest 186 = .ok (.lload_n 1, 1) := by decide +kernel
theorem dX11_digest_187 : decode cX11_digest 187 = .ok (.lmul, 1) := by decide +kernel
theorem dX11_digest_188 : decode cX11_digest 188 = .ok (.aload_n 0, 1) := by decide +kernel
theorem dX11_digest_189 : decode cX11_digest 189 = .ok (.getfield 13, 3) := by decide +kernel
theorem dX11_digest_192 : decode cX11_digest 192 = .ok (.ladd, 1) := by decide +kernel
theorem dX11_digest_193 : decode cX11_digest 193 = .ok (.lreturn, 1) := by decide +kernel
def s_X11_digest_6 (M : gMem) (b1 : Int64) (b3 : Int32) : Option ((Int64 × Int32) ⊕ (Int64 × Int32)) := (if 7 ≤ b3 then some (.inr (b1, b3)) else Option.bind (x_X11_countOf M b3) (fun v2 => some (.inl ((31 * b1) + (Int32.toInt64 v2), b3 + 1))))
def s_X11_digest_33 (M : gMem) (b1 : Int64) (b3 : Int32) : Option ((Int64 × Int32) ⊕ (Int64 × Int32)) := (if (M.1 0 60 16) ≤ b3 then some (.inr (b1, b3)) else gd (gin (17 + b3) 70) (gd (gin (24 + b3) 70) (gd (gin (31 + b3) 70) (gd (gin (2 + b3) 70) (gd (gin (9 + b3) 70) (some (.inl ((31 * ((31 * ((31 * ((31 * ((31 * b1) + (Int32.toInt64 (M.1 0 60 (17 + b3).toNatClampNeg)))) + (Int32.toInt64 (M.1 0 60 (24 + b3).toNatClampNeg)))) + (Int32.toInt64 (M.1 0 60 (31 + b3).toNatClampNeg)))) + (Int32.toInt64 (M.1 0 60 (2 + b3).toNatClampNeg)))) + (Int32.toInt64 (M.1 0 60 (9 + b3).toNatClampNeg)), b3 + 1))))))))
def s_X11_digest_136 (M : gMem) (b1 : Int64) (b3 : Int32) : Option ((Int64 × Int32) ⊕ (Int64 × Int32)) := (if (5 * (M.1 0 60 38)) ≤ b3 then some (.inr (b1, b3)) else gd (gin (39 + b3) 70) (some (.inl ((31 * b1) + (Int32.toInt64 (M.1 0 60 (39 + b3).toNatClampNeg)), b3 + 1))))
def x_X11_digest (M : gMem) : Option Int64 := Option.bind (itr FU (fun s => s_X11_digest_6 M s.1 s.2) (1097, 0)) (fun e4 => Option.bind (itr FU (fun s => s_X11_digest_33 M s.1 s.2) (e4.1, 0)) (fun e11 => Option.bind (itr FU (fun s => s_X11_digest_136 M s.1 s.2) (e11.1, 0)) (fun e14 => some ((31 * ((31 * e14.1) + (M.2 59 1))) + (M.2 59 2)))))
set_option maxRecDepth 100000 in
set_option maxHeartbeats 4000000 in
theorem w_X11_digest_6 {X : gX} {Y : gY} {M : gMem} {r : Int64} (hC : gC X Y cX11_digest "GuestStaffModel" 4 5 108) (hF : gF X Y (some .long) (gQl Y (r, M))) {e : (Int64 × Int32)} (kE : ∀ s : (Int64 × Int32), e = s → gWW X Y 4 31 [(0, .ref (gad Y 0 59)), (1, .long s.1)] [] M) : ∀ (F : Nat) (s : (Int64 × Int32)), itr F (fun s => s_X11_digest_6 M s.1 s.2) s = some e → gWW X Y 4 6 [(0, .ref (gad Y 0 59)), (1, .long s.1), (3, .int s.2)] [] M := by
  intro F s
  refine itr_w (P := fun s => gWW X Y 4 6 [(0, .ref (gad Y 0 59)), (1, .long s.1), (3, .int s.2)] [] M) (fun s o hx kI kx => ?_) F s
  obtain ⟨b1, b3⟩ := s
  have hx : s_X11_digest_6 M b1 b3 = some o := hx
  have kE : ∀ s : (Int64 × Int32), o = .inr s → gWW X Y 4 31 [(0, .ref (gad Y 0 59)), (1, .long s.1)] [] M := fun s q => kE s (kx _ q).symm
  unfold s_X11_digest_6 at hx
  refine q_iload_n hC 2 dX11_digest_6 rfl rfl ?_
  refine q_bipush hC 7 dX11_digest_7 rfl ?_
  refine q_ic_ge hC 31 dX11_digest_9 rfl (fun h1 => ?_) (fun h1 => ?_)
  · have hx := gi_p h1 hx
    exact q_sub [0, 1] rfl (kE (b1, b3) (Option.some.inj hx).symm)
  · have hx := gi_n h1 hx
    refine q_ldc2 hC 31 dX11_digest_12 wC_X11_272 ?_
    refine q_lload_n hC 1 dX11_digest_15 rfl rfl ?_
    refine q_lmul hC dX11_digest_16 ?_
    refine q_aload_n hC 0 dX11_digest_17 rfl rfl ?_
    refine q_iload_n hC 2 dX11_digest_18 rfl rfl ?_
    obtain ⟨v2, q3, hx⟩ := gb_e hx
    refine q_kip (q_rV (As := [.int b3]) (rest := [.long (31 * b1)]) hC mm_X11_countOf wM_X11_267 (c_X11_countOf q3) ⟨rfl, rfl, Nat.le_of_ble_eq_true rfl, Nat.le_of_ble_eq_true rfl⟩ (gV_t (by decide) (by decide)) rfl rfl rfl rfl (Nat.le_of_ble_eq_true rfl) dX11_digest_19) ?_
    refine q_i2l hC dX11_digest_22 ?_
    refine q_ladd hC dX11_digest_23 ?_
    refine q_lstore_n hC [(1, .long ((31 * b1) + (Int32.toInt64 v2))), (0, .ref (gad Y 0 59)), (3, .int b3)] dX11_digest_24 rfl (by decide) rfl ?_
    refine q_iinc hC 2 1 [(3, .int (b3 + 1)), (1, .long ((31 * b1) + (Int32.toInt64 v2))), (0, .ref (gad Y 0 59))] dX11_digest_25 rfl rfl (by decide) rfl ?_
    refine q_goto hC 6 dX11_digest_28 rfl ?_
    exact q_sub [2, 1, 0] rfl (kI ((31 * b1) + (Int32.toInt64 v2), b3 + 1) (Option.some.inj hx).symm)
set_option maxRecDepth 100000 in
set_option maxHeartbeats 4000000 in
theorem w_X11_digest_33 {X : gX} {Y : gY} {M : gMem} {r : Int64} (hC : gC X Y cX11_digest "GuestStaffModel" 4 5 108) (hF : gF X Y (some .long) (gQl Y (r, M))) {e : (Int64 × Int32)} (kE : ∀ s : (Int64 × Int32), e = s → gWW X Y 4 134 [(0, .ref (gad Y 0 59)), (1, .long s.1)] [] M) : ∀ (F : Nat) (s : (Int64 × Int32)), itr F (fun s => s_X11_digest_33 M s.1 s.2) s = some e → gWW X Y 4 33 [(0, .ref (gad Y 0 59)), (1, .long s.1), (3, .int s.2)] [] M := by
  intro F s
  refine itr_w (P := fun s => gWW X Y 4 33 [(0, .ref (gad Y 0 59)), (1, .long s.1), (3, .int s.2)] [] M) (fun s o hx kI kx => ?_) F s
  obtain ⟨b1, b3⟩ := s
  have hx : s_X11_digest_33 M b1 b3 = some o := hx
  have kE : ∀ s : (Int64 × Int32), o = .inr s → gWW X Y 4 134 [(0, .ref (gad Y 0 59)), (1, .long s.1)] [] M := fun s q => kE s (kx _ q).symm
  unfold s_X11_digest_33 at hx
  refine q_iload_n hC 2 dX11_digest_33 rfl rfl ?_
  refine q_aload_n hC 0 dX11_digest_34 rfl rfl ?_
  refine gf_X11_7 hC dX11_digest_35 ?_
  refine q_bipush hC 16 dX11_digest_38 rfl ?_
  refine q_ialdk hC 16 69 (gV_t (by decide) (by decide)) rfl (by decide) rfl dX11_digest_40 ?_
  refine q_ic_ge hC 134 dX11_digest_41 rfl (fun h5 => ?_) (fun h5 => ?_)
  · have hx := gi_p h5 hx
    exact q_sub [0, 1] rfl (kE (b1, b3) (Option.some.inj hx).symm)
  · have hx := gi_n h5 hx
    refine q_ldc2 hC 31 dX11_digest_44 wC_X11_272 ?_
    refine q_lload_n hC 1 dX11_digest_47 rfl rfl ?_
    refine q_lmul hC dX11_digest_48 ?_
    refine q_aload_n hC 0 dX11_digest_49 rfl rfl ?_
    refine gf_X11_7 hC dX11_digest_50 ?_
    refine q_bipush hC 17 dX11_digest_53 rfl ?_
    refine q_iload_n hC 2 dX11_digest_55 rfl rfl ?_
    refine q_iadd hC dX11_digest_56 ?_
    have g6 := (gd_e hx).1
    have hx := (gd_e hx).2
    refine q_iald hC 69 (gV_t (by decide) (by decide)) rfl g6 dX11_digest_57 ?_
    refine q_i2l hC dX11_digest_58 ?_
    refine q_ladd hC dX11_digest_59 ?_
    refine q_lstore_n hC [(1, .long ((31 * b1) + (Int32.toInt64 (M.1 0 60 (17 + b3).toNatClampNeg)))), (0, .ref (gad Y 0 59)), (3, .int b3)] dX11_digest_60 rfl (by decide) rfl ?_
    refine q_ldc2 hC 31 dX11_digest_61 wC_X11_272 ?_
    refine q_lload_n hC 0 dX11_digest_64 rfl rfl ?_
    refine q_lmul hC dX11_digest_65 ?_
    refine q_aload_n hC 1 dX11_digest_66 rfl rfl ?_
    refine gf_X11_7 hC dX11_digest_67 ?_
    refine q_bipush hC 24 dX11_digest_70 rfl ?_
    refine q_iload_n hC 2 dX11_digest_72 rfl rfl ?_
    refine q_iadd hC dX11_digest_73 ?_
    have g7 := (gd_e hx).1
    have hx := (gd_e hx).2
    refine q_iald hC 69 (gV_t (by decide) (by decide)) rfl g7 dX11_digest_74 ?_
    refine q_i2l hC dX11_digest_75 ?_
    refine q_ladd hC dX11_digest_76 ?_
    refine q_lstore_n hC [(1, .long ((31 * ((31 * b1) + (Int32.toInt64 (M.1 0 60 (17 + b3).toNatClampNeg)))) + (Int32.toInt64 (M.1 0 60 (24 + b3).toNatClampNeg)))), (0, .ref (gad Y 0 59)), (3, .int b3)] dX11_digest_77 rfl (by decide) rfl ?_
    refine q_ldc2 hC 31 dX11_digest_78 wC_X11_272 ?_
    refine q_lload_n hC 0 dX11_digest_81 rfl rfl ?_
    refine q_lmul hC dX11_digest_82 ?_
    refine q_aload_n hC 1 dX11_digest_83 rfl rfl ?_
    refine gf_X11_7 hC dX11_digest_84 ?_
    refine q_bipush hC 31 dX11_digest_87 rfl ?_
    refine q_iload_n hC 2 dX11_digest_89 rfl rfl ?_
    refine q_iadd hC dX11_digest_90 ?_
    have g8 := (gd_e hx).1
    have hx := (gd_e hx).2
    refine q_iald hC 69 (gV_t (by decide) (by decide)) rfl g8 dX11_digest_91 ?_
    refine q_i2l hC dX11_digest_92 ?_
    refine q_ladd hC dX11_digest_93 ?_
    refine q_lstore_n hC [(1, .long ((31 * ((31 * ((31 * b1) + (Int32.toInt64 (M.1 0 60 (17 + b3).toNatClampNeg)))) + (Int32.toInt64 (M.1 0 60 (24 + b3).toNatClampNeg)))) + (Int32.toInt64 (M.1 0 60 (31 + b3).toNatClampNeg)))), (0, .ref (gad Y 0 59)), (3, .int b3)] dX11_digest_94 rfl (by decide) rfl ?_
    refine q_ldc2 hC 31 dX11_digest_95 wC_X11_272 ?_
    refine q_lload_n hC 0 dX11_digest_98 rfl rfl ?_
    refine q_lmul hC dX11_digest_99 ?_
    refine q_aload_n hC 1 dX11_digest_100 rfl rfl ?_
    refine gf_X11_7 hC dX11_digest_101 ?_
    refine q_iconst hC 2 dX11_digest_104 rfl ?_
    refine q_iload_n hC 2 dX11_digest_105 rfl rfl ?_
    refine q_iadd hC dX11_digest_106 ?_
    have g9 := (gd_e hx).1
    have hx := (gd_e hx).2
    refine q_iald hC 69 (gV_t (by decide) (by decide)) rfl g9 dX11_digest_107 ?_
    refine q_i2l hC dX11_digest_108 ?_
    refine q_ladd hC dX11_digest_109 ?_
    refine q_lstore_n hC [(1, .long ((31 * ((31 * ((31 * ((31 * b1) + (Int32.toInt64 (M.1 0 60 (17 + b3).toNatClampNeg)))) + (Int32.toInt64 (M.1 0 60 (24 + b3).toNatClampNeg)))) + (Int32.toInt64 (M.1 0 60 (31 + b3).toNatClampNeg)))) + (Int32.toInt64 (M.1 0 60 (2 + b3).toNatClampNeg)))), (0, .ref (gad Y 0 59)), (3, .int b3)] dX11_digest_110 rfl (by decide) rfl ?_
    refine q_ldc2 hC 31 dX11_digest_111 wC_X11_272 ?_
    refine q_lload_n hC 0 dX11_digest_114 rfl rfl ?_
    refine q_lmul hC dX11_digest_115 ?_
    refine q_aload_n hC 1 dX11_digest_116 rfl rfl ?_
    refine gf_X11_7 hC dX11_digest_117 ?_
    refine q_bipush hC 9 dX11_digest_120 rfl ?_
    refine q_iload_n hC 2 dX11_digest_122 rfl rfl ?_
    refine q_iadd hC dX11_digest_123 ?_
    have g10 := (gd_e hx).1
    have hx := (gd_e hx).2
    refine q_iald hC 69 (gV_t (by decide) (by decide)) rfl g10 dX11_digest_124 ?_
    refine q_i2l hC dX11_digest_125 ?_
    refine q_ladd hC dX11_digest_126 ?_
    refine q_lstore_n hC [(1, .long ((31 * ((31 * ((31 * ((31 * ((31 * b1) + (Int32.toInt64 (M.1 0 60 (17 + b3).toNatClampNeg)))) + (Int32.toInt64 (M.1 0 60 (24 + b3).toNatClampNeg)))) + (Int32.toInt64 (M.1 0 60 (31 + b3).toNatClampNeg)))) + (Int32.toInt64 (M.1 0 60 (2 + b3).toNatClampNeg)))) + (Int32.toInt64 (M.1 0 60 (9 + b3).toNatClampNeg)))), (0, .ref (gad Y 0 59)), (3, .int b3)] dX11_digest_127 rfl (by decide) rfl ?_
    refine q_iinc hC 2 1 [(3, .int (b3 + 1)), (1, .long ((31 * ((31 * ((31 * ((31 * ((31 * b1) + (Int32.toInt64 (M.1 0 60 (17 + b3).toNatClampNeg)))) + (Int32.toInt64 (M.1 0 60 (24 + b3).toNatClampNeg)))) + (Int32.toInt64 (M.1 0 60 (31 + b3).toNatClampNeg)))) + (Int32.toInt64 (M.1 0 60 (2 + b3).toNatClampNeg)))) + (Int32.toInt64 (M.1 0 60 (9 + b3).toNatClampNeg)))), (0, .ref (gad Y 0 59))] dX11_digest_128 rfl rfl (by decide) rfl ?_
    refine q_goto hC 33 dX11_digest_131 rfl ?_
    exact q_sub [2, 1, 0] rfl (kI ((31 * ((31 * ((31 * ((31 * ((31 * b1) + (Int32.toInt64 (M.1 0 60 (17 + b3).toNatClampNeg)))) + (Int32.toInt64 (M.1 0 60 (24 + b3).toNatClampNeg)))) + (Int32.toInt64 (M.1 0 60 (31 + b3).toNatClampNeg)))) + (Int32.toInt64 (M.1 0 60 (2 + b3).toNatClampNeg)))) + (Int32.toInt64 (M.1 0 60 (9 + b3).toNatClampNeg)), b3 + 1) (Option.some.inj hx).symm)
set_option maxRecDepth 100000 in
set_option maxHeartbeats 4000000 in
theorem w_X11_digest_136 {X : gX} {Y : gY} {M : gMem} {r : Int64} (hC : gC X Y cX11_digest "GuestStaffModel" 4 5 108) (hF : gF X Y (some .long) (gQl Y (r, M))) {e : (Int64 × Int32)} (kE : ∀ s : (Int64 × Int32), e = s → gWW X Y 4 172 [(0, .ref (gad Y 0 59)), (1, .long s.1)] [] M) : ∀ (F : Nat) (s : (Int64 × Int32)), itr F (fun s => s_X11_digest_136 M s.1 s.2) s = some e → gWW X Y 4 136 [(0, .ref (gad Y 0 59)), (1, .long s.1), (3, .int s.2)] [] M := by
  intro F s
  refine itr_w (P := fun s => gWW X Y 4 136 [(0, .ref (gad Y 0 59)), (1, .long s.1), (3, .int s.2)] [] M) (fun s o hx kI kx => ?_) F s
  obtain ⟨b1, b3⟩ := s
  have hx : s_X11_digest_136 M b1 b3 = some o := hx
  have kE : ∀ s : (Int64 × Int32), o = .inr s → gWW X Y 4 172 [(0, .ref (gad Y 0 59)), (1, .long s.1)] [] M := fun s q => kE s (kx _ q).symm
  unfold s_X11_digest_136 at hx
  refine q_iload_n hC 2 dX11_digest_136 rfl rfl ?_
  refine q_iconst hC 5 dX11_digest_137 rfl ?_
  refine q_aload_n hC 0 dX11_digest_138 rfl rfl ?_
  refine gf_X11_7 hC dX11_digest_139 ?_
  refine q_bipush hC 38 dX11_digest_142 rfl ?_
  refine q_ialdk hC 38 69 (gV_t (by decide) (by decide)) rfl (by decide) rfl dX11_digest_144 ?_
  refine q_imul hC dX11_digest_145 ?_
  refine q_ic_ge hC 172 dX11_digest_146 rfl (fun h12 => ?_) (fun h12 => ?_)
  · have hx := gi_p h12 hx
    exact q_sub [0, 1] rfl (kE (b1, b3) (Option.some.inj hx).symm)
  · have hx := gi_n h12 hx
    refine q_ldc2 hC 31 dX11_digest_149 wC_X11_272 ?_
    refine q_lload_n hC 1 dX11_digest_152 rfl rfl ?_
    refine q_lmul hC dX11_digest_153 ?_
    refine q_aload_n hC 0 dX11_digest_154 rfl rfl ?_
    refine gf_X11_7 hC dX11_digest_155 ?_
    refine q_bipush hC 39 dX11_digest_158 rfl ?_
    refine q_iload_n hC 2 dX11_digest_160 rfl rfl ?_
    refine q_iadd hC dX11_digest_161 ?_
    have g13 := (gd_e hx).1
    have hx := (gd_e hx).2
    refine q_iald hC 69 (gV_t (by decide) (by decide)) rfl g13 dX11_digest_162 ?_
    refine q_i2l hC dX11_digest_163 ?_
    refine q_ladd hC dX11_digest_164 ?_
    refine q_lstore_n hC [(1, .long ((31 * b1) + (Int32.toInt64 (M.1 0 60 (39 + b3).toNatClampNeg)))), (0, .ref (gad Y 0 59)), (3, .int b3)] dX11_digest_165 rfl (by decide) rfl ?_
    refine q_iinc hC 2 1 [(3, .int (b3 + 1)), (1, .long ((31 * b1) + (Int32.toInt64 (M.1 0 60 (39 + b3).toNatClampNeg)))), (0, .ref (gad Y 0 59))] dX11_digest_166 rfl rfl (by decide) rfl ?_
    refine q_goto hC 136 dX11_digest_169 rfl ?_
    exact q_sub [2, 1, 0] rfl (kI ((31 * b1) + (Int32.toInt64 (M.1 0 60 (39 + b3).toNatClampNeg)), b3 + 1) (Option.some.inj hx).symm)
set_option maxRecDepth 100000 in
set_option maxHeartbeats 4000000 in
theorem c_X11_digest {l : Launch} {Y : gY} {M : gMem} {r : Int64} (hx : x_X11_digest M = some r) : Met l yX11_digest (gws yX11_digest cX11_digest 4 (some .long)) { frames := 5, cells := 0, slots := 0, locals := 108 } (va_Pc [.ref (gad Y 0 59)] (gS0 Y M)) (gQl Y (r, M)) 0 0 (gA Y) := by
  refine gmet (lv := [(0, .ref (gad Y 0 59))]) "GuestStaffModel" (by decide) rfl (Nat.le_of_ble_eq_true rfl) rfl (fun X hC hF => ?_)
  unfold x_X11_digest at hx
  refine q_ldc2 hC 1097 dX11_digest_0 wC_X11_270 ?_
  refine q_lstore_n hC [(1, .long 1097), (0, .ref (gad Y 0 59))] dX11_digest_3 rfl (by decide) rfl ?_
  refine q_iconst hC 0 dX11_digest_4 rfl ?_
  refine q_istore_n hC [(3, .int 0), (1, .long 1097), (0, .ref (gad Y 0 59))] dX11_digest_5 rfl (by decide) rfl ?_
  obtain ⟨e4, qe4, hx⟩ := gb_e hx
  refine q_sub [2, 1, 0] rfl (w_X11_digest_6 hC hF (e := e4) (fun s q => ?_) _ _ qe4)
  · subst q
    refine q_iconst hC 0 dX11_digest_31 rfl ?_
    refine q_istore_n hC [(3, .int 0), (0, .ref (gad Y 0 59)), (1, .long e4.1)] dX11_digest_32 rfl (by decide) rfl ?_
    obtain ⟨e11, qe11, hx⟩ := gb_e hx
    refine q_sub [1, 2, 0] rfl (w_X11_digest_33 hC hF (e := e11) (fun s q => ?_) _ _ qe11)
    · subst q
      refine q_iconst hC 0 dX11_digest_134 rfl ?_
      refine q_istore_n hC [(3, .int 0), (0, .ref (gad Y 0 59)), (1, .long e11.1)] dX11_digest_135 rfl (by decide) rfl ?_
      obtain ⟨e14, qe14, hx⟩ := gb_e hx
      refine q_sub [1, 2, 0] rfl (w_X11_digest_136 hC hF (e := e14) (fun s q => ?_) _ _ qe14)
      · subst q
        refine q_ldc2 hC 31 dX11_digest_172 wC_X11_272 ?_
        refine q_lload_n hC 1 dX11_digest_175 rfl rfl ?_
        refine q_lmul hC dX11_digest_176 ?_
        refine q_aload_n hC 0 dX11_digest_177 rfl rfl ?_
        refine gf_X11_250 hC dX11_digest_178 ?_
        refine q_ladd hC dX11_digest_181 ?_
        refine q_lstore_n hC [(1, .long ((31 * e14.1) + (M.2 59 1))), (0, .ref (gad Y 0 59))] dX11_digest_182 rfl (by decide) rfl ?_
        refine q_ldc2 hC 31 dX11_digest_183 wC_X11_272 ?_
        refine q_lload_n hC 0 dX11_digest_186 rfl rfl ?_
        refine q_lmul hC dX11_digest_187 ?_
        refine q_aload_n hC 1 dX11_digest_188 rfl rfl ?_
        refine gf_X11_13 hC dX11_digest_189 ?_
        refine q_ladd hC dX11_digest_192 ?_
        exact q_lret hC hF dX11_digest_193 (congrArg (fun z => (z, M)) (Option.some.inj hx))
