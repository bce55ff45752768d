theorem dX9_append_0 : decode cX9_append 0 = .ok (.aload_n 0, 1) := by decide +kernel
theorem dX9_append_1 : decode cX9_append 1 = .ok (.getfield 9, 3) := by decide +kernel
theorem dX9_append_4 : decode cX9_append 4 = .ok (.aload_n 0, 1) := by decide +kernel
theorem dX9_append_5 : decode cX9_append 5 = .ok (.getfield 15, 3) := by decide +kernel
theorem dX9_append_8 : decode cX9_append 8 = .ok (.iload_n 1, 1) := by decide +kernel
theorem dX9_append_9 : decode cX9_append 9 = .ok (.iastore, 1) := by decide +kernel
theorem dX9_append_10 : decode cX9_append 10 = .ok (.aload_n 0, 1) := by decide +kernel
theorem dX9_append_11 : decode cX9_append 11 = .ok (.dup, 1) := by decide +kernel
theorem dX9_append_12 : decode cX9_append 12 = .ok (.getfield 15, 3) := by decide +kernel
theorem dX9_append_15 : decode cX9_append 15 = .ok (.iconst 1, 1) := by decide +kernel
theorem dX9_append_16 : decode cX9_append 16 = .ok (.iadd, 1) := by decide +kernel
theorem dX9_append_17 : decode cX9_append 17 = .ok (.putfield 15, 3) := by decide +kernel
theorem dX9_append_20 : decode cX9_append 20 = .ok (.aload_n 0, 1) := by decide +kernel
theorem dX9_append_21 : decode cX9_append 21 = .ok (.getfield 15, 3) := by decide +kernel
theorem dX9_append_24 : decode cX9_append 24 = .ok (.ireturn, 1) := by decide +kernel
def x_X9_append (M : gMem) (p1 : Int32) : Option (Int32 × gMem) := gd (gin (M.1 0 36 1) 150) (some ((gwr (gwr M 0 37 (M.1 0 36 1).toNatClampNeg p1) 0 36 1 (((gwr M 0 37 (M.1 0 36 1).toNatClampNeg p1).1 0 36 1) + 1)).1 0 36 1, gwr (gwr M 0 37 (M.1 0 36 1).toNatClampNeg p1) 0 36 1 (((gwr M 0 37 (M.1 0 36 1).toNatClampNeg p1).1 0 36 1) + 1)))
set_option maxRecDepth 100000 in
set_option maxHeartbeats 4000000 in
theorem c_X9_append {l : Launch} {Y : gY} {M : gMem} {p1 : Int32} {r : (Int32 × gMem)} (hx : x_X9_append M p1 = some r) : Met l yX9_append (gws yX9_append cX9_append 2 (some .int)) { frames := 0, cells := 0, slots := 0, locals := 0 } (va_Pc [.ref (gad Y 0 36), .int p1] (gS0 Y M)) (gQi Y r) 0 0 (gA Y) := by
  refine gmet (lv := [(0, .ref (gad Y 0 36)), (1, .int p1)]) "GuestStaff$Text" (by decide) rfl (Nat.le_of_ble_eq_true rfl) rfl (fun X hC hF => ?_)
  unfold x_X9_append at hx
  refine q_aload_n hC 0 dX9_append_0 rfl rfl ?_
  refine gf_X9_9 hC dX9_append_1 ?_
  refine q_aload_n hC 0 dX9_append_4 rfl rfl ?_
  refine gf_X9_15 hC dX9_append_5 ?_
  refine q_iload_n hC 1 dX9_append_8 rfl rfl ?_
  have g1 := (gd_e hx).1
  have hx := (gd_e hx).2
  refine q_iast hC 149 (gV_t (by decide) (by decide)) rfl g1 dX9_append_9 ?_
  refine q_aload_n hC 0 dX9_append_10 rfl rfl ?_
  refine q_dup hC dX9_append_11 rfl ?_
  refine gf_X9_15 hC dX9_append_12 ?_
  refine q_iconst hC 1 dX9_append_15 rfl ?_
  refine q_iadd hC dX9_append_16 ?_
  refine pf_X9_15 hC dX9_append_17 ?_
  refine q_aload_n hC 0 dX9_append_20 rfl rfl ?_
  refine gf_X9_15 hC dX9_append_21 ?_
  exact q_iret hC hF dX9_append_24 (Option.some.inj hx)

theorem dX9_isWord_0 : decode cX9_isWord 0 = .ok (.aload_n 0, 1) := by decide +kernel
theorem dX9_isWord_1 : decode cX9_isWord 1 = .ok (.getfield 25, 3) := by decide +kernel
theorem dX9_isWord_4 : decode cX9_isWord 4 = .ok (.iconst 1, 1) := by decide +kernel
theorem dX9_isWord_5 : decode cX9_isWord 5 = .ok (.if_icmp .ne 19, 3) := by decide +kernel
theorem dX9_isWord_8 : decode cX9_isWord 8 = .ok (.aload_n 0, 1) := by decide +kernel
theorem dX9_isWord_9 : decode cX9_isWord 9 = .ok (.getfield 22, 3) := by decide +kernel
theorem dX9_isWord_12 : decode cX9_isWord 12 = .ok (.aload_n 0, 1) := by decide +kernel
theorem dX9_isWord_13 : decode cX9_isWord 13 = .ok (.getfield 19, 3) := by decide +kernel
theorem dX9_isWord_16 : decode cX9_isWord 16 = .ok (.isub, 1) := by decide +kernel
theorem dX9_isWord_17 : decode cX9_isWord 17 = .ok (.aload_n 1, 1) := by decide +kernel
theorem dX9_isWord_18 : decode cX9_isWord 18 = .ok (.invokevirtual 79, 3) := by decide +kernel
theorem dX9_isWord_21 : decode cX9_isWord 21 = .ok (.if_icmp .eq 5, 3) := by decide +kernel
theorem dX9_isWord_24 : decode cX9_isWord 24 = .ok (.iconst 0, 1) := by decide +kernel
theorem dX9_isWord_25 : decode cX9_isWord 25 = .ok (.ireturn, 1) := by decide +kernel
theorem dX9_isWord_26 : decode cX9_isWord 26 = .ok (.iconst 0, 1) := by decide +kernel
theorem dX9_isWord_27 : decode cX9_isWord 27 = .ok (.istore_n 2, 1) := by decide +kernel
theorem dX9_isWord_28 : decode cX9_isWord 28 = .ok (.iload_n 2, 1) := by decide +kernel
theorem dX9_isWord_29 : decode cX9_isWord 29 = .ok (.aload_n 1, 1) := by decide +kernel
theorem dX9_isWord_30 : decode cX9_isWord 30 = .ok (.invokevirtual 79, 3) := by decide +kernel
theorem dX9_isWord_33 : decode cX9_isWord 33 = .ok (.if_icmp .ge 30, 3) := by decide +kernel
theorem dX9_isWord_36 : decode cX9_isWord 36 = .ok (.aload_n 0, 1) := by decide +kernel
theorem dX9_isWord_37 : decode cX9_isWord 37 = .ok (.getfield 9, 3) := by decide +kernel
theorem dX9_isWord_40 : decode cX9_isWord 40 = .ok (.aload_n 0, 1) := by decide +kernel
theorem dX9_isWord_41 : decode cX9_isWord 41 = .ok (.getfield 19, 3) := by decide +kernel
theorem dX9_isWord_44 : decode cX9_isWord 44 = .ok (.iload_n 2, 1) := by decide +kernel
theorem dX9_isWord_45 : decode cX9_isWord 45 = .ok (.iadd, 1) := by decide +kernel
theorem dX9_isWord_46 : decode cX9_isWord 46 = .ok (.iaload, 1) := by decide +kernel
theorem dX9_isWord_47 : decode cX9_isWord 47 = .ok (.aload_n 1, 1) := by decide +kernel
theorem dX9_isWord_48 : decode cX9_isWord 48 = .ok (.iload_n 2, 1) := by decide +kernel
theorem dX9_isWord_49 : decode cX9_isWord 49 = .ok (.invokevirtual 85, 3) := by decide +kernel
theorem dX9_isWord_52 : decode cX9_isWord 52 = .ok (.if_icmp .eq 5, 3) := by decide +kernel
theorem dX9_isWord_55 : decode cX9_isWord 55 = .ok (.iconst 0, 1) := by decide +kernel
theorem dX9_isWord_56 : decode cX9_isWord 56 = .ok (.ireturn, 1) := by decide +kernel
theorem dX9_isWord_57 : decode cX9_isWord 57 = .ok (.iinc 2 1, 3) := by decide +kernel
theorem dX9_isWord_60 : decode cX9_isWord 60 = .ok (.goto (-32), 3) := by decide +kernel
theorem dX9_isWord_63 : decode cX9_isWord 63 = .ok (.iconst 1, 1) := by decide +kernel
theorem dX9_isWord_64 : decode cX9_isWord 64 = .ok (.ireturn, 1) := by decide +kernel
def s_X9_isWord_28 (M : gMem) (w : Nat) (b2 : Int32) : Option (Int32 ⊕ (Int32 ⊕ Int32)) := (if (slen w) ≤ b2 then some (.inr (.inl b2)) else gd (gin ((M.1 0 36 2) + b2) 150) (gd (gin b2 (slenN w)) ((if (M.1 0 37 ((M.1 0 36 2) + b2).toNatClampNeg) = (sch w (b2).toNatClampNeg) then some (.inl (b2 + 1)) else some (.inr (.inr 0))))))
def x_X9_isWord (M : gMem) (w : Nat) : Option Int32 := (if (M.1 0 36 4) = 1 then (if ((M.1 0 36 3) - (M.1 0 36 2)) = (slen w) then Option.bind (itr FU (fun s => s_X9_isWord_28 M w s) 0) (fun e7 => Sum.elim (fun s8 => some 1) (fun z9 => some z9) e7) else some 0) else some 0)
set_option maxRecDepth 100000 in
set_option maxHeartbeats 4000000 in
theorem w_X9_isWord_28 {X : gX} {Y : gY} {M : gMem} {w : Nat} {r : Int32} (hC : gC X Y cX9_isWord "GuestStaff$Text" 3 4 120) (hF : gF X Y (some .boolean) (gQz Y (r, M))) (hw : w < 3) {e : (Int32 ⊕ Int32)} (kE : ∀ s : Int32, e = .inl s → gWW X Y 3 63 [] [] M) (kR : ∀ z : Int32, e = .inr z → z = r) : ∀ (F : Nat) (s : Int32), itr F (fun s => s_X9_isWord_28 M w s) s = some e → gWW X Y 3 28 [(0, .ref (gad Y 0 36)), (1, .ref (Y.2.2.2.1 w)), (2, .int s)] [] M := by
  intro F s
  refine itr_w (P := fun s => gWW X Y 3 28 [(0, .ref (gad Y 0 36)), (1, .ref (Y.2.2.2.1 w)), (2, .int s)] [] M) (fun s o hx kI kx => ?_) F s
  obtain ⟨b2, rfl⟩ : ∃ z, z = s := ⟨s, rfl⟩
  have hx : s_X9_isWord_28 M w b2 = some o := hx
  have kE : ∀ s : Int32, o = .inr (.inl s) → gWW X Y 3 63 [] [] M := fun s q => kE s (kx _ q).symm
  have kR : ∀ z : Int32, o = .inr (.inr z) → z = r := fun z q => kR z (kx _ q).symm
  unfold s_X9_isWord_28 at hx
  refine q_iload_n hC 2 dX9_isWord_28 rfl rfl ?_
  refine q_aload_n hC 1 dX9_isWord_29 rfl rfl ?_
  refine q_slen hC hw (by decide) (by decide) (Nat.le_of_ble_eq_true rfl) dX9_isWord_30 ?_
  refine q_ic_ge hC 63 dX9_isWord_33 rfl (fun h3 => ?_) (fun h3 => ?_)
  · have hx := gi_p h3 hx
    exact q_sub [] rfl (kE b2 (Option.some.inj hx).symm)
  · have hx := gi_n h3 hx
    refine q_aload_n hC 0 dX9_isWord_36 rfl rfl ?_
    refine gf_X9_9 hC dX9_isWord_37 ?_
    refine q_aload_n hC 0 dX9_isWord_40 rfl rfl ?_
    refine gf_X9_19 hC dX9_isWord_41 ?_
    refine q_iload_n hC 2 dX9_isWord_44 rfl rfl ?_
    refine q_iadd hC dX9_isWord_45 ?_
    have g4 := (gd_e hx).1
    have hx := (gd_e hx).2
    refine q_iald hC 149 (gV_t (by decide) (by decide)) rfl g4 dX9_isWord_46 ?_
    refine q_aload_n hC 1 dX9_isWord_47 rfl rfl ?_
    refine q_iload_n hC 2 dX9_isWord_48 rfl rfl ?_
    have g5 := (gd_e hx).1
    have hx := (gd_e hx).2
    refine q_sch hC hw g5 (by decide) (by decide) (Nat.le_of_ble_eq_true rfl) dX9_isWord_49 ?_
    refine q_ic_eq hC 57 dX9_isWord_52 rfl (fun h6 => ?_) (fun h6 => ?_)
    · have hx := gi_p h6 hx
      refine q_iinc hC 2 1 [(2, .int (b2 + 1)), (0, .ref (gad Y 0 36)), (1, .ref (Y.2.2.2.1 w))] dX9_isWord_57 rfl rfl (by decide) rfl ?_
      refine q_goto hC 28 dX9_isWord_60 rfl ?_
      exact q_sub [1, 2, 0] rfl (kI (b2 + 1) (Option.some.inj hx).symm)
    · have hx := gi_n h6 hx
      refine q_iconst hC 0 dX9_isWord_55 rfl ?_
      exact q_zret hC hF dX9_isWord_56 (Or.inl rfl) (congrArg (fun z => (z, M)) (kR _ (Option.some.inj hx).symm))
set_option maxRecDepth 100000 in
set_option maxHeartbeats 4000000 in
theorem c_X9_isWord {l : Launch} {Y : gY} {M : gMem} {w : Nat} {r : Int32} (hw : w < 3) (hx : x_X9_isWord M w = some r) : Met l yX9_isWord (gws yX9_isWord cX9_isWord 3 (some .boolean)) { frames := 4, cells := 0, slots := 0, locals := 120 } (va_Pc [.ref (gad Y 0 36), .ref (Y.2.2.2.1 w)] (gS0 Y M)) (gQz Y (r, M)) 0 0 (gA Y) := by
  refine gmet (lv := [(0, .ref (gad Y 0 36)), (1, .ref (Y.2.2.2.1 w))]) "GuestStaff$Text" (by decide) rfl (Nat.le_of_ble_eq_true rfl) rfl (fun X hC hF => ?_)
  unfold x_X9_isWord at hx
  refine q_aload_n hC 0 dX9_isWord_0 rfl rfl ?_
  refine gf_X9_25 hC dX9_isWord_1 ?_
  refine q_iconst hC 1 dX9_isWord_4 rfl ?_
  refine q_ic_ne hC 24 dX9_isWord_5 rfl (fun h1 => ?_) (fun h1 => ?_)
  · have hx := gi_n h1 hx
    refine q_iconst hC 0 dX9_isWord_24 rfl ?_
    exact q_zret hC hF dX9_isWord_25 (Or.inl rfl) (congrArg (fun z => (z, M)) (Option.some.inj hx))
  · have hx := gi_p h1 hx
    refine q_aload_n hC 0 dX9_isWord_8 rfl rfl ?_
    refine gf_X9_22 hC dX9_isWord_9 ?_
    refine q_aload_n hC 0 dX9_isWord_12 rfl rfl ?_
    refine gf_X9_19 hC dX9_isWord_13 ?_
    refine q_isub hC dX9_isWord_16 ?_
    refine q_aload_n hC 1 dX9_isWord_17 rfl rfl ?_
    refine q_slen hC hw (by decide) (by decide) (Nat.le_of_ble_eq_true rfl) dX9_isWord_18 ?_
    refine q_ic_eq hC 26 dX9_isWord_21 rfl (fun h2 => ?_) (fun h2 => ?_)
    · have hx := gi_p h2 hx
      refine q_iconst hC 0 dX9_isWord_26 rfl ?_
      refine q_istore_n hC [(2, .int 0), (0, .ref (gad Y 0 36)), (1, .ref (Y.2.2.2.1 w))] dX9_isWord_27 rfl (by decide) rfl ?_
      obtain ⟨e7, qe7, hx⟩ := gb_e hx
      refine q_sub [1, 2, 0] rfl (w_X9_isWord_28 hC hF hw (e := e7) (fun s8 qs8 => ?_) (fun z9 qz9 => ?_) _ _ qe7)
      · subst qs8
        refine q_iconst hC 1 dX9_isWord_63 rfl ?_
        exact q_zret hC hF dX9_isWord_64 (Or.inr rfl) (congrArg (fun z => (z, M)) (Option.some.inj hx))
      · subst qz9
        exact Option.some.inj hx
    · have hx := gi_n h2 hx
      refine q_iconst hC 0 dX9_isWord_24 rfl ?_
      exact q_zret hC hF dX9_isWord_25 (Or.inl rfl) (congrArg (fun z => (z, M)) (Option.some.inj hx))

theorem dX9_isNumber_0 : decode cX9_isNumber 0 = .ok (.aload_n 0, 1) := by decide +kernel
theorem dX9_isNumber_1 : decode cX9_isNumber 1 = .ok (.getfield 25, 3) := by decide +kernel
theorem dX9_isNumber_4 : decode cX9_isNumber 4 = .ok (.iconst 2, 1) := by decide +kernel
theorem dX9_isNumber_5 : decode cX9_isNumber 5 = .ok (.if_icmp .ne 22, 3) := by decide +kernel
theorem dX9_isNumber_8 : decode cX9_isNumber 8 = .ok (.aload_n 0, 1) := by decide +kernel
theorem dX9_isNumber_9 : decode cX9_isNumber 9 = .ok (.getfield 28, 3) := by decide +kernel
theorem dX9_isNumber_12 : decode cX9_isNumber 12 = .ok (.ifCond .lt 15, 3) := by decide +kernel
theorem dX9_isNumber_15 : decode cX9_isNumber 15 = .ok (.aload_n 0, 1) := by decide +kernel
theorem dX9_isNumber_16 : decode cX9_isNumber 16 = .ok (.getfield 28, 3) := by decide +kernel
theorem dX9_isNumber_19 : decode cX9_isNumber 19 = .ok (.iload_n 1, 1) := by decide +kernel
theorem dX9_isNumber_20 : decode cX9_isNumber 20 = .ok (.if_icmp .ge 7, 3) := by decide +kernel
theorem dX9_isNumber_23 : decode cX9_isNumber 23 = .ok (.iconst 1, 1) := by decide +kernel
theorem dX9_isNumber_24 : decode cX9_isNumber 24 = .ok (.goto 4, 3) := by decide +kernel
theorem dX9_isNumber_27 : decode cX9_isNumber 27 = .ok (.iconst 0, 1) := by decide +kernel
theorem dX9_isNumber_28 : decode cX9_isNumber 28 = .ok (.ireturn, 1) := by decide +kernel
def x_X9_isNumber (M : gMem) (p1 : Int32) : Option Int32 := (if (M.1 0 36 4) = 2 then (if (M.1 0 36 5) < 0 then some 0 else (if p1 ≤ (M.1 0 36 5) then some 0 else some 1)) else some 0)
set_option maxRecDepth 100000 in
set_option maxHeartbeats 4000000 in
theorem c_X9_isNumber {l : Launch} {Y : gY} {M : gMem} {p1 : Int32} {r : Int32} (hx : x_X9_isNumber M p1 = some r) : Met l yX9_isNumber (gws yX9_isNumber cX9_isNumber 2 (some .boolean)) { frames := 0, cells := 0, slots := 0, locals := 0 } (va_Pc [.ref (gad Y 0 36), .int p1] (gS0 Y M)) (gQz Y (r, M)) 0 0 (gA Y) := by
  refine gmet (lv := [(0, .ref (gad Y 0 36)), (1, .int p1)]) "GuestStaff$Text" (by decide) rfl (Nat.le_of_ble_eq_true rfl) rfl (fun X hC hF => ?_)
  unfold x_X9_isNumber at hx
  refine q_aload_n hC 0 dX9_isNumber_0 rfl rfl ?_
  refine gf_X9_25 hC dX9_isNumber_1 ?_
  refine q_iconst hC 2 dX9_isNumber_4 rfl ?_
  refine q_ic_ne hC 27 dX9_isNumber_5 rfl (fun h1 => ?_) (fun h1 => ?_)
  · have hx := gi_n h1 hx
    refine q_iconst hC 0 dX9_isNumber_27 rfl ?_
    exact q_zret hC hF dX9_isNumber_28 (Or.inl rfl) (congrArg (fun z => (z, M)) (Option.some.inj hx))
  · have hx := gi_p h1 hx
    refine q_aload_n hC 0 dX9_isNumber_8 rfl rfl ?_
    refine gf_X9_28 hC dX9_isNumber_9 ?_
    refine q_if_lt hC 27 dX9_isNumber_12 rfl (fun h2 => ?_) (fun h2 => ?_)
    · have hx := gi_p h2 hx
      refine q_iconst hC 0 dX9_isNumber_27 rfl ?_
      exact q_zret hC hF dX9_isNumber_28 (Or.inl rfl) (congrArg (fun z => (z, M)) (Option.some.inj hx))
    · have hx := gi_n h2 hx
      refine q_aload_n hC 0 dX9_isNumber_15 rfl rfl ?_
      refine gf_X9_28 hC dX9_isNumber_16 ?_
      refine q_iload_n hC 1 dX9_isNumber_19 rfl rfl ?_
      refine q_ic_ge hC 27 dX9_isNumber_20 rfl (fun h3 => ?_) (fun h3 => ?_)
      · have hx := gi_p h3 hx
        refine q_iconst hC 0 dX9_isNumber_27 rfl ?_
        exact q_zret hC hF dX9_isNumber_28 (Or.inl rfl) (congrArg (fun z => (z, M)) (Option.some.inj hx))
      · have hx := gi_n h3 hx
        refine q_iconst hC 1 dX9_isNumber_23 rfl ?_
        refine q_goto hC 28 dX9_isNumber_24 rfl ?_
        exact q_zret hC hF dX9_isNumber_28 (Or.inr rfl) (congrArg (fun z => (z, M)) (Option.some.inj hx))

theorem dX9_endOfRun_0 : decode cX9_endOfRun 0 = .ok (.iload_n 1, 1) := by decide +kernel
theorem dX9_endOfRun_1 : decode cX9_endOfRun 1 = .ok (.istore 4, 2) := by decide +kernel
theorem dX9_endOfRun_3 : decode cX9_endOfRun 3 = .ok (.iload 4, 2) := by decide +kernel
theorem dX9_endOfRun_5 : decode cX9_endOfRun 5 = .ok (.aload_n 0, 1) := by decide +kernel
theorem dX9_endOfRun_6 : decode cX9_endOfRun 6 = .ok (.getfield 15, 3) := by decide +kernel
theorem dX9_endOfRun_9 : decode cX9_endOfRun 9 = .ok (.if_icmp .ge 31, 3) := by decide +kernel
theorem dX9_endOfRun_12 : decode cX9_endOfRun 12 = .ok (.aload_n 0, 1) := by decide +kernel
theorem dX9_endOfRun_13 : decode cX9_endOfRun 13 = .ok (.getfield 9, 3) := by decide +kernel
theorem dX9_endOfRun_16 : decode cX9_endOfRun 16 = .ok (.iload 4, 2) := by decide +kernel
theorem dX9_endOfRun_18 : decode cX9_endOfRun 18 = .ok (.iaload, 1) := by decide +kernel
theorem dX9_endOfRun_19 : decode cX9_endOfRun 19 = .ok (.iload_n 2, 1) := by decide +kernel
theorem dX9_endOfRun_20 : decode cX9_endOfRun 20 = .ok (.if_icmp .lt 20, 3) := by decide +kernel
theorem dX9_endOfRun_23 : decode cX9_endOfRun 23 = .ok (.aload_n 0, 1) := by decide +kernel
theorem dX9_endOfRun_24 : decode cX9_endOfRun 24 = .ok (.getfield 9, 3) := by decide +kernel
theorem dX9_endOfRun_27 : decode cX9_endOfRun 27 = .ok (.iload 4, 2) := by decide +kernel
theorem dX9_endOfRun_29 : decode cX9_endOfRun 29 = .ok (.iaload, 1) := by decide +kernel
theorem dX9_endOfRun_30 : decode cX9_endOfRun 30 = .ok (.iload_n 3, 1) := by decide +kernel
theorem dX9_endOfRun_31 : decode cX9_endOfRun 31 = .ok (.if_icmp .gt 9, 3) := by decide +kernel
theorem dX9_endOfRun_34 : decode cX9_endOfRun 34 = .ok (.iinc 4 1, 3) := by decide +kernel
theorem dX9_endOfRun_37 : decode cX9_endOfRun 37 = .ok (.goto (-34), 3) := by decide +kernel
theorem dX9_endOfRun_40 : decode cX9_endOfRun 40 = .ok (.iload 4, 2) := by decide +kernel
theorem dX9_endOfRun_42 : decode cX9_endOfRun 42 = .ok (.ireturn, 1) := by decide +kernel
def s_X9_endOfRun_3 (M : gMem) (a2 : Int32) (a3 : Int32) (b4 : Int32) : Option (Int32 ⊕ Int32) := (if (M.1 0 36 1) ≤ b4 then some (.inr b4) else gd (gin b4 150) ((if (M.1 0 37 (b4).toNatClampNeg) < a2 then some (.inr b4) else gd (gin b4 150) ((if a3 < (M.1 0 37 (b4).toNatClampNeg) then some (.inr b4) else some (.inl (b4 + 1)))))))
def x_X9_endOfRun (M : gMem) (p1 : Int32) (p2 : Int32) (p3 : Int32) : Option Int32 := Option.bind (itr FU (fun s => s_X9_endOfRun_3 M p2 p3 s) p1) (fun e6 => some e6)
set_option maxRecDepth 100000 in
set_option maxHeartbeats 4000000 in
theorem w_X9_endOfRun_3 {X : gX} {Y : gY} {M : gMem} {a2 : Int32} {a3 : Int32} {r : Int32} (hC : gC X Y cX9_endOfRun "GuestStaff$Text" 5 0 0) (hF : gF X Y (some .int) (gQi Y (r, M))) {e : Int32} (kE : ∀ s : Int32, e = s → gWW X Y 5 40 [(4, .int s)] [] M) : ∀ (F : Nat) (s : Int32), itr F (fun s => s_X9_endOfRun_3 M a2 a3 s) s = some e → gWW X Y 5 3 [(0, .ref (gad Y 0 36)), (2, .int a2), (3, .int a3), (4, .int s)] [] M := by
  intro F s
  refine itr_w (P := fun s => gWW X Y 5 3 [(0, .ref (gad Y 0 36)), (2, .int a2), (3, .int a3), (4, .int s)] [] M) (fun s o hx kI kx => ?_) F s
  obtain ⟨b4, rfl⟩ : ∃ z, z = s := ⟨s, rfl⟩
  have hx : s_X9_endOfRun_3 M a2 a3 b4 = some o := hx
  have kE : ∀ s : Int32, o = .inr s → gWW X Y 5 40 [(4, .int s)] [] M := fun s q => kE s (kx _ q).symm
  unfold s_X9_endOfRun_3 at hx
  refine q_iload hC 3 dX9_endOfRun_3 rfl ?_
  refine q_aload_n hC 0 dX9_endOfRun_5 rfl rfl ?_
  refine gf_X9_15 hC dX9_endOfRun_6 ?_
  refine q_ic_ge hC 40 dX9_endOfRun_9 rfl (fun h1 => ?_) (fun h1 => ?_)
  · have hx := gi_p h1 hx
    exact q_sub [3] rfl (kE b4 (Option.some.inj hx).symm)
  · have hx := gi_n h1 hx
    refine q_aload_n hC 0 dX9_endOfRun_12 rfl rfl ?_
    refine gf_X9_9 hC dX9_endOfRun_13 ?_
    refine q_iload hC 3 dX9_endOfRun_16 rfl ?_
    have g2 := (gd_e hx).1
    have hx := (gd_e hx).2
    refine q_iald hC 149 (gV_t (by decide) (by decide)) rfl g2 dX9_endOfRun_18 ?_
    refine q_iload_n hC 1 dX9_endOfRun_19 rfl rfl ?_
    refine q_ic_lt hC 40 dX9_endOfRun_20 rfl (fun h3 => ?_) (fun h3 => ?_)
    · have hx := gi_p h3 hx
      exact q_sub [3] rfl (kE b4 (Option.some.inj hx).symm)
    · have hx := gi_n h3 hx
      refine q_aload_n hC 0 dX9_endOfRun_23 rfl rfl ?_
      refine gf_X9_9 hC dX9_endOfRun_24 ?_
      refine q_iload hC 3 dX9_endOfRun_27 rfl ?_
      have g4 := (gd_e hx).1
      have hx := (gd_e hx).2
      refine q_iald hC 149 (gV_t (by decide) (by decide)) rfl g4 dX9_endOfRun_29 ?_
      refine q_iload_n hC 2 dX9_endOfRun_30 rfl rfl ?_
      refine q_ic_gt hC 40 dX9_endOfRun_31 rfl (fun h5 => ?_) (fun h5 => ?_)
      · have hx := gi_p h5 hx
        exact q_sub [3] rfl (kE b4 (Option.some.inj hx).symm)
      · have hx := gi_n h5 hx
        refine q_iinc hC 3 1 [(4, .int (b4 + 1)), (0, .ref (gad Y 0 36)), (2, .int a2), (3, .int a3)] dX9_endOfRun_34 rfl rfl (by decide) rfl ?_
        refine q_goto hC 3 dX9_endOfRun_37 rfl ?_
        exact q_sub [1, 2, 3, 0] rfl (kI (b4 + 1) (Option.some.inj hx).symm)
set_option maxRecDepth 100000 in
set_option maxHeartbeats 4000000 in
theorem c_X9_endOfRun {l : Launch} {Y : gY} {M : gMem} {p1 : Int32} {p2 : Int32} {p3 : Int32} {r : Int32} (hx : x_X9_endOfRun M p1 p2 p3 = some r) : Met l yX9_endOfRun (gws yX9_endOfRun cX9_endOfRun 5 (some .int)) { frames := 0, cells := 0, slots := 0, locals := 0 } (va_Pc [.ref (gad Y 0 36), .int p1, .int p2, .int p3] (gS0 Y M)) (gQi Y (r, M)) 0 0 (gA Y) := by
  refine gmet (lv := [(0, .ref (gad Y 0 36)), (1, .int p1), (2, .int p2), (3, .int p3)]) "GuestStaff$Text" (by decide) rfl (Nat.le_of_ble_eq_true rfl) rfl (fun X hC hF => ?_)
  unfold x_X9_endOfRun at hx
  refine q_iload_n hC 1 dX9_endOfRun_0 rfl rfl ?_
  refine q_istore hC [(4, .int p1), (0, .ref (gad Y 0 36)), (1, .int p1), (2, .int p2), (3, .int p3)] dX9_endOfRun_1 (by decide) rfl ?_
  obtain ⟨e6, qe6, hx⟩ := gb_e hx
  refine q_sub [1, 3, 4, 0] rfl (w_X9_endOfRun_3 hC hF (e := e6) (fun s q => ?_) _ _ qe6)
  · subst q
    refine q_iload hC 0 dX9_endOfRun_40 rfl ?_
    exact q_iret hC hF dX9_endOfRun_42 (congrArg (fun z => (z, M)) (Option.some.inj hx))

theorem dX9_numberHere_0 : decode cX9_numberHere 0 = .ok (.iconst 0, 1) := by decide +kernel
theorem dX9_numberHere_1 : decode cX9_numberHere 1 = .ok (.istore_n 1, 1) := by decide +kernel
theorem dX9_numberHere_2 : decode cX9_numberHere 2 = .ok (.aload_n 0, 1) := by decide +kernel
theorem dX9_numberHere_3 : decode cX9_numberHere 3 = .ok (.getfield 19, 3) := by decide +kernel
theorem dX9_numberHere_6 : decode cX9_numberHere 6 = .ok (.istore_n 2, 1) := by decide +kernel
theorem dX9_numberHere_7 : decode cX9_numberHere 7 = .ok (.iload_n 2, 1) := by decide +kernel
theorem dX9_numberHere_8 : decode cX9_numberHere 8 = .ok (.aload_n 0, 1) := by decide +kernel
theorem dX9_numberHere_9 : decode cX9_numberHere 9 = .ok (.getfield 22, 3) := by decide +kernel
theorem dX9_numberHere_12 : decode cX9_numberHere 12 = .ok (.if_icmp .ge 24, 3) := by decide +kernel
theorem dX9_numberHere_15 : decode cX9_numberHere 15 = .ok (.bipush 10, 2) := by decide +kernel
theorem dX9_numberHere_17 : decode cX9_numberHere 17 = .ok (.iload_n 1, 1) := by decide +kernel
theorem dX9_numberHere_18 : decode cX9_numberHere 18 = .ok (.imul, 1) := by decide +kernel
theorem dX9_numberHere_19 : decode cX9_numberHere 19 = .ok (.aload_n 0, 1) := by decide +kernel
theorem dX9_numberHere_20 : decode cX9_numberHere 20 = .ok (.getfield 9, 3) := by decide +kernel
theorem dX9_numberHere_23 : decode cX9_numberHere 23 = .ok (.iload_n 2, 1) := by decide +kernel
theorem dX9_numberHere_24 : decode cX9_numberHere 24 = .ok (.iaload, 1) := by decide +kernel
theorem dX9_numberHere_25 : decode cX9_numberHere 25 = .ok (.iadd, 1) := by decide +kernel
theorem dX9_numberHere_26 : decode cX9_numberHere 26 = .ok (.bipush 48, 2) := by decide +kernel
theorem dX9_numberHere_28 : decode cX9_numberHere 28 = .ok (.isub, 1) := by decide +kernel
theorem dX9_numberHere_29 : decode cX9_numberHere 29 = .ok (.istore_n 1, 1) := by decide +kernel
theorem dX9_numberHere_30 : decode cX9_numberHere 30 = .ok (.iinc 2 1, 3) := by decide +kernel
theorem dX9_numberHere_33 : decode cX9_numberHere 33 = .ok (.goto (-26), 3) := by decide +kernel
theorem dX9_numberHere_36 : decode cX9_numberHere 36 = .ok (.iload_n 1, 1) := by decide +kernel
theorem dX9_numberHere_37 : decode cX9_numberHere 37 = .ok (.ireturn, 1) := by decide +kernel
def s_X9_numberHere_7 (M : gMem) (b1 : Int32) (b2 : Int32) : Option ((Int32 × Int32) ⊕ (Int32 × Int32)) := (if (M.1 0 36 3) ≤ b2 then some (.inr (b1, b2)) else gd (gin b2 150) (some (.inl (((10 * b1) + (M.1 0 37 (b2).toNatClampNeg)) - 48, b2 + 1))))
def x_X9_numberHere (M : gMem) : Option Int32 := Option.bind (itr FU (fun s => s_X9_numberHere_7 M s.1 s.2) (0, M.1 0 36 2)) (fun e3 => some e3.1)
set_option maxRecDepth 100000 in
set_option maxHeartbeats 4000000 in
theorem w_X9_numberHere_7 {X : gX} {Y : gY} {M : gMem} {r : Int32} (hC : gC X Y cX9_numberHere "GuestStaff$Text" 3 0 0) (hF : gF X Y (some .int) (gQi Y (r, M))) {e : (Int32 × Int32)} (kE : ∀ s : (Int32 × Int32), e = s → gWW X Y 3 36 [(1, .int s.1)] [] M) : ∀ (F : Nat) (s : (Int32 × Int32)), itr F (fun s => s_X9_numberHere_7 M s.1 s.2) s = some e → gWW X Y 3 7 [(0, .ref (gad Y 0 36)), (1, .int s.1), (2, .int s.2)] [] M := by
  intro F s
  refine itr_w (P := fun s => gWW X Y 3 7 [(0, .ref (gad Y 0 36)), (1, .int s.1), (2, .int s.2)] [] M) (fun s o hx kI kx => ?_) F s
  obtain ⟨b1, b2⟩ := s
  have hx : s_X9_numberHere_7 M b1 b2 = some o := hx
  have kE : ∀ s : (Int32 × Int32), o = .inr s → gWW X Y 3 36 [(1, .int s.1)] [] M := fun s q => kE s (kx _ q).symm
  unfold s_X9_numberHere_7 at hx
  refine q_iload_n hC 2 dX9_numberHere_7 rfl rfl ?_
  refine q_aload_n hC 0 dX9_numberHere_8 rfl rfl ?_
  refine gf_X9_22 hC dX9_numberHere_9 ?_
  refine q_ic_ge hC 36 dX9_numberHere_12 rfl (fun h1 => ?_) (fun h1 => ?_)
  · have hx := gi_p h1 hx
    exact q_sub [1] rfl (kE (b1, b2) (Option.some.inj hx).symm)
  · have hx := gi_n h1 hx
    refine q_bipush hC 10 dX9_numberHere_15 rfl ?_
    refine q_iload_n hC 1 dX9_numberHere_17 rfl rfl ?_
    refine q_imul hC dX9_numberHere_18 ?_
    refine q_aload_n hC 0 dX9_numberHere_19 rfl rfl ?_
    refine gf_X9_9 hC dX9_numberHere_20 ?_
    refine q_iload_n hC 2 dX9_numberHere_23 rfl rfl ?_
    have g2 := (gd_e hx).1
    have hx := (gd_e hx).2
    refine q_iald hC 149 (gV_t (by decide) (by decide)) rfl g2 dX9_numberHere_24 ?_
    refine q_iadd hC dX9_numberHere_25 ?_
    refine q_bipush hC 48 dX9_numberHere_26 rfl ?_
    refine q_isub hC dX9_numberHere_28 ?_
    refine q_istore_n hC [(1, .int (((10 * b1) + (M.1 0 37 (b2).toNatClampNeg)) - 48)), (0, .ref (gad Y 0 36)), (2, .int b2)] dX9_numberHere_29 rfl (by decide) rfl ?_
    refine q_iinc hC 2 1 [(2, .int (b2 + 1)), (1, .int (((10 * b1) + (M.1 0 37 (b2).toNatClampNeg)) - 48)), (0, .ref (gad Y 0 36))] dX9_numberHere_30 rfl rfl (by decide) rfl ?_
    refine q_goto hC 7 dX9_numberHere_33 rfl ?_
    exact q_sub [2, 1, 0] rfl (kI (((10 * b1) + (M.1 0 37 (b2).toNatClampNeg)) - 48, b2 + 1) (Option.some.inj hx).symm)
set_option maxRecDepth 100000 in
set_option maxHeartbeats 4000000 in
theorem c_X9_numberHere {l : Launch} {Y : gY} {M : gMem} {r : Int32} (hx : x_X9_numberHere M = some r) : Met l yX9_numberHere (gws yX9_numberHere cX9_numberHere 3 (some .int)) { frames := 0, cells := 0, slots := 0, locals := 0 } (va_Pc [.ref (gad Y 0 36)] (gS0 Y M)) (gQi Y (r, M)) 0 0 (gA Y) := by
  refine gmet (lv := [(0, .ref (gad Y 0 36))]) "GuestStaff$Text" (by decide) rfl (Nat.le_of_ble_eq_true rfl) rfl (fun X hC hF => ?_)
  unfold x_X9_numberHere at hx
  refine q_iconst hC 0 dX9_numberHere_0 rfl ?_
  refine q_istore_n hC [(1, .int 0), (0, .ref (gad Y 0 36))] dX9_numberHere_1 rfl (by decide) rfl ?_
  refine q_aload_n hC 1 dX9_numberHere_2 rfl rfl ?_
  refine gf_X9_19 hC dX9_numberHere_3 ?_
  refine q_istore_n hC [(2, .int (M.1 0 36 2)), (1, .int 0), (0, .ref (gad Y 0 36))] dX9_numberHere_6 rfl (by decide) rfl ?_
  obtain ⟨e3, qe3, hx⟩ := gb_e hx
  refine q_sub [2, 1, 0] rfl (w_X9_numberHere_7 hC hF (e := e3) (fun s q => ?_) _ _ qe3)
  · subst q
    refine q_iload_n hC 0 dX9_numberHere_36 rfl rfl ?_
    exact q_iret hC hF dX9_numberHere_37 (congrArg (fun z => (z, M)) (Option.some.inj hx))

theorem dX9_signHere_0 : decode cX9_signHere 0 = .ok (.aload_n 0, 1) := by decide +kernel
theorem dX9_signHere_1 : decode cX9_signHere 1 = .ok (.getfield 19, 3) := by decide +kernel
theorem dX9_signHere_4 : decode cX9_signHere 4 = .ok (.aload_n 0, 1) := by decide +kernel
theorem dX9_signHere_5 : decode cX9_signHere 5 = .ok (.getfield 15, 3) := by decide +kernel
theorem dX9_signHere_8 : decode cX9_signHere 8 = .ok (.if_icmp .lt 5, 3) := by decide +kernel
theorem dX9_signHere_11 : decode cX9_signHere 11 = .ok (.iconst 0, 1) := by decide +kernel
theorem dX9_signHere_12 : decode cX9_signHere 12 = .ok (.ireturn, 1) := by decide +kernel
theorem dX9_signHere_13 : decode cX9_signHere 13 = .ok (.aload_n 0, 1) := by decide +kernel
theorem dX9_signHere_14 : decode cX9_signHere 14 = .ok (.getfield 9, 3) := by decide +kernel
theorem dX9_signHere_17 : decode cX9_signHere 17 = .ok (.aload_n 0, 1) := by decide +kernel
theorem dX9_signHere_18 : decode cX9_signHere 18 = .ok (.getfield 19, 3) := by decide +kernel
theorem dX9_signHere_21 : decode cX9_signHere 21 = .ok (.iaload, 1) := by decide +kernel
theorem dX9_signHere_22 : decode cX9_signHere 22 = .ok (.bipush 59, 2) := by decide +kernel
theorem dX9_signHere_24 : decode cX9_signHere 24 = .ok (.if_icmp .ne 7, 3) := by decide +kernel
theorem dX9_signHere_27 : decode cX9_signHere 27 = .ok (.iconst 3, 1) := by decide +kernel
theorem dX9_signHere_28 : decode cX9_signHere 28 = .ok (.goto 4, 3) := by decide +kernel
theorem dX9_signHere_31 : decode cX9_signHere 31 = .ok (.iconst 4, 1) := by decide +kernel
theorem dX9_signHere_32 : decode cX9_signHere 32 = .ok (.ireturn, 1) := by decide +kernel
def x_X9_signHere (M : gMem) : Option Int32 := (if (M.1 0 36 2) < (M.1 0 36 1) then gd (gin (M.1 0 36 2) 150) ((if (M.1 0 37 (M.1 0 36 2).toNatClampNeg) = 59 then some 3 else some 4)) else some 0)
set_option maxRecDepth 100000 in
set_option maxHeartbeats 4000000 in
theorem c_X9_signHere {l : Launch} {Y : gY} {M : gMem} {r : Int32} (hx : x_X9_signHere M = some r) : Met l yX9_signHere (gws yX9_signHere cX9_signHere 1 (some .int)) { frames := 0, cells := 0, slots := 0, locals := 0 } (va_Pc [.ref (gad Y 0 36)] (gS0 Y M)) (gQi Y (r, M)) 0 0 (gA Y) := by
  refine gmet (lv := [(0, .ref (gad Y 0 36))]) "GuestStaff$Text" (by decide) rfl (Nat.le_of_ble_eq_true rfl) rfl (fun X hC hF => ?_)
  unfold x_X9_signHere at hx
  refine q_aload_n hC 0 dX9_signHere_0 rfl rfl ?_
  refine gf_X9_19 hC dX9_signHere_1 ?_
  refine q_aload_n hC 0 dX9_signHere_4 rfl rfl ?_
  refine gf_X9_15 hC dX9_signHere_5 ?_
  refine q_ic_lt hC 13 dX9_signHere_8 rfl (fun h1 => ?_) (fun h1 => ?_)
  · have hx := gi_p h1 hx
    refine q_aload_n hC 0 dX9_signHere_13 rfl rfl ?_
    refine gf_X9_9 hC dX9_signHere_14 ?_
    refine q_aload_n hC 0 dX9_signHere_17 rfl rfl ?_
    refine gf_X9_19 hC dX9_signHere_18 ?_
    have g2 := (gd_e hx).1
    have hx := (gd_e hx).2
    refine q_iald hC 149 (gV_t (by decide) (by decide)) rfl g2 dX9_signHere_21 ?_
    refine q_bipush hC 59 dX9_signHere_22 rfl ?_
    refine q_ic_ne hC 31 dX9_signHere_24 rfl (fun h3 => ?_) (fun h3 => ?_)
    · have hx := gi_n h3 hx
      refine q_iconst hC 4 dX9_signHere_31 rfl ?_
      exact q_iret hC hF dX9_signHere_32 (congrArg (fun z => (z, M)) (Option.some.inj hx))
    · have hx := gi_p h3 hx
      refine q_iconst hC 3 dX9_signHere_27 rfl ?_
      refine q_goto hC 32 dX9_signHere_28 rfl ?_
      exact q_iret hC hF dX9_signHere_32 (congrArg (fun z => (z, M)) (Option.some.inj hx))
  · have hx := gi_n h1 hx
    refine q_iconst hC 0 dX9_signHere_11 rfl ?_
    exact q_iret hC hF dX9_signHere_12 (congrArg (fun z => (z, M)) (Option.some.inj hx))

theorem dX9_step_0 : decode cX9_step 0 = .ok (.aload_n 0, 1) := by decide +kernel
theorem dX9_step_1 : decode cX9_step 1 = .ok (.aload_n 0, 1) := by decide +kernel
theorem dX9_step_2 : decode cX9_step 2 = .ok (.aload_n 0, 1) := by decide +kernel
theorem dX9_step_3 : decode cX9_step 3 = .ok (.getfield 22, 3) := by decide +kernel
theorem dX9_step_6 : decode cX9_step 6 = .ok (.bipush 32, 2) := by decide +kernel
theorem dX9_step_8 : decode cX9_step 8 = .ok (.bipush 32, 2) := by decide +kernel
theorem dX9_step_10 : decode cX9_step 10 = .ok (.invokevirtual 89, 3) := by decide +kernel
theorem dX9_step_13 : decode cX9_step 13 = .ok (.putfield 19, 3) := by decide +kernel
theorem dX9_step_16 : decode cX9_step 16 = .ok (.aload_n 0, 1) := by decide +kernel
theorem dX9_step_17 : decode cX9_step 17 = .ok (.aload_n 0, 1) := by decide +kernel
theorem dX9_step_18 : decode cX9_step 18 = .ok (.aload_n 0, 1) := by decide +kernel
theorem dX9_step_19 : decode cX9_step 19 = .ok (.getfield 19, 3) := by decide +kernel
theorem dX9_step_22 : decode cX9_step 22 = .ok (.bipush 97, 2) := by decide +kernel
theorem dX9_step_24 : decode cX9_step 24 = .ok (.bipush 122, 2) := by decide +kernel
theorem dX9_step_26 : decode cX9_step 26 = .ok (.invokevirtual 89, 3) := by decide +kernel
theorem dX9_step_29 : decode cX9_step 29 = .ok (.putfield 22, 3) := by decide +kernel
theorem dX9_step_32 : decode cX9_step 32 = .ok (.aload_n 0, 1) := by decide +kernel
theorem dX9_step_33 : decode cX9_step 33 = .ok (.getfield 22, 3) := by decide +kernel
theorem dX9_step_36 : decode cX9_step 36 = .ok (.aload_n 0, 1) := by decide +kernel
theorem dX9_step_37 : decode cX9_step 37 = .ok (.getfield 19, 3) := by decide +kernel
theorem dX9_step_40 : decode cX9_step 40 = .ok (.if_icmp .le 9, 3) := by decide +kernel
theorem dX9_step_43 : decode cX9_step 43 = .ok (.aload_n 0, 1) := by decide +kernel
theorem dX9_step_44 : decode cX9_step 44 = .ok (.iconst 1, 1) := by decide +kernel
theorem dX9_step_45 : decode cX9_step 45 = .ok (.putfield 25, 3) := by decide +kernel
theorem dX9_step_48 : decode cX9_step 48 = .ok (.return_, 1) := by decide +kernel
theorem dX9_step_49 : decode cX9_step 49 = .ok (.aload_n 0, 1) := by decide +kernel
theorem dX9_step_50 : decode cX9_step 50 = .ok (.aload_n 0, 1) := by decide +kernel
theorem dX9_step_51 : decode cX9_step 51 = .ok (.aload_n 0, 1) := by decide +kernel
theorem dX9_step_52 : decode cX9_step 52 = .ok (.getfield 19, 3) := by decide +kernel
theorem dX9_step_55 : decode cX9_step 55 = .ok (.bipush 48, 2) := by decide +kernel
theorem dX9_step_57 : decode cX9_step 57 = .ok (.bipush 57, 2) := by decide +kernel
theorem dX9_step_59 : decode cX9_step 59 = .ok (.invokevirtual 89, 3) := by decide +kernel
theorem dX9_step_62 : decode cX9_step 62 = .ok (.putfield 22, 3) := by decide +kernel
theorem dX9_step_65 : decode cX9_step 65 = .ok (.aload_n 0, 1) := by decide +kernel
theorem dX9_step_66 : decode cX9_step 66 = .ok (.getfield 22, 3) := by decide +kernel
theorem dX9_step_69 : decode cX9_step 69 = .ok (.aload_n 0, 1) := by decide +kernel
theorem dX9_step_70 : decode cX9_step 70 = .ok (.getfield 19, 3) := by decide +kernel
theorem dX9_step_73 : decode cX9_step 73 = .ok (.if_icmp .le 34, 3) := by decide +kernel
theorem dX9_step_76 : decode cX9_step 76 = .ok (.aload_n 0, 1) := by decide +kernel
theorem dX9_step_77 : decode cX9_step 77 = .ok (.iconst 2, 1) := by decide +kernel
theorem dX9_step_78 : decode cX9_step 78 = .ok (.putfield 25, 3) := by decide +kernel
theorem dX9_step_81 : decode cX9_step 81 = .ok (.aload_n 0, 1) := by decide +kernel
theorem dX9_step_82 : decode cX9_step 82 = .ok (.aload_n 0, 1) := by decide +kernel
theorem dX9_step_83 : decode cX9_step 83 = .ok (.getfield 22, 3) := by decide +kernel
theorem dX9_step_86 : decode cX9_step 86 = .ok (.aload_n 0, 1) := by decide +kernel
theorem dX9_step_87 : decode cX9_step 87 = .ok (.getfield 19, 3) := by decide +kernel
theorem dX9_step_90 : decode cX9_step 90 = .ok (.isub, 1) := by decide +kernel
theorem dX9_step_91 : decode cX9_step 91 = .ok (.iconst 2, 1) := by decide +kernel
theorem dX9_step_92 : decode cX9_step 92 = .ok (.if_icmp .le 7, 3) := by decide +kernel
theorem dX9_step_95 : decode cX9_step 95 = .ok (.iconst (-1), 1) := by decide +kernel
theorem dX9_step_96 : decode cX9_step 96 = .ok (.goto 7, 3) := by decide +kernel
theorem dX9_step_99 : decode cX9_step 99 = .ok (.aload_n 0, 1) := by decide +kernel
theorem dX9_step_100 : decode cX9_step 100 = .ok (.invokevirtual 92, 3) := by decide +kernel
theorem dX9_step_103 : decode cX9_step 103 = .ok (.putfield 28, 3) := by decide +kernel
theorem dX9_step_106 : decode cX9_step 106 = .ok (.return_, 1) := by decide +kernel
theorem dX9_step_107 : decode cX9_step 107 = .ok (.aload_n 0, 1) := by decide +kernel
theorem dX9_step_108 : decode cX9_step 108 = .ok (.aload_n 0, 1) := by decide +kernel
theorem dX9_step_109 : decode cX9_step 109 = .ok (.invokevirtual 95, 3) := by decide +kernel
theorem dX9_step_112 : decode cX9_step 112 = .ok (.putfield 25, 3) := by decide +kernel
theorem dX9_step_115 : decode cX9_step 115 = .ok (.aload_n 0, 1) := by decide +kernel
theorem dX9_step_116 : decode cX9_step 116 = .ok (.aload_n 0, 1) := by decide +kernel
theorem dX9_step_117 : decode cX9_step 117 = .ok (.getfield 19, 3) := by decide +kernel
theorem dX9_step_120 : decode cX9_step 120 = .ok (.iconst 1, 1) := by decide +kernel
theorem dX9_step_121 : decode cX9_step 121 = .ok (.iadd, 1) := by decide +kernel
theorem dX9_step_122 : decode cX9_step 122 = .ok (.aload_n 0, 1) := by decide +kernel
theorem dX9_step_123 : decode cX9_step 123 = .ok (.getfield 15, 3) := by decide +kernel
theorem dX9_step_126 : decode cX9_step 126 = .ok (.invokestatic 98, 3) := by decide +kernel
theorem dX9_step_129 : decode cX9_step 129 = .ok (.putfield 22, 3) := by decide +kernel
theorem dX9_step_132 : decode cX9_step 132 = .ok (.return_, 1) := by decide +kernel
def j_X9_step_103 (M : gMem) (N : gMem) (t0 : Int32) : Option gMem := some (gwr N 0 36 5 t0)
def x_X9_step (M : gMem) : Option gMem := Option.bind (x_X9_endOfRun M (M.1 0 36 3) 32 32) (fun v1 => Option.bind (x_X9_endOfRun (gwr M 0 36 2 v1) ((gwr M 0 36 2 v1).1 0 36 2) 97 122) (fun v3 => (if ((gwr (gwr M 0 36 2 v1) 0 36 3 v3).1 0 36 3) ≤ ((gwr (gwr M 0 36 2 v1) 0 36 3 v3).1 0 36 2) then Option.bind (x_X9_endOfRun (gwr (gwr M 0 36 2 v1) 0 36 3 v3) ((gwr (gwr M 0 36 2 v1) 0 36 3 v3).1 0 36 2) 48 57) (fun v6 => (if ((gwr (gwr (gwr M 0 36 2 v1) 0 36 3 v3) 0 36 3 v6).1 0 36 3) ≤ ((gwr (gwr (gwr M 0 36 2 v1) 0 36 3 v3) 0 36 3 v6).1 0 36 2) then Option.bind (x_X9_signHere (gwr (gwr (gwr M 0 36 2 v1) 0 36 3 v3) 0 36 3 v6)) (fun v9 => some (gwr (gwr (gwr (gwr (gwr M 0 36 2 v1) 0 36 3 v3) 0 36 3 v6) 0 36 4 v9) 0 36 3 (if ((gwr (gwr (gwr (gwr M 0 36 2 v1) 0 36 3 v3) 0 36 3 v6) 0 36 4 v9).1 0 36 1) < (((gwr (gwr (gwr (gwr M 0 36 2 v1) 0 36 3 v3) 0 36 3 v6) 0 36 4 v9).1 0 36 2) + 1) then ((gwr (gwr (gwr (gwr M 0 36 2 v1) 0 36 3 v3) 0 36 3 v6) 0 36 4 v9).1 0 36 1) else (((gwr (gwr (gwr (gwr M 0 36 2 v1) 0 36 3 v3) 0 36 3 v6) 0 36 4 v9).1 0 36 2) + 1)))) else (if (((gwr (gwr (gwr (gwr M 0 36 2 v1) 0 36 3 v3) 0 36 3 v6) 0 36 4 2).1 0 36 3) - ((gwr (gwr (gwr (gwr M 0 36 2 v1) 0 36 3 v3) 0 36 3 v6) 0 36 4 2).1 0 36 2)) ≤ 2 then Option.bind (x_X9_numberHere (gwr (gwr (gwr (gwr M 0 36 2 v1) 0 36 3 v3) 0 36 3 v6) 0 36 4 2)) (fun v12 => j_X9_step_103 M (gwr (gwr (gwr (gwr M 0 36 2 v1) 0 36 3 v3) 0 36 3 v6) 0 36 4 2) v12) else j_X9_step_103 M (gwr (gwr (gwr (gwr M 0 36 2 v1) 0 36 3 v3) 0 36 3 v6) 0 36 4 2) (-1)))) else some (gwr (gwr (gwr M 0 36 2 v1) 0 36 3 v3) 0 36 4 1))))
set_option maxRecDepth 100000 in
set_option maxHeartbeats 4000000 in
theorem c_X9_step {l : Launch} {Y : gY} {M : gMem} {r : gMem} (hx : x_X9_step M = some r) : Met l yX9_step (gws yX9_step cX9_step 1 none) { frames := 1, cells := 0, slots := 0, locals := 40 } (va_Pc [.ref (gad Y 0 36)] (gS0 Y M)) (gQv Y r) 0 0 (gA Y) := by
  refine gmet (lv := [(0, .ref (gad Y 0 36))]) "GuestStaff$Text" (by decide) rfl (Nat.le_of_ble_eq_true rfl) rfl (fun X hC hF => ?_)
  have J103 : ∀ (N : gMem) (t0 : Int32) , j_X9_step_103 M N t0 = some r → gWW X Y 1 103 [] [.int t0, .ref (gad Y 0 36)] N := by
    intro N t0 hx
    unfold j_X9_step_103 at hx
    refine pf_X9_28 hC dX9_step_103 ?_
    exact q_vret hC hF dX9_step_106 (Option.some.inj hx)
  unfold x_X9_step at hx
  refine q_aload_n hC 0 dX9_step_0 rfl rfl ?_
  refine q_aload_n hC 0 dX9_step_1 rfl rfl ?_
  refine q_aload_n hC 0 dX9_step_2 rfl rfl ?_
  refine gf_X9_22 hC dX9_step_3 ?_
  refine q_bipush hC 32 dX9_step_6 rfl ?_
  refine q_bipush hC 32 dX9_step_8 rfl ?_
  obtain ⟨v1, q2, hx⟩ := gb_e hx
  refine q_kip (q_rV (As := [.int (M.1 0 36 3), .int 32, .int 32]) (rest := [.ref (gad Y 0 36)]) hC mm_X9_endOfRun wM_X9_89 (c_X9_endOfRun q2) ⟨rfl, rfl, Nat.le_of_ble_eq_true rfl, Nat.le_of_ble_eq_true rfl⟩ (gV_t (by decide) (by decide)) rfl rfl rfl rfl (Nat.le_of_ble_eq_true rfl) dX9_step_10) ?_
  refine pf_X9_19 hC dX9_step_13 ?_
  refine q_aload_n hC 0 dX9_step_16 rfl rfl ?_
  refine q_aload_n hC 0 dX9_step_17 rfl rfl ?_
  refine q_aload_n hC 0 dX9_step_18 rfl rfl ?_
  refine gf_X9_19 hC dX9_step_19 ?_
  refine q_bipush hC 97 dX9_step_22 rfl ?_
  refine q_bipush hC 122 dX9_step_24 rfl ?_
  obtain ⟨v3, q4, hx⟩ := gb_e hx
  refine q_kip (q_rV (As := [.int ((gwr M 0 36 2 v1).1 0 36 2), .int 97, .int 122]) (rest := [.ref (gad Y 0 36)]) hC mm_X9_endOfRun wM_X9_89 (c_X9_endOfRun q4) ⟨rfl, rfl, Nat.le_of_ble_eq_true rfl, Nat.le_of_ble_eq_true rfl⟩ (gV_t (by decide) (by decide)) rfl rfl rfl rfl (Nat.le_of_ble_eq_true rfl) dX9_step_26) ?_
  refine pf_X9_22 hC dX9_step_29 ?_
  refine q_aload_n hC 0 dX9_step_32 rfl rfl ?_
  refine gf_X9_22 hC dX9_step_33 ?_
  refine q_aload_n hC 0 dX9_step_36 rfl rfl ?_
  refine gf_X9_19 hC dX9_step_37 ?_
  refine q_ic_le hC 49 dX9_step_40 rfl (fun h5 => ?_) (fun h5 => ?_)
  · have hx := gi_p h5 hx
    refine q_aload_n hC 0 dX9_step_49 rfl rfl ?_
    refine q_aload_n hC 0 dX9_step_50 rfl rfl ?_
    refine q_aload_n hC 0 dX9_step_51 rfl rfl ?_
    refine gf_X9_19 hC dX9_step_52 ?_
    refine q_bipush hC 48 dX9_step_55 rfl ?_
    refine q_bipush hC 57 dX9_step_57 rfl ?_
    obtain ⟨v6, q7, hx⟩ := gb_e hx
    refine q_kip (q_rV (As := [.int ((gwr (gwr M 0 36 2 v1) 0 36 3 v3).1 0 36 2), .int 48, .int 57]) (rest := [.ref (gad Y 0 36)]) hC mm_X9_endOfRun wM_X9_89 (c_X9_endOfRun q7) ⟨rfl, rfl, Nat.le_of_ble_eq_true rfl, Nat.le_of_ble_eq_true rfl⟩ (gV_t (by decide) (by decide)) rfl rfl rfl rfl (Nat.le_of_ble_eq_true rfl) dX9_step_59) ?_
    refine pf_X9_22 hC dX9_step_62 ?_
    refine q_aload_n hC 0 dX9_step_65 rfl rfl ?_
    refine gf_X9_22 hC dX9_step_66 ?_
    refine q_aload_n hC 0 dX9_step_69 rfl rfl ?_
    refine gf_X9_19 hC dX9_step_70 ?_
    refine q_ic_le hC 107 dX9_step_73 rfl (fun h8 => ?_) (fun h8 => ?_)
    · have hx := gi_p h8 hx
      refine q_aload_n hC 0 dX9_step_107 rfl rfl ?_
      refine q_aload_n hC 0 dX9_step_108 rfl rfl ?_
      obtain ⟨v9, q10, hx⟩ := gb_e hx
      refine q_kip (q_rV (As := []) (rest := [.ref (gad Y 0 36)]) hC mm_X9_signHere wM_X9_95 (c_X9_signHere q10) ⟨rfl, rfl, Nat.le_of_ble_eq_true rfl, Nat.le_of_ble_eq_true rfl⟩ (gV_t (by decide) (by decide)) rfl rfl rfl rfl (Nat.le_of_ble_eq_true rfl) dX9_step_109) ?_
      refine pf_X9_25 hC dX9_step_112 ?_
      refine q_aload_n hC 0 dX9_step_115 rfl rfl ?_
      refine q_aload_n hC 0 dX9_step_116 rfl rfl ?_
      refine gf_X9_19 hC dX9_step_117 ?_
      refine q_iconst hC 1 dX9_step_120 rfl ?_
      refine q_iadd hC dX9_step_121 ?_
      refine q_aload_n hC 0 dX9_step_122 rfl rfl ?_
      refine gf_X9_15 hC dX9_step_123 ?_
      refine q_min hC wM_X9_98 (by decide) (Nat.le_of_ble_eq_true rfl) dX9_step_126 ?_
      refine pf_X9_22 hC dX9_step_129 ?_
      exact q_vret hC hF dX9_step_132 (Option.some.inj hx)
    · have hx := gi_n h8 hx
      refine q_aload_n hC 0 dX9_step_76 rfl rfl ?_
      refine q_iconst hC 2 dX9_step_77 rfl ?_
      refine pf_X9_25 hC dX9_step_78 ?_
      refine q_aload_n hC 0 dX9_step_81 rfl rfl ?_
      refine q_aload_n hC 0 dX9_step_82 rfl rfl ?_
      refine gf_X9_22 hC dX9_step_83 ?_
      refine q_aload_n hC 0 dX9_step_86 rfl rfl ?_
      refine gf_X9_19 hC dX9_step_87 ?_
      refine q_isub hC dX9_step_90 ?_
      refine q_iconst hC 2 dX9_step_91 rfl ?_
      refine q_ic_le hC 99 dX9_step_92 rfl (fun h11 => ?_) (fun h11 => ?_)
      · have hx := gi_p h11 hx
        refine q_aload_n hC 0 dX9_step_99 rfl rfl ?_
        obtain ⟨v12, q13, hx⟩ := gb_e hx
        refine q_kip (q_rV (As := []) (rest := [.ref (gad Y 0 36)]) hC mm_X9_numberHere wM_X9_92 (c_X9_numberHere q13) ⟨rfl, rfl, Nat.le_of_ble_eq_true rfl, Nat.le_of_ble_eq_true rfl⟩ (gV_t (by decide) (by decide)) rfl rfl rfl rfl (Nat.le_of_ble_eq_true rfl) dX9_step_100) ?_
        exact q_sub [] rfl (J103 (gwr (gwr (gwr (gwr M 0 36 2 v1) 0 36 3 v3) 0 36 3 v6) 0 36 4 2) v12 hx)
      · have hx := gi_n h11 hx
        refine q_iconst hC (-1) dX9_step_95 rfl ?_
        refine q_goto hC 103 dX9_step_96 rfl ?_
        exact q_sub [] rfl (J103 (gwr (gwr (gwr (gwr M 0 36 2 v1) 0 36 3 v3) 0 36 3 v6) 0 36 4 2) (-1) hx)
  · have hx := gi_n h5 hx
    refine q_aload_n hC 0 dX9_step_43 rfl rfl ?_
    refine q_iconst hC 1 dX9_step_44 rfl ?_
    refine pf_X9_25 hC dX9_step_45 ?_
    exact q_vret hC hF dX9_step_48 (Option.some.inj hx)

theorem dX9_stepToNumber_0 : decode cX9_stepToNumber 0 = .ok (.aload_n 0, 1) := by decide +kernel
theorem dX9_stepToNumber_1 : decode cX9_stepToNumber 1 = .ok (.invokevirtual 36, 3) := by decide +kernel
theorem dX9_stepToNumber_4 : decode cX9_stepToNumber 4 = .ok (.aload_n 0, 1) := by decide +kernel
theorem dX9_stepToNumber_5 : decode cX9_stepToNumber 5 = .ok (.iload_n 1, 1) := by decide +kernel
theorem dX9_stepToNumber_6 : decode cX9_stepToNumber 6 = .ok (.invokevirtual 70, 3) := by decide +kernel
theorem dX9_stepToNumber_9 : decode cX9_stepToNumber 9 = .ok (.ireturn, 1) := by decide +kernel
def x_X9_stepToNumber (M : gMem) (p1 : Int32) : Option (Int32 × gMem) := Option.bind (x_X9_step M) (fun v1 => Option.bind (x_X9_isNumber v1 p1) (fun v3 => some (v3, v1)))
set_option maxRecDepth 100000 in
set_option maxHeartbeats 4000000 in
theorem c_X9_stepToNumber {l : Launch} {Y : gY} {M : gMem} {p1 : Int32} {r : (Int32 × gMem)} (hx : x_X9_stepToNumber M p1 = some r) : Met l yX9_stepToNumber (gws yX9_stepToNumber cX9_stepToNumber 2 (some .boolean)) { frames := 2, cells := 0, slots := 0, locals := 60 } (va_Pc [.ref (gad Y 0 36), .int p1] (gS0 Y M)) (gQz Y r) 0 0 (gA Y) := by
  refine gmet (lv := [(0, .ref (gad Y 0 36)), (1, .int p1)]) "GuestStaff$Text" (by decide) rfl (Nat.le_of_ble_eq_true rfl) rfl (fun X hC hF => ?_)
  unfold x_X9_stepToNumber at hx
  refine q_aload_n hC 0 dX9_stepToNumber_0 rfl rfl ?_
  obtain ⟨v1, q2, hx⟩ := gb_e hx
  refine q_kv (q_rV (As := []) (rest := []) hC mm_X9_step wM_X9_36 (c_X9_step q2) ⟨rfl, rfl, Nat.le_of_ble_eq_true rfl, Nat.le_of_ble_eq_true rfl⟩ (gV_t (by decide) (by decide)) rfl rfl rfl rfl (Nat.le_of_ble_eq_true rfl) dX9_stepToNumber_1) ?_
  refine q_aload_n hC 0 dX9_stepToNumber_4 rfl rfl ?_
  refine q_iload_n hC 1 dX9_stepToNumber_5 rfl rfl ?_
  obtain ⟨v3, q4, hx⟩ := gb_e hx
  refine q_kzp (q_rV (As := [.int p1]) (rest := []) hC mm_X9_isNumber wM_X9_70 (c_X9_isNumber q4) ⟨rfl, rfl, Nat.le_of_ble_eq_true rfl, Nat.le_of_ble_eq_true rfl⟩ (gV_t (by decide) (by decide)) rfl rfl rfl rfl (Nat.le_of_ble_eq_true rfl) dX9_stepToNumber_6) (fun z5 => ?_)
  exact q_zret hC hF dX9_stepToNumber_9 z5 (Option.some.inj hx)

theorem dX9_stepToStop_0 : decode cX9_stepToStop 0 = .ok (.aload_n 0, 1) := by decide +kernel
theorem dX9_stepToStop_1 : decode cX9_stepToStop 1 = .ok (.invokevirtual 36, 3) := by decide +kernel
theorem dX9_stepToStop_4 : decode cX9_stepToStop 4 = .ok (.aload_n 0, 1) := by decide +kernel
theorem dX9_stepToStop_5 : decode cX9_stepToStop 5 = .ok (.getfield 25, 3) := by decide +kernel
theorem dX9_stepToStop_8 : decode cX9_stepToStop 8 = .ok (.iconst 3, 1) := by decide +kernel
theorem dX9_stepToStop_9 : decode cX9_stepToStop 9 = .ok (.if_icmp .ne 7, 3) := by decide +kernel
theorem dX9_stepToStop_12 : decode cX9_stepToStop 12 = .ok (.iconst 1, 1) := by decide +kernel
theorem dX9_stepToStop_13 : decode cX9_stepToStop 13 = .ok (.goto 4, 3) := by decide +kernel
theorem dX9_stepToStop_16 : decode cX9_stepToStop 16 = .ok (.iconst 0, 1) := by decide +kernel
theorem dX9_stepToStop_17 : decode cX9_stepToStop 17 = .ok (.ireturn, 1) := by decide +kernel
def x_X9_stepToStop (M : gMem) : Option (Int32 × gMem) := Option.bind (x_X9_step M) (fun v1 => (if (v1.1 0 36 4) = 3 then some (1, v1) else some (0, v1)))
set_option maxRecDepth 100000 in
set_option maxHeartbeats 4000000 in
theorem c_X9_stepToStop {l : Launch} {Y : gY} {M : gMem} {r : (Int32 × gMem)} (hx : x_X9_stepToStop M = some r) : Met l yX9_stepToStop (gws yX9_stepToStop cX9_stepToStop 1 (some .boolean)) { frames := 2, cells := 0, slots := 0, locals := 60 } (va_Pc [.ref (gad Y 0 36)] (gS0 Y M)) (gQz Y r) 0 0 (gA Y) := by
  refine gmet (lv := [(0, .ref (gad Y 0 36))]) "GuestStaff$Text" (by decide) rfl (Nat.le_of_ble_eq_true rfl) rfl (fun X hC hF => ?_)
  unfold x_X9_stepToStop at hx
  refine q_aload_n hC 0 dX9_stepToStop_0 rfl rfl ?_
  obtain ⟨v1, q2, hx⟩ := gb_e hx
  refine q_kv (q_rV (As := []) (rest := []) hC mm_X9_step wM_X9_36 (c_X9_step q2) ⟨rfl, rfl, Nat.le_of_ble_eq_true rfl, Nat.le_of_ble_eq_true rfl⟩ (gV_t (by decide) (by decide)) rfl rfl rfl rfl (Nat.le_of_ble_eq_true rfl) dX9_stepToStop_1) ?_
  refine q_aload_n hC 0 dX9_stepToStop_4 rfl rfl ?_
  refine gf_X9_25 hC dX9_stepToStop_5 ?_
  refine q_iconst hC 3 dX9_stepToStop_8 rfl ?_
  refine q_ic_ne hC 16 dX9_stepToStop_9 rfl (fun h3 => ?_) (fun h3 => ?_)
  · have hx := gi_n h3 hx
    refine q_iconst hC 0 dX9_stepToStop_16 rfl ?_
    exact q_zret hC hF dX9_stepToStop_17 (Or.inl rfl) (Option.some.inj hx)
  · have hx := gi_p h3 hx
    refine q_iconst hC 1 dX9_stepToStop_12 rfl ?_
    refine q_goto hC 17 dX9_stepToStop_13 rfl ?_
    exact q_zret hC hF dX9_stepToStop_17 (Or.inr rfl) (Option.some.inj hx)

theorem dX9_parseDuty_0 : decode cX9_parseDuty 0 = .ok (.aload_n 0, 1) := by decide +kernel
theorem dX9_parseDuty_1 : decode cX9_parseDuty 1 = .ok (.aload_n 1, 1) := by decide +kernel
theorem dX9_parseDuty_2 : decode cX9_parseDuty 2 = .ok (.getfield 55, 3) := by decide +kernel
theorem dX9_parseDuty_5 : decode cX9_parseDuty 5 = .ok (.invokevirtual 66, 3) := by decide +kernel
theorem dX9_parseDuty_8 : decode cX9_parseDuty 8 = .ok (.ifCond .ne 5, 3) := by decide +kernel
theorem dX9_parseDuty_11 : decode cX9_parseDuty 11 = .ok (.iconst 0, 1) := by decide +kernel
theorem dX9_parseDuty_12 : decode cX9_parseDuty 12 = .ok (.ireturn, 1) := by decide +kernel
theorem dX9_parseDuty_13 : decode cX9_parseDuty 13 = .ok (.aload_n 0, 1) := by decide +kernel
theorem dX9_parseDuty_14 : decode cX9_parseDuty 14 = .ok (.getfield 28, 3) := by decide +kernel
theorem dX9_parseDuty_17 : decode cX9_parseDuty 17 = .ok (.istore_n 2, 1) := by decide +kernel
theorem dX9_parseDuty_18 : decode cX9_parseDuty 18 = .ok (.aload_n 0, 1) := by decide +kernel
theorem dX9_parseDuty_19 : decode cX9_parseDuty 19 = .ok (.aload_n 1, 1) := by decide +kernel
theorem dX9_parseDuty_20 : decode cX9_parseDuty 20 = .ok (.getfield 55, 3) := by decide +kernel
theorem dX9_parseDuty_23 : decode cX9_parseDuty 23 = .ok (.invokevirtual 66, 3) := by decide +kernel
theorem dX9_parseDuty_26 : decode cX9_parseDuty 26 = .ok (.ifCond .eq 11, 3) := by decide +kernel
theorem dX9_parseDuty_29 : decode cX9_parseDuty 29 = .ok (.aload_n 0, 1) := by decide +kernel
theorem dX9_parseDuty_30 : decode cX9_parseDuty 30 = .ok (.getfield 28, 3) := by decide +kernel
theorem dX9_parseDuty_33 : decode cX9_parseDuty 33 = .ok (.iload_n 2, 1) := by decide +kernel
theorem dX9_parseDuty_34 : decode cX9_parseDuty 34 = .ok (.if_icmp .ne 5, 3) := by decide +kernel
theorem dX9_parseDuty_37 : decode cX9_parseDuty 37 = .ok (.iconst 0, 1) := by decide +kernel
theorem dX9_parseDuty_38 : decode cX9_parseDuty 38 = .ok (.ireturn, 1) := by decide +kernel
theorem dX9_parseDuty_39 : decode cX9_parseDuty 39 = .ok (.aload_n 1, 1) := by decide +kernel
theorem dX9_parseDuty_40 : decode cX9_parseDuty 40 = .ok (.getfield 77, 3) := by decide +kernel
theorem dX9_parseDuty_43 : decode cX9_parseDuty 43 = .ok (.iload_n 2, 1) := by decide +kernel
theorem dX9_parseDuty_44 : decode cX9_parseDuty 44 = .ok (.aload_n 0, 1) := by decide +kernel
theorem dX9_parseDuty_45 : decode cX9_parseDuty 45 = .ok (.getfield 28, 3) := by decide +kernel
theorem dX9_parseDuty_48 : decode cX9_parseDuty 48 = .ok (.iastore, 1) := by decide +kernel
theorem dX9_parseDuty_49 : decode cX9_parseDuty 49 = .ok (.aload_n 0, 1) := by decide +kernel
theorem dX9_parseDuty_50 : decode cX9_parseDuty 50 = .ok (.invokevirtual 45, 3) := by decide +kernel
theorem dX9_parseDuty_53 : decode cX9_parseDuty 53 = .ok (.ireturn, 1) := by decide +kernel
def x_X9_parseDuty (M : gMem) (d : Nat) : Option (Int32 × gMem) := Option.bind (x_X9_stepToNumber M (M.1 d 0 13)) (fun v1 => (if v1.1 = 0 then some (0, v1.2) else Option.bind (x_X9_stepToNumber v1.2 (v1.2.1 d 0 13)) (fun v5 => (if v5.1 = 0 then some (0, v5.2) else (if (v5.2.1 0 36 5) = (v1.2.1 0 36 5) then some (0, v5.2) else gd (gin (v1.2.1 0 36 5) 7) (Option.bind (x_X9_stepToStop (gwr v5.2 d 4 (v1.2.1 0 36 5).toNatClampNeg (v5.2.1 0 36 5))) (fun v11 => some (v11.1, v11.2))))))))
set_option maxRecDepth 100000 in
set_option maxHeartbeats 4000000 in
theorem c_X9_parseDuty {l : Launch} {Y : gY} {M : gMem} {d : Nat} {r : (Int32 × gMem)} (hd : d < 4) (hx : x_X9_parseDuty M d = some r) : Met l yX9_parseDuty (gws yX9_parseDuty cX9_parseDuty 3 (some .boolean)) { frames := 3, cells := 0, slots := 0, locals := 81 } (va_Pc [.ref (gad Y 0 36), .ref (gad Y d 0)] (gS0 Y M)) (gQz Y r) 0 0 (gA Y) := by
  refine gmet (lv := [(0, .ref (gad Y 0 36)), (1, .ref (gad Y d 0))]) "GuestStaff$Text" (by decide) rfl (Nat.le_of_ble_eq_true rfl) rfl (fun X hC hF => ?_)
  unfold x_X9_parseDuty at hx
  refine q_aload_n hC 0 dX9_parseDuty_0 rfl rfl ?_
  refine q_aload_n hC 1 dX9_parseDuty_1 rfl rfl ?_
  refine gf_X9_55 hC hd dX9_parseDuty_2 ?_
  obtain ⟨v1, q2, hx⟩ := gb_e hx
  refine q_kz (q_rV (As := [.int (M.1 d 0 13)]) (rest := []) hC mm_X9_stepToNumber wM_X9_66 (c_X9_stepToNumber q2) ⟨rfl, rfl, Nat.le_of_ble_eq_true rfl, Nat.le_of_ble_eq_true rfl⟩ (gV_t (by decide) (by decide)) rfl rfl rfl rfl (Nat.le_of_ble_eq_true rfl) dX9_parseDuty_5) (fun z3 => ?_)
  refine q_if_ne hC 13 dX9_parseDuty_8 rfl (fun h4 => ?_) (fun h4 => ?_)
  · have hx := gi_n h4 hx
    refine q_aload_n hC 0 dX9_parseDuty_13 rfl rfl ?_
    refine gf_X9_28 hC dX9_parseDuty_14 ?_
    refine q_istore_n hC [(2, .int (v1.2.1 0 36 5)), (0, .ref (gad Y 0 36)), (1, .ref (gad Y d 0))] dX9_parseDuty_17 rfl (by decide) rfl ?_
    refine q_aload_n hC 1 dX9_parseDuty_18 rfl rfl ?_
    refine q_aload_n hC 2 dX9_parseDuty_19 rfl rfl ?_
    refine gf_X9_55 hC hd dX9_parseDuty_20 ?_
    obtain ⟨v5, q6, hx⟩ := gb_e hx
    refine q_kz (q_rV (As := [.int (v1.2.1 d 0 13)]) (rest := []) hC mm_X9_stepToNumber wM_X9_66 (c_X9_stepToNumber q6) ⟨rfl, rfl, Nat.le_of_ble_eq_true rfl, Nat.le_of_ble_eq_true rfl⟩ (gV_t (by decide) (by decide)) rfl rfl rfl rfl (Nat.le_of_ble_eq_true rfl) dX9_parseDuty_23) (fun z7 => ?_)
    refine q_if_eq hC 37 dX9_parseDuty_26 rfl (fun h8 => ?_) (fun h8 => ?_)
    · have hx := gi_p h8 hx
      refine q_iconst hC 0 dX9_parseDuty_37 rfl ?_
      exact q_zret hC hF dX9_parseDuty_38 (Or.inl rfl) (Option.some.inj hx)
    · have hx := gi_n h8 hx
      refine q_aload_n hC 1 dX9_parseDuty_29 rfl rfl ?_
      refine gf_X9_28 hC dX9_parseDuty_30 ?_
      refine q_iload_n hC 0 dX9_parseDuty_33 rfl rfl ?_
      refine q_ic_ne hC 39 dX9_parseDuty_34 rfl (fun h9 => ?_) (fun h9 => ?_)
      · have hx := gi_n h9 hx
        refine q_aload_n hC 2 dX9_parseDuty_39 rfl rfl ?_
        refine gf_X9_77 hC hd dX9_parseDuty_40 ?_
        refine q_iload_n hC 0 dX9_parseDuty_43 rfl rfl ?_
        refine q_aload_n hC 1 dX9_parseDuty_44 rfl rfl ?_
        refine gf_X9_28 hC dX9_parseDuty_45 ?_
        have g10 := (gd_e hx).1
        have hx := (gd_e hx).2
        refine q_iast hC 6 (gV_h hd (by decide)) rfl g10 dX9_parseDuty_48 ?_
        refine q_aload_n hC 1 dX9_parseDuty_49 rfl rfl ?_
        obtain ⟨v11, q12, hx⟩ := gb_e hx
        refine q_kz (q_rV (As := []) (rest := []) hC mm_X9_stepToStop wM_X9_45 (c_X9_stepToStop q12) ⟨rfl, rfl, Nat.le_of_ble_eq_true rfl, Nat.le_of_ble_eq_true rfl⟩ (gV_t (by decide) (by decide)) rfl rfl rfl rfl (Nat.le_of_ble_eq_true rfl) dX9_parseDuty_50) (fun z13 => ?_)
        exact q_zret hC hF dX9_parseDuty_53 z13 (Option.some.inj hx)
      · have hx := gi_p h9 hx
        refine q_iconst hC 0 dX9_parseDuty_37 rfl ?_
        exact q_zret hC hF dX9_parseDuty_38 (Or.inl rfl) (Option.some.inj hx)
  · have hx := gi_p h4 hx
    refine q_iconst hC 0 dX9_parseDuty_11 rfl ?_
    exact q_zret hC hF dX9_parseDuty_12 (Or.inl rfl) (Option.some.inj hx)

theorem dX9_parseGuest_0 : decode cX9_parseGuest 0 = .ok (.aload_n 0, 1) := by decide +kernel
theorem dX9_parseGuest_1 : decode cX9_parseGuest 1 = .ok (.bipush 6, 2) := by decide +kernel
theorem dX9_parseGuest_3 : decode cX9_parseGuest 3 = .ok (.invokevirtual 66, 3) := by decide +kernel
theorem dX9_parseGuest_6 : decode cX9_parseGuest 6 = .ok (.ifCond .ne 5, 3) := by decide +kernel
theorem dX9_parseGuest_9 : decode cX9_parseGuest 9 = .ok (.iconst 0, 1) := by decide +kernel
theorem dX9_parseGuest_10 : decode cX9_parseGuest 10 = .ok (.ireturn, 1) := by decide +kernel
theorem dX9_parseGuest_11 : decode cX9_parseGuest 11 = .ok (.aload_n 0, 1) := by decide +kernel
theorem dX9_parseGuest_12 : decode cX9_parseGuest 12 = .ok (.getfield 28, 3) := by decide +kernel
theorem dX9_parseGuest_15 : decode cX9_parseGuest 15 = .ok (.istore_n 2, 1) := by decide +kernel
theorem dX9_parseGuest_16 : decode cX9_parseGuest 16 = .ok (.aload_n 0, 1) := by decide +kernel
theorem dX9_parseGuest_17 : decode cX9_parseGuest 17 = .ok (.bipush 8, 2) := by decide +kernel
theorem dX9_parseGuest_19 : decode cX9_parseGuest 19 = .ok (.invokevirtual 66, 3) := by decide +kernel
theorem dX9_parseGuest_22 : decode cX9_parseGuest 22 = .ok (.ifCond .ne 5, 3) := by decide +kernel
theorem dX9_parseGuest_25 : decode cX9_parseGuest 25 = .ok (.iconst 0, 1) := by decide +kernel
theorem dX9_parseGuest_26 : decode cX9_parseGuest 26 = .ok (.ireturn, 1) := by decide +kernel
theorem dX9_parseGuest_27 : decode cX9_parseGuest 27 = .ok (.aload_n 0, 1) := by decide +kernel
theorem dX9_parseGuest_28 : decode cX9_parseGuest 28 = .ok (.getfield 28, 3) := by decide +kernel
theorem dX9_parseGuest_31 : decode cX9_parseGuest 31 = .ok (.istore_n 3, 1) := by decide +kernel
theorem dX9_parseGuest_32 : decode cX9_parseGuest 32 = .ok (.iconst 0, 1) := by decide +kernel
theorem dX9_parseGuest_33 : decode cX9_parseGuest 33 = .ok (.istore 4, 2) := by decide +kernel
theorem dX9_parseGuest_35 : decode cX9_parseGuest 35 = .ok (.aload_n 0, 1) := by decide +kernel
theorem dX9_parseGuest_36 : decode cX9_parseGuest 36 = .ok (.invokevirtual 36, 3) := by decide +kernel
theorem dX9_parseGuest_39 : decode cX9_parseGuest 39 = .ok (.iconst 0, 1) := by decide +kernel
theorem dX9_parseGuest_40 : decode cX9_parseGuest 40 = .ok (.istore 5, 2) := by decide +kernel
theorem dX9_parseGuest_42 : decode cX9_parseGuest 42 = .ok (.iload 5, 2) := by decide +kernel
theorem dX9_parseGuest_44 : decode cX9_parseGuest 44 = .ok (.sipush 150, 3) := by decide +kernel
theorem dX9_parseGuest_47 : decode cX9_parseGuest 47 = .ok (.if_icmp .ge 33, 3) := by decide +kernel
theorem dX9_parseGuest_50 : decode cX9_parseGuest 50 = .ok (.aload_n 0, 1) := by decide +kernel
theorem dX9_parseGuest_51 : decode cX9_parseGuest 51 = .ok (.bipush 8, 2) := by decide +kernel
theorem dX9_parseGuest_53 : decode cX9_parseGuest 53 = .ok (.invokevirtual 70, 3) := by decide +kernel
theorem dX9_parseGuest_56 : decode cX9_parseGuest 56 = .ok (.ifCond .eq 24, 3) := by decide +kernel
theorem dX9_parseGuest_59 : decode cX9_parseGuest 59 = .ok (.iload 4, 2) := by decide +kernel
theorem dX9_parseGuest_61 : decode cX9_parseGuest 61 = .ok (.iconst 1, 1) := by decide +kernel
theorem dX9_parseGuest_62 : decode cX9_parseGuest 62 = .ok (.aload_n 0, 1) := by decide +kernel
theorem dX9_parseGuest_63 : decode cX9_parseGuest 63 = .ok (.getfield 28, 3) := by decide +kernel
theorem dX9_parseGuest_66 : decode cX9_parseGuest 66 = .ok (.ishl, 1) := by decide +kernel
theorem dX9_parseGuest_67 : decode cX9_parseGuest 67 = .ok (.ior, 1) := by decide +kernel
theorem dX9_parseGuest_68 : decode cX9_parseGuest 68 = .ok (.istore 4, 2) := by decide +kernel
theorem dX9_parseGuest_70 : decode cX9_parseGuest 70 = .ok (.aload_n 0, 1) := by decide +kernel
theorem dX9_parseGuest_71 : decode cX9_parseGuest 71 = .ok (.invokevirtual 36, 3) := by decide +kernel
theorem dX9_parseGuest_74 : decode cX9_parseGuest 74 = .ok (.iinc 5 1, 3) := by decide +kernel
theorem dX9_parseGuest_77 : decode cX9_parseGuest 77 = .ok (.goto (-35), 3) := by decide +kernel
theorem dX9_parseGuest_80 : decode cX9_parseGuest 80 = .ok (.aload_n 0, 1) := by decide +kernel
theorem dX9_parseGuest_81 : decode cX9_parseGuest 81 = .ok (.getfield 25, 3) := by decide +kernel
theorem dX9_parseGuest_84 : decode cX9_parseGuest 84 = .ok (.iconst 3, 1) := by decide +kernel
theorem dX9_parseGuest_85 : decode cX9_parseGuest 85 = .ok (.if_icmp .eq 5, 3) := by decide +kernel
theorem dX9_parseGuest_88 : decode cX9_parseGuest 88 = .ok (.iconst 0, 1) := by decide +kernel
theorem dX9_parseGuest_89 : decode cX9_parseGuest 89 = .ok (.ireturn, 1) := by decide +kernel
theorem dX9_parseGuest_90 : decode cX9_parseGuest 90 = .ok (.aload_n 1, 1) := by decide +kernel
theorem dX9_parseGuest_91 : decode cX9_parseGuest 91 = .ok (.iload_n 2, 1) := by decide +kernel
theorem dX9_parseGuest_92 : decode cX9_parseGuest 92 = .ok (.iload_n 3, 1) := by decide +kernel
theorem dX9_parseGuest_93 : decode cX9_parseGuest 93 = .ok (.iload 4, 2) := by decide +kernel
theorem dX9_parseGuest_95 : decode cX9_parseGuest 95 = .ok (.invokevirtual 73, 3) := by decide +kernel
theorem dX9_parseGuest_98 : decode cX9_parseGuest 98 = .ok (.pop, 1) := by decide +kernel
theorem dX9_parseGuest_99 : decode cX9_parseGuest 99 = .ok (.iconst 1, 1) := by decide +kernel
theorem dX9_parseGuest_100 : decode cX9_parseGuest 100 = .ok (.ireturn, 1) := by decide +kernel
def s_X9_parseGuest_42 (d : Nat) (a2 : Int32) (a3 : Int32) (b4 : Int32) (b5 : Int32) (N : gMem) : Option ((Int32 × Int32 × gMem) ⊕ (Int32 × Int32 × gMem)) := (if 150 ≤ b5 then some (.inr (b4, b5, N)) else Option.bind (x_X9_isNumber N 8) (fun v12 => (if v12 = 0 then some (.inr (b4, b5, N)) else Option.bind (x_X9_step N) (fun v16 => some (.inl (b4 ||| (1 <<< ((N.1 0 36 5) &&& 31)), b5 + 1, v16))))))
def x_X9_parseGuest (M : gMem) (d : Nat) : Option (Int32 × gMem) := Option.bind (x_X9_stepToNumber M 6) (fun v1 => (if v1.1 = 0 then some (0, v1.2) else Option.bind (x_X9_stepToNumber v1.2 8) (fun v5 => (if v5.1 = 0 then some (0, v5.2) else Option.bind (x_X9_step v5.2) (fun v9 => Option.bind (itr FU (fun s => s_X9_parseGuest_42 d (v1.2.1 0 36 5) (v5.2.1 0 36 5) s.1 s.2.1 s.2.2) (0, 0, v9)) (fun e18 => (if (e18.2.2.1 0 36 4) = 3 then Option.bind (x_X1_admit e18.2.2 d (v1.2.1 0 36 5) (v5.2.1 0 36 5) e18.1) (fun v20 => some (1, v20.2)) else some (0, e18.2.2))))))))
set_option maxRecDepth 100000 in
set_option maxHeartbeats 4000000 in
theorem w_X9_parseGuest_42 {X : gX} {Y : gY} {d : Nat} {a2 : Int32} {a3 : Int32} {r : (Int32 × gMem)} (hC : gC X Y cX9_parseGuest "GuestStaff$Text" 6 3 81) (hF : gF X Y (some .boolean) (gQz Y r)) (hd : d < 4) {e : (Int32 × Int32 × gMem)} (kE : ∀ s : (Int32 × Int32 × gMem), e = s → gWW X Y 6 80 [(0, .ref (gad Y 0 36)), (1, .ref (gad Y d 0)), (2, .int a2), (3, .int a3), (4, .int s.1)] [] s.2.2) : ∀ (F : Nat) (s : (Int32 × Int32 × gMem)), itr F (fun s => s_X9_parseGuest_42 d a2 a3 s.1 s.2.1 s.2.2) s = some e → gWW X Y 6 42 [(0, .ref (gad Y 0 36)), (1, .ref (gad Y d 0)), (2, .int a2), (3, .int a3), (4, .int s.1), (5, .int s.2.1)] [] s.2.2 := by
  intro F s
  refine itr_w (P := fun s => gWW X Y 6 42 [(0, .ref (gad Y 0 36)), (1, .ref (gad Y d 0)), (2, .int a2), (3, .int a3), (4, .int s.1), (5, .int s.2.1)] [] s.2.2) (fun s o hx kI kx => ?_) F s
  obtain ⟨b4, b5, N⟩ := s
  have hx : s_X9_parseGuest_42 d a2 a3 b4 b5 N = some o := hx
  have kE : ∀ s : (Int32 × Int32 × gMem), o = .inr s → gWW X Y 6 80 [(0, .ref (gad Y 0 36)), (1, .ref (gad Y d 0)), (2, .int a2), (3, .int a3), (4, .int s.1)] [] s.2.2 := fun s q => kE s (kx _ q).symm
  unfold s_X9_parseGuest_42 at hx
  refine q_iload hC 5 dX9_parseGuest_42 rfl ?_
  refine q_sipush hC 150 dX9_parseGuest_44 rfl ?_
  refine q_ic_ge hC 80 dX9_parseGuest_47 rfl (fun h11 => ?_) (fun h11 => ?_)
  · have hx := gi_p h11 hx
    exact q_sub [0, 1, 2, 3, 4] rfl (kE (b4, b5, N) (Option.some.inj hx).symm)
  · have hx := gi_n h11 hx
    refine q_aload_n hC 0 dX9_parseGuest_50 rfl rfl ?_
    refine q_bipush hC 8 dX9_parseGuest_51 rfl ?_
    obtain ⟨v12, q13, hx⟩ := gb_e hx
    refine q_kzp (q_rV (As := [.int 8]) (rest := []) hC mm_X9_isNumber wM_X9_70 (c_X9_isNumber q13) ⟨rfl, rfl, Nat.le_of_ble_eq_true rfl, Nat.le_of_ble_eq_true rfl⟩ (gV_t (by decide) (by decide)) rfl rfl rfl rfl (Nat.le_of_ble_eq_true rfl) dX9_parseGuest_53) (fun z14 => ?_)
    refine q_if_eq hC 80 dX9_parseGuest_56 rfl (fun h15 => ?_) (fun h15 => ?_)
    · have hx := gi_p h15 hx
      exact q_sub [0, 1, 2, 3, 4] rfl (kE (b4, b5, N) (Option.some.inj hx).symm)
    · have hx := gi_n h15 hx
      refine q_iload hC 4 dX9_parseGuest_59 rfl ?_
      refine q_iconst hC 1 dX9_parseGuest_61 rfl ?_
      refine q_aload_n hC 0 dX9_parseGuest_62 rfl rfl ?_
      refine gf_X9_28 hC dX9_parseGuest_63 ?_
      refine q_ishl hC dX9_parseGuest_66 ?_
      refine q_ior hC dX9_parseGuest_67 ?_
      refine q_istore hC [(4, .int (b4 ||| (1 <<< ((N.1 0 36 5) &&& 31)))), (0, .ref (gad Y 0 36)), (1, .ref (gad Y d 0)), (2, .int a2), (3, .int a3), (5, .int b5)] dX9_parseGuest_68 (by decide) rfl ?_
      refine q_aload_n hC 1 dX9_parseGuest_70 rfl rfl ?_
      obtain ⟨v16, q17, hx⟩ := gb_e hx
      refine q_kv (q_rV (As := []) (rest := []) hC mm_X9_step wM_X9_36 (c_X9_step q17) ⟨rfl, rfl, Nat.le_of_ble_eq_true rfl, Nat.le_of_ble_eq_true rfl⟩ (gV_t (by decide) (by decide)) rfl rfl rfl rfl (Nat.le_of_ble_eq_true rfl) dX9_parseGuest_71) ?_
      refine q_iinc hC 5 1 [(5, .int (b5 + 1)), (4, .int (b4 ||| (1 <<< ((N.1 0 36 5) &&& 31)))), (0, .ref (gad Y 0 36)), (1, .ref (gad Y d 0)), (2, .int a2), (3, .int a3)] dX9_parseGuest_74 rfl rfl (by decide) rfl ?_
      refine q_goto hC 42 dX9_parseGuest_77 rfl ?_
      exact q_sub [2, 3, 4, 5, 1, 0] rfl (kI (b4 ||| (1 <<< ((N.1 0 36 5) &&& 31)), b5 + 1, v16) (Option.some.inj hx).symm)
set_option maxRecDepth 100000 in
set_option maxHeartbeats 4000000 in
theorem c_X9_parseGuest {l : Launch} {Y : gY} {M : gMem} {d : Nat} {r : (Int32 × gMem)} (hd : d < 4) (hx : x_X9_parseGuest M d = some r) : Met l yX9_parseGuest (gws yX9_parseGuest cX9_parseGuest 6 (some .boolean)) { frames := 3, cells := 0, slots := 0, locals := 81 } (va_Pc [.ref (gad Y 0 36), .ref (gad Y d 0)] (gS0 Y M)) (gQz Y r) 0 0 (gA Y) := by
  refine gmet (lv := [(0, .ref (gad Y 0 36)), (1, .ref (gad Y d 0))]) "GuestStaff$Text" (by decide) rfl (Nat.le_of_ble_eq_true rfl) rfl (fun X hC hF => ?_)
  unfold x_X9_parseGuest at hx
  refine q_aload_n hC 0 dX9_parseGuest_0 rfl rfl ?_
  refine q_bipush hC 6 dX9_parseGuest_1 rfl ?_
  obtain ⟨v1, q2, hx⟩ := gb_e hx
  refine q_kz (q_rV (As := [.int 6]) (rest := []) hC mm_X9_stepToNumber wM_X9_66 (c_X9_stepToNumber q2) ⟨rfl, rfl, Nat.le_of_ble_eq_true rfl, Nat.le_of_ble_eq_true rfl⟩ (gV_t (by decide) (by decide)) rfl rfl rfl rfl (Nat.le_of_ble_eq_true rfl) dX9_parseGuest_3) (fun z3 => ?_)
  refine q_if_ne hC 11 dX9_parseGuest_6 rfl (fun h4 => ?_) (fun h4 => ?_)
  · have hx := gi_n h4 hx
    refine q_aload_n hC 0 dX9_parseGuest_11 rfl rfl ?_
    refine gf_X9_28 hC dX9_parseGuest_12 ?_
    refine q_istore_n hC [(2, .int (v1.2.1 0 36 5)), (0, .ref (gad Y 0 36)), (1, .ref (gad Y d 0))] dX9_parseGuest_15 rfl (by decide) rfl ?_
    refine q_aload_n hC 1 dX9_parseGuest_16 rfl rfl ?_
    refine q_bipush hC 8 dX9_parseGuest_17 rfl ?_
    obtain ⟨v5, q6, hx⟩ := gb_e hx
    refine q_kz (q_rV (As := [.int 8]) (rest := []) hC mm_X9_stepToNumber wM_X9_66 (c_X9_stepToNumber q6) ⟨rfl, rfl, Nat.le_of_ble_eq_true rfl, Nat.le_of_ble_eq_true rfl⟩ (gV_t (by decide) (by decide)) rfl rfl rfl rfl (Nat.le_of_ble_eq_true rfl) dX9_parseGuest_19) (fun z7 => ?_)
    refine q_if_ne hC 27 dX9_parseGuest_22 rfl (fun h8 => ?_) (fun h8 => ?_)
    · have hx := gi_n h8 hx
      refine q_aload_n hC 1 dX9_parseGuest_27 rfl rfl ?_
      refine gf_X9_28 hC dX9_parseGuest_28 ?_
      refine q_istore_n hC [(3, .int (v5.2.1 0 36 5)), (2, .int (v1.2.1 0 36 5)), (0, .ref (gad Y 0 36)), (1, .ref (gad Y d 0))] dX9_parseGuest_31 rfl (by decide) rfl ?_
      refine q_iconst hC 0 dX9_parseGuest_32 rfl ?_
      refine q_istore hC [(4, .int 0), (3, .int (v5.2.1 0 36 5)), (2, .int (v1.2.1 0 36 5)), (0, .ref (gad Y 0 36)), (1, .ref (gad Y d 0))] dX9_parseGuest_33 (by decide) rfl ?_
      refine q_aload_n hC 3 dX9_parseGuest_35 rfl rfl ?_
      obtain ⟨v9, q10, hx⟩ := gb_e hx
      refine q_kv (q_rV (As := []) (rest := []) hC mm_X9_step wM_X9_36 (c_X9_step q10) ⟨rfl, rfl, Nat.le_of_ble_eq_true rfl, Nat.le_of_ble_eq_true rfl⟩ (gV_t (by decide) (by decide)) rfl rfl rfl rfl (Nat.le_of_ble_eq_true rfl) dX9_parseGuest_36) ?_
      refine q_iconst hC 0 dX9_parseGuest_39 rfl ?_
      refine q_istore hC [(5, .int 0), (4, .int 0), (3, .int (v5.2.1 0 36 5)), (2, .int (v1.2.1 0 36 5)), (0, .ref (gad Y 0 36)), (1, .ref (gad Y d 0))] dX9_parseGuest_40 (by decide) rfl ?_
      obtain ⟨e18, qe18, hx⟩ := gb_e hx
      refine q_sub [4, 5, 3, 2, 1, 0] rfl (w_X9_parseGuest_42 hC hF hd (e := e18) (fun s q => ?_) _ _ qe18)
      · subst q
        refine q_aload_n hC 0 dX9_parseGuest_80 rfl rfl ?_
        refine gf_X9_25 hC dX9_parseGuest_81 ?_
        refine q_iconst hC 3 dX9_parseGuest_84 rfl ?_
        refine q_ic_eq hC 90 dX9_parseGuest_85 rfl (fun h19 => ?_) (fun h19 => ?_)
        · have hx := gi_p h19 hx
          refine q_aload_n hC 1 dX9_parseGuest_90 rfl rfl ?_
          refine q_iload_n hC 2 dX9_parseGuest_91 rfl rfl ?_
          refine q_iload_n hC 3 dX9_parseGuest_92 rfl rfl ?_
          refine q_iload hC 4 dX9_parseGuest_93 rfl ?_
          obtain ⟨v20, q21, hx⟩ := gb_e hx
          refine q_ki (q_rV (As := [.int (v1.2.1 0 36 5), .int (v5.2.1 0 36 5), .int e18.1]) (rest := []) hC mm_X1_admit wM_X9_73 (c_X1_admit hd q21) ⟨rfl, rfl, Nat.le_of_ble_eq_true rfl, Nat.le_of_ble_eq_true rfl⟩ (gV_h hd (by decide)) rfl rfl rfl rfl (Nat.le_of_ble_eq_true rfl) dX9_parseGuest_95) ?_
          refine q_pop hC dX9_parseGuest_98 rfl ?_
          refine q_iconst hC 1 dX9_parseGuest_99 rfl ?_
          exact q_zret hC hF dX9_parseGuest_100 (Or.inr rfl) (Option.some.inj hx)
        · have hx := gi_n h19 hx
          refine q_iconst hC 0 dX9_parseGuest_88 rfl ?_
          exact q_zret hC hF dX9_parseGuest_89 (Or.inl rfl) (Option.some.inj hx)
    · have hx := gi_p h8 hx
      refine q_iconst hC 0 dX9_parseGuest_25 rfl ?_
      exact q_zret hC hF dX9_parseGuest_26 (Or.inl rfl) (Option.some.inj hx)
  · have hx := gi_p h4 hx
    refine q_iconst hC 0 dX9_parseGuest_9 rfl ?_
    exact q_zret hC hF dX9_parseGuest_10 (Or.inl rfl) (Option.some.inj hx)

theorem dX9_parseItem_0 : decode cX9_parseItem 0 = .ok (.aload_n 0, 1) := by decide +kernel
theorem dX9_parseItem_1 : decode cX9_parseItem 1 = .ok (.ldc 53, 2) := by decide +kernel
theorem dX9_parseItem_3 : decode cX9_parseItem 3 = .ok (.invokevirtual 41, 3) := by decide +kernel
theorem dX9_parseItem_6 : decode cX9_parseItem 6 = .ok (.ifCond .eq 26, 3) := by decide +kernel
theorem dX9_parseItem_9 : decode cX9_parseItem 9 = .ok (.aload_n 1, 1) := by decide +kernel
theorem dX9_parseItem_10 : decode cX9_parseItem 10 = .ok (.getfield 55, 3) := by decide +kernel
theorem dX9_parseItem_13 : decode cX9_parseItem 13 = .ok (.bipush 7, 2) := by decide +kernel
theorem dX9_parseItem_15 : decode cX9_parseItem 15 = .ok (.if_icmp .ge 15, 3) := by decide +kernel
theorem dX9_parseItem_18 : decode cX9_parseItem 18 = .ok (.aload_n 0, 1) := by decide +kernel
theorem dX9_parseItem_19 : decode cX9_parseItem 19 = .ok (.aload_n 1, 1) := by decide +kernel
theorem dX9_parseItem_20 : decode cX9_parseItem 20 = .ok (.invokevirtual 58, 3) := by decide +kernel
theorem dX9_parseItem_23 : decode cX9_parseItem 23 = .ok (.ifCond .eq 7, 3) := by decide +kernel
theorem dX9_parseItem_26 : decode cX9_parseItem 26 = .ok (.iconst 1, 1) := by decide +kernel
theorem dX9_parseItem_27 : decode cX9_parseItem 27 = .ok (.goto 4, 3) := by decide +kernel
theorem dX9_parseItem_30 : decode cX9_parseItem 30 = .ok (.iconst 0, 1) := by decide +kernel
theorem dX9_parseItem_31 : decode cX9_parseItem 31 = .ok (.ireturn, 1) := by decide +kernel
theorem dX9_parseItem_32 : decode cX9_parseItem 32 = .ok (.aload_n 0, 1) := by decide +kernel
theorem dX9_parseItem_33 : decode cX9_parseItem 33 = .ok (.ldc 61, 2) := by decide +kernel
theorem dX9_parseItem_35 : decode cX9_parseItem 35 = .ok (.invokevirtual 41, 3) := by decide +kernel
theorem dX9_parseItem_38 : decode cX9_parseItem 38 = .ok (.ifCond .eq 15, 3) := by decide +kernel
theorem dX9_parseItem_41 : decode cX9_parseItem 41 = .ok (.aload_n 0, 1) := by decide +kernel
theorem dX9_parseItem_42 : decode cX9_parseItem 42 = .ok (.aload_n 1, 1) := by decide +kernel
theorem dX9_parseItem_43 : decode cX9_parseItem 43 = .ok (.invokevirtual 63, 3) := by decide +kernel
theorem dX9_parseItem_46 : decode cX9_parseItem 46 = .ok (.ifCond .eq 7, 3) := by decide +kernel
theorem dX9_parseItem_49 : decode cX9_parseItem 49 = .ok (.iconst 1, 1) := by decide +kernel
theorem dX9_parseItem_50 : decode cX9_parseItem 50 = .ok (.goto 4, 3) := by decide +kernel
theorem dX9_parseItem_53 : decode cX9_parseItem 53 = .ok (.iconst 0, 1) := by decide +kernel
theorem dX9_parseItem_54 : decode cX9_parseItem 54 = .ok (.ireturn, 1) := by decide +kernel
def x_X9_parseItem (M : gMem) (d : Nat) : Option (Int32 × gMem) := Option.bind (x_X9_isWord M 1) (fun v1 => (if v1 = 0 then Option.bind (x_X9_isWord M 2) (fun v5 => (if v5 = 0 then some (0, M) else Option.bind (x_X9_parseDuty M d) (fun v9 => (if v9.1 = 0 then some (0, v9.2) else some (1, v9.2))))) else (if 7 ≤ (M.1 d 0 13) then some (0, M) else Option.bind (x_X9_parseGuest M d) (fun v14 => (if v14.1 = 0 then some (0, v14.2) else some (1, v14.2))))))
set_option maxRecDepth 100000 in
set_option maxHeartbeats 4000000 in
theorem c_X9_parseItem {l : Launch} {Y : gY} {M : gMem} {d : Nat} {r : (Int32 × gMem)} (hd : d < 4) (hx : x_X9_parseItem M d = some r) : Met l yX9_parseItem (gws yX9_parseItem cX9_parseItem 2 (some .boolean)) { frames := 5, cells := 0, slots := 0, locals := 142 } (va_Pc [.ref (gad Y 0 36), .ref (gad Y d 0)] (gS0 Y M)) (gQz Y r) 0 0 (gA Y) := by
  refine gmet (lv := [(0, .ref (gad Y 0 36)), (1, .ref (gad Y d 0))]) "GuestStaff$Text" (by decide) rfl (Nat.le_of_ble_eq_true rfl) rfl (fun X hC hF => ?_)
  unfold x_X9_parseItem at hx
  refine q_aload_n hC 0 dX9_parseItem_0 rfl rfl ?_
  refine q_lds1 hC dX9_parseItem_1 ?_
  obtain ⟨v1, q2, hx⟩ := gb_e hx
  refine q_kzp (q_rV (As := [.ref (Y.2.2.2.1 1)]) (rest := []) hC mm_X9_isWord wM_X9_41 (c_X9_isWord (by decide) q2) ⟨rfl, rfl, Nat.le_of_ble_eq_true rfl, Nat.le_of_ble_eq_true rfl⟩ (gV_t (by decide) (by decide)) rfl rfl rfl rfl (Nat.le_of_ble_eq_true rfl) dX9_parseItem_3) (fun z3 => ?_)
  refine q_if_eq hC 32 dX9_parseItem_6 rfl (fun h4 => ?_) (fun h4 => ?_)
  · have hx := gi_p h4 hx
    refine q_aload_n hC 0 dX9_parseItem_32 rfl rfl ?_
    refine q_lds2 hC dX9_parseItem_33 ?_
    obtain ⟨v5, q6, hx⟩ := gb_e hx
    refine q_kzp (q_rV (As := [.ref (Y.2.2.2.1 2)]) (rest := []) hC mm_X9_isWord wM_X9_41 (c_X9_isWord (by decide) q6) ⟨rfl, rfl, Nat.le_of_ble_eq_true rfl, Nat.le_of_ble_eq_true rfl⟩ (gV_t (by decide) (by decide)) rfl rfl rfl rfl (Nat.le_of_ble_eq_true rfl) dX9_parseItem_35) (fun z7 => ?_)
    refine q_if_eq hC 53 dX9_parseItem_38 rfl (fun h8 => ?_) (fun h8 => ?_)
    · have hx := gi_p h8 hx
      refine q_iconst hC 0 dX9_parseItem_53 rfl ?_
      exact q_zret hC hF dX9_parseItem_54 (Or.inl rfl) (Option.some.inj hx)
    · have hx := gi_n h8 hx
      refine q_aload_n hC 0 dX9_parseItem_41 rfl rfl ?_
      refine q_aload_n hC 1 dX9_parseItem_42 rfl rfl ?_
      obtain ⟨v9, q10, hx⟩ := gb_e hx
      refine q_kz (q_rV (As := [.ref (gad Y d 0)]) (rest := []) hC mm_X9_parseDuty wM_X9_63 (c_X9_parseDuty hd q10) ⟨rfl, rfl, Nat.le_of_ble_eq_true rfl, Nat.le_of_ble_eq_true rfl⟩ (gV_t (by decide) (by decide)) rfl rfl rfl rfl (Nat.le_of_ble_eq_true rfl) dX9_parseItem_43) (fun z11 => ?_)
      refine q_if_eq hC 53 dX9_parseItem_46 rfl (fun h12 => ?_) (fun h12 => ?_)
      · have hx := gi_p h12 hx
        refine q_iconst hC 0 dX9_parseItem_53 rfl ?_
        exact q_zret hC hF dX9_parseItem_54 (Or.inl rfl) (Option.some.inj hx)
      · have hx := gi_n h12 hx
        refine q_iconst hC 1 dX9_parseItem_49 rfl ?_
        refine q_goto hC 54 dX9_parseItem_50 rfl ?_
        exact q_zret hC hF dX9_parseItem_54 (Or.inr rfl) (Option.some.inj hx)
  · have hx := gi_n h4 hx
    refine q_aload_n hC 1 dX9_parseItem_9 rfl rfl ?_
    refine gf_X9_55 hC hd dX9_parseItem_10 ?_
    refine q_bipush hC 7 dX9_parseItem_13 rfl ?_
    refine q_ic_ge hC 30 dX9_parseItem_15 rfl (fun h13 => ?_) (fun h13 => ?_)
    · have hx := gi_p h13 hx
      refine q_iconst hC 0 dX9_parseItem_30 rfl ?_
      exact q_zret hC hF dX9_parseItem_31 (Or.inl rfl) (Option.some.inj hx)
    · have hx := gi_n h13 hx
      refine q_aload_n hC 0 dX9_parseItem_18 rfl rfl ?_
      refine q_aload_n hC 1 dX9_parseItem_19 rfl rfl ?_
      obtain ⟨v14, q15, hx⟩ := gb_e hx
      refine q_kz (q_rV (As := [.ref (gad Y d 0)]) (rest := []) hC mm_X9_parseGuest wM_X9_58 (c_X9_parseGuest hd q15) ⟨rfl, rfl, Nat.le_of_ble_eq_true rfl, Nat.le_of_ble_eq_true rfl⟩ (gV_t (by decide) (by decide)) rfl rfl rfl rfl (Nat.le_of_ble_eq_true rfl) dX9_parseItem_20) (fun z16 => ?_)
      refine q_if_eq hC 30 dX9_parseItem_23 rfl (fun h17 => ?_) (fun h17 => ?_)
      · have hx := gi_p h17 hx
        refine q_iconst hC 0 dX9_parseItem_30 rfl ?_
        exact q_zret hC hF dX9_parseItem_31 (Or.inl rfl) (Option.some.inj hx)
      · have hx := gi_n h17 hx
        refine q_iconst hC 1 dX9_parseItem_26 rfl ?_
        refine q_goto hC 31 dX9_parseItem_27 rfl ?_
        exact q_zret hC hF dX9_parseItem_31 (Or.inr rfl) (Option.some.inj hx)

theorem dX9_parse_0 : decode cX9_parse 0 = .ok (.aload_n 1, 1) := by decide +kernel
theorem dX9_parse_1 : decode cX9_parse 1 = .ok (.invokevirtual 31, 3) := by decide +kernel
theorem dX9_parse_4 : decode cX9_parse 4 = .ok (.aload_n 0, 1) := by decide +kernel
theorem dX9_parse_5 : decode cX9_parse 5 = .ok (.iconst 0, 1) := by decide +kernel
theorem dX9_parse_6 : decode cX9_parse 6 = .ok (.putfield 22, 3) := by decide +kernel
theorem dX9_parse_9 : decode cX9_parse 9 = .ok (.aload_n 0, 1) := by decide +kernel
theorem dX9_parse_10 : decode cX9_parse 10 = .ok (.invokevirtual 36, 3) := by decide +kernel
theorem dX9_parse_13 : decode cX9_parse 13 = .ok (.aload_n 0, 1) := by decide +kernel
theorem dX9_parse_14 : decode cX9_parse 14 = .ok (.ldc 39, 2) := by decide +kernel
theorem dX9_parse_16 : decode cX9_parse 16 = .ok (.invokevirtual 41, 3) := by decide +kernel
theorem dX9_parse_19 : decode cX9_parse 19 = .ok (.ifCond .eq 10, 3) := by decide +kernel
theorem dX9_parse_22 : decode cX9_parse 22 = .ok (.aload_n 0, 1) := by decide +kernel
theorem dX9_parse_23 : decode cX9_parse 23 = .ok (.invokevirtual 45, 3) := by decide +kernel
theorem dX9_parse_26 : decode cX9_parse 26 = .ok (.ifCond .ne 5, 3) := by decide +kernel
theorem dX9_parse_29 : decode cX9_parse 29 = .ok (.iconst (-1), 1) := by decide +kernel
theorem dX9_parse_30 : decode cX9_parse 30 = .ok (.ireturn, 1) := by decide +kernel
theorem dX9_parse_31 : decode cX9_parse 31 = .ok (.iconst 1, 1) := by decide +kernel
theorem dX9_parse_32 : decode cX9_parse 32 = .ok (.istore_n 2, 1) := by decide +kernel
theorem dX9_parse_33 : decode cX9_parse 33 = .ok (.iload_n 2, 1) := by decide +kernel
theorem dX9_parse_34 : decode cX9_parse 34 = .ok (.sipush 150, 3) := by decide +kernel
theorem dX9_parse_37 : decode cX9_parse 37 = .ok (.if_icmp .gt 32, 3) := by decide +kernel
theorem dX9_parse_40 : decode cX9_parse 40 = .ok (.aload_n 0, 1) := by decide +kernel
theorem dX9_parse_41 : decode cX9_parse 41 = .ok (.invokevirtual 36, 3) := by decide +kernel
theorem dX9_parse_44 : decode cX9_parse 44 = .ok (.aload_n 0, 1) := by decide +kernel
theorem dX9_parse_45 : decode cX9_parse 45 = .ok (.getfield 25, 3) := by decide +kernel
theorem dX9_parse_48 : decode cX9_parse 48 = .ok (.ifCond .ne 5, 3) := by decide +kernel
theorem dX9_parse_51 : decode cX9_parse 51 = .ok (.iload_n 2, 1) := by decide +kernel
theorem dX9_parse_52 : decode cX9_parse 52 = .ok (.ireturn, 1) := by decide +kernel
theorem dX9_parse_53 : decode cX9_parse 53 = .ok (.aload_n 0, 1) := by decide +kernel
theorem dX9_parse_54 : decode cX9_parse 54 = .ok (.aload_n 1, 1) := by decide +kernel
theorem dX9_parse_55 : decode cX9_parse 55 = .ok (.invokevirtual 49, 3) := by decide +kernel
theorem dX9_parse_58 : decode cX9_parse 58 = .ok (.ifCond .ne 5, 3) := by decide +kernel
theorem dX9_parse_61 : decode cX9_parse 61 = .ok (.iconst (-1), 1) := by decide +kernel
theorem dX9_parse_62 : decode cX9_parse 62 = .ok (.ireturn, 1) := by decide +kernel
theorem dX9_parse_63 : decode cX9_parse 63 = .ok (.iinc 2 1, 3) := by decide +kernel
theorem dX9_parse_66 : decode cX9_parse 66 = .ok (.goto (-33), 3) := by decide +kernel
theorem dX9_parse_69 : decode cX9_parse 69 = .ok (.iconst (-1), 1) := by decide +kernel
theorem dX9_parse_70 : decode cX9_parse 70 = .ok (.ireturn, 1) := by decide +kernel
def s_X9_parse_33 (d : Nat) (b2 : Int32) (N : gMem) : Option ((Int32 × gMem) ⊕ ((Int32 × gMem) ⊕ (Int32 × gMem))) := (if 150 < b2 then some (.inr (.inl (b2, N))) else Option.bind (x_X9_step N) (fun v14 => (if (v14.1 0 36 4) = 0 then some (.inr (.inr (b2, v14))) else Option.bind (x_X9_parseItem v14 d) (fun v17 => (if v17.1 = 0 then some (.inr (.inr ((-1), v17.2))) else some (.inl (b2 + 1, v17.2)))))))
def x_X9_parse (M : gMem) (d : Nat) : Option (Int32 × gMem) := Option.bind (x_X1_empty M d) (fun v1 => Option.bind (x_X9_step (gwr v1 0 36 3 0)) (fun v3 => Option.bind (x_X9_isWord v3 0) (fun v5 => (if v5 = 0 then some ((-1), v3) else Option.bind (x_X9_stepToStop v3) (fun v9 => (if v9.1 = 0 then some ((-1), v9.2) else Option.bind (itr FU (fun s => s_X9_parse_33 d s.1 s.2) (1, v9.2)) (fun e21 => Sum.elim (fun s22 => some ((-1), s22.2)) (fun z23 => some z23) e21)))))))
set_option maxRecDepth 100000 in
set_option maxHeartbeats 4000000 in
theorem w_X9_parse_33 {X : gX} {Y : gY} {d : Nat} {r : (Int32 × gMem)} (hC : gC X Y cX9_parse "GuestStaff$Text" 3 6 163) (hF : gF X Y (some .int) (gQi Y r)) (hd : d < 4) {e : ((Int32 × gMem) ⊕ (Int32 × gMem))} (kE : ∀ s : (Int32 × gMem), e = .inl s → gWW X Y 3 69 [] [] s.2) (kR : ∀ z : (Int32 × gMem), e = .inr z → z = r) : ∀ (F : Nat) (s : (Int32 × gMem)), itr F (fun s => s_X9_parse_33 d s.1 s.2) s = some e → gWW X Y 3 33 [(0, .ref (gad Y 0 36)), (1, .ref (gad Y d 0)), (2, .int s.1)] [] s.2 := by
  intro F s
  refine itr_w (P := fun s => gWW X Y 3 33 [(0, .ref (gad Y 0 36)), (1, .ref (gad Y d 0)), (2, .int s.1)] [] s.2) (fun s o hx kI kx => ?_) F s
  obtain ⟨b2, N⟩ := s
  have hx : s_X9_parse_33 d b2 N = some o := hx
  have kE : ∀ s : (Int32 × gMem), o = .inr (.inl s) → gWW X Y 3 69 [] [] s.2 := fun s q => kE s (kx _ q).symm
  have kR : ∀ z : (Int32 × gMem), o = .inr (.inr z) → z = r := fun z q => kR z (kx _ q).symm
  unfold s_X9_parse_33 at hx
  refine q_iload_n hC 2 dX9_parse_33 rfl rfl ?_
  refine q_sipush hC 150 dX9_parse_34 rfl ?_
  refine q_ic_gt hC 69 dX9_parse_37 rfl (fun h13 => ?_) (fun h13 => ?_)
  · have hx := gi_p h13 hx
    exact q_sub [] rfl (kE (b2, N) (Option.some.inj hx).symm)
  · have hx := gi_n h13 hx
    refine q_aload_n hC 0 dX9_parse_40 rfl rfl ?_
    obtain ⟨v14, q15, hx⟩ := gb_e hx
    refine q_kv (q_rV (As := []) (rest := []) hC mm_X9_step wM_X9_36 (c_X9_step q15) ⟨rfl, rfl, Nat.le_of_ble_eq_true rfl, Nat.le_of_ble_eq_true rfl⟩ (gV_t (by decide) (by decide)) rfl rfl rfl rfl (Nat.le_of_ble_eq_true rfl) dX9_parse_41) ?_
    refine q_aload_n hC 0 dX9_parse_44 rfl rfl ?_
    refine gf_X9_25 hC dX9_parse_45 ?_
    refine q_if_ne hC 53 dX9_parse_48 rfl (fun h16 => ?_) (fun h16 => ?_)
    · have hx := gi_n h16 hx
      refine q_aload_n hC 0 dX9_parse_53 rfl rfl ?_
      refine q_aload_n hC 1 dX9_parse_54 rfl rfl ?_
      obtain ⟨v17, q18, hx⟩ := gb_e hx
      refine q_kz (q_rV (As := [.ref (gad Y d 0)]) (rest := []) hC mm_X9_parseItem wM_X9_49 (c_X9_parseItem hd q18) ⟨rfl, rfl, Nat.le_of_ble_eq_true rfl, Nat.le_of_ble_eq_true rfl⟩ (gV_t (by decide) (by decide)) rfl rfl rfl rfl (Nat.le_of_ble_eq_true rfl) dX9_parse_55) (fun z19 => ?_)
      refine q_if_ne hC 63 dX9_parse_58 rfl (fun h20 => ?_) (fun h20 => ?_)
      · have hx := gi_n h20 hx
        refine q_iinc hC 2 1 [(2, .int (b2 + 1)), (0, .ref (gad Y 0 36)), (1, .ref (gad Y d 0))] dX9_parse_63 rfl rfl (by decide) rfl ?_
        refine q_goto hC 33 dX9_parse_66 rfl ?_
        exact q_sub [1, 2, 0] rfl (kI (b2 + 1, v17.2) (Option.some.inj hx).symm)
      · have hx := gi_p h20 hx
        refine q_iconst hC (-1) dX9_parse_61 rfl ?_
        exact q_iret hC hF dX9_parse_62 (kR _ (Option.some.inj hx).symm)
    · have hx := gi_p h16 hx
      refine q_iload_n hC 2 dX9_parse_51 rfl rfl ?_
      exact q_iret hC hF dX9_parse_52 (kR _ (Option.some.inj hx).symm)
set_option maxRecDepth 100000 in
set_option maxHeartbeats 4000000 in
theorem c_X9_parse {l : Launch} {Y : gY} {M : gMem} {d : Nat} {r : (Int32 × gMem)} (hd : d < 4) (hx : x_X9_parse M d = some r) : Met l yX9_parse (gws yX9_parse cX9_parse 3 (some .int)) { frames := 6, cells := 0, slots := 0, locals := 163 } (va_Pc [.ref (gad Y 0 36), .ref (gad Y d 0)] (gS0 Y M)) (gQi Y r) 0 0 (gA Y) := by
  refine gmet (lv := [(0, .ref (gad Y 0 36)), (1, .ref (gad Y d 0))]) "GuestStaff$Text" (by decide) rfl (Nat.le_of_ble_eq_true rfl) rfl (fun X hC hF => ?_)
  unfold x_X9_parse at hx
  refine q_aload_n hC 1 dX9_parse_0 rfl rfl ?_
  obtain ⟨v1, q2, hx⟩ := gb_e hx
  refine q_kv (q_rV (As := []) (rest := []) hC mm_X1_empty wM_X9_31 (c_X1_empty hd q2) ⟨rfl, rfl, Nat.le_of_ble_eq_true rfl, Nat.le_of_ble_eq_true rfl⟩ (gV_h hd (by decide)) rfl rfl rfl rfl (Nat.le_of_ble_eq_true rfl) dX9_parse_1) ?_
  refine q_aload_n hC 0 dX9_parse_4 rfl rfl ?_
  refine q_iconst hC 0 dX9_parse_5 rfl ?_
  refine pf_X9_22 hC dX9_parse_6 ?_
  refine q_aload_n hC 0 dX9_parse_9 rfl rfl ?_
  obtain ⟨v3, q4, hx⟩ := gb_e hx
  refine q_kv (q_rV (As := []) (rest := []) hC mm_X9_step wM_X9_36 (c_X9_step q4) ⟨rfl, rfl, Nat.le_of_ble_eq_true rfl, Nat.le_of_ble_eq_true rfl⟩ (gV_t (by decide) (by decide)) rfl rfl rfl rfl (Nat.le_of_ble_eq_true rfl) dX9_parse_10) ?_
  refine q_aload_n hC 0 dX9_parse_13 rfl rfl ?_
  refine q_lds0 hC dX9_parse_14 ?_
  obtain ⟨v5, q6, hx⟩ := gb_e hx
  refine q_kzp (q_rV (As := [.ref (Y.2.2.2.1 0)]) (rest := []) hC mm_X9_isWord wM_X9_41 (c_X9_isWord (by decide) q6) ⟨rfl, rfl, Nat.le_of_ble_eq_true rfl, Nat.le_of_ble_eq_true rfl⟩ (gV_t (by decide) (by decide)) rfl rfl rfl rfl (Nat.le_of_ble_eq_true rfl) dX9_parse_16) (fun z7 => ?_)
  refine q_if_eq hC 29 dX9_parse_19 rfl (fun h8 => ?_) (fun h8 => ?_)
  · have hx := gi_p h8 hx
    refine q_iconst hC (-1) dX9_parse_29 rfl ?_
    exact q_iret hC hF dX9_parse_30 (Option.some.inj hx)
  · have hx := gi_n h8 hx
    refine q_aload_n hC 0 dX9_parse_22 rfl rfl ?_
    obtain ⟨v9, q10, hx⟩ := gb_e hx
    refine q_kz (q_rV (As := []) (rest := []) hC mm_X9_stepToStop wM_X9_45 (c_X9_stepToStop q10) ⟨rfl, rfl, Nat.le_of_ble_eq_true rfl, Nat.le_of_ble_eq_true rfl⟩ (gV_t (by decide) (by decide)) rfl rfl rfl rfl (Nat.le_of_ble_eq_true rfl) dX9_parse_23) (fun z11 => ?_)
    refine q_if_ne hC 31 dX9_parse_26 rfl (fun h12 => ?_) (fun h12 => ?_)
    · have hx := gi_n h12 hx
      refine q_iconst hC 1 dX9_parse_31 rfl ?_
      refine q_istore_n hC [(2, .int 1), (0, .ref (gad Y 0 36)), (1, .ref (gad Y d 0))] dX9_parse_32 rfl (by decide) rfl ?_
      obtain ⟨e21, qe21, hx⟩ := gb_e hx
      refine q_sub [1, 2, 0] rfl (w_X9_parse_33 hC hF hd (e := e21) (fun s22 qs22 => ?_) (fun z23 qz23 => ?_) _ _ qe21)
      · subst qs22
        refine q_iconst hC (-1) dX9_parse_69 rfl ?_
        exact q_iret hC hF dX9_parse_70 (Option.some.inj hx)
      · subst qz23
        exact Option.some.inj hx
    · have hx := gi_p h12 hx
      refine q_iconst hC (-1) dX9_parse_29 rfl ?_
      exact q_iret hC hF dX9_parse_30 (Option.some.inj hx)
