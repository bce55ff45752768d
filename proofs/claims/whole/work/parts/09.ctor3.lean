theorem n_eq {X : gX} {Y : gY} {z nL pc k n : Nat} {lv : List (Nat × Value)} {st : List Value} {ws ws' : va_W} (k' n' : Nat) (h : ws = ws') (hk : k = k') (hn : n = n') (kk : gCW X Y z nL pc lv st ws' k' n') : gCW X Y z nL pc lv st ws k n := by
  subst h; subst hk; subst hn; exact kk

theorem dX4_init_0 : decode cX4_init 0 = .ok (.aload_n 0, 1) := by decide +kernel
theorem dX4_init_1 : decode cX4_init 1 = .ok (.invokespecial 1, 3) := by decide +kernel
theorem dX4_init_4 : decode cX4_init 4 = .ok (.return_, 1) := by decide +kernel
set_option maxRecDepth 100000 in
set_option maxHeartbeats 4000000 in
theorem c_X4_init {L : Launch} {Y : gY} {z b : Nat} {ws0 : va_W} {e0 : va_E} : Met L yX4_init (gws yX4_init cX4_init 1 none) { frames := 1, cells := 0, slots := 0, locals := 12 } (va_Pc [.ref b] (gPn Y z (ws0 ++ [(b, e0)]))) (gQn Y z (fun (_ : Unit) => ws0 ++ [(b, e0)])) 0 0 (gAz z) := by
  refine gmetn (lv := [(0, .ref b)]) (rm := { frames := 1, cells := 0, slots := 0, locals := 12 }) "GuestStaff$Plain" (by decide) rfl rfl (Nat.le_of_ble_eq_true rfl) rfl (fun X hC hmn hr hQ => ?_)
  refine n_aload_n hC 0 dX4_init_0 rfl rfl ?_
  refine n_obj hC wM_X4_1 wobj dX4_init_1 (by decide) (Nat.le_of_ble_eq_true rfl) ?_
  exact n_ret hC () hr hQ (by first | rfl | simp) dX4_init_4

theorem dX6_init_0 : decode cX6_init 0 = .ok (.aload_n 0, 1) := by decide +kernel
theorem dX6_init_1 : decode cX6_init 1 = .ok (.invokespecial 3, 3) := by decide +kernel
theorem dX6_init_4 : decode cX6_init 4 = .ok (.return_, 1) := by decide +kernel
set_option maxRecDepth 100000 in
set_option maxHeartbeats 4000000 in
theorem c_X6_init {L : Launch} {Y : gY} {z b : Nat} {ws0 : va_W} {e0 : va_E} : Met L yX6_init (gws yX6_init cX6_init 1 none) { frames := 2, cells := 0, slots := 0, locals := 32 } (va_Pc [.ref b] (gPn Y z (ws0 ++ [(b, e0)]))) (gQn Y z (fun (_ : Unit) => ws0 ++ [(b, e0)])) 0 0 (gAz z) := by
  refine gmetn (lv := [(0, .ref b)]) (rm := { frames := 2, cells := 0, slots := 0, locals := 32 }) "GuestStaff$Quiet" (by decide) rfl rfl (Nat.le_of_ble_eq_true rfl) rfl (fun X hC hmn hr hQ => ?_)
  refine n_aload_n hC 0 dX6_init_0 rfl rfl ?_
  refine n_eq (ws' := ws0 ++ (([] : va_W) ++ [(b, e0)])) 0 0 rfl rfl rfl ?_
  refine n_call (k := 0) (n := 0) (l := ([] : va_W)) (As := []) (rest := []) hC mt_X4_init rfl mi_X4_init (Or.inr ⟨_, wG_X6_3⟩) c_X4_init ⟨by decide, by decide, by decide, by decide⟩ rfl rfl (Nat.le_of_ble_eq_true rfl) dX6_init_1 (fun r1 => ?_)
  refine n_eq (ws' := ws0 ++ [(b, e0)]) 0 0 (by rw [List.append_nil]) rfl rfl ?_
  exact n_ret hC () hr hQ (by first | rfl | simp) dX6_init_4

theorem dX0_init_0 : decode cX0_init 0 = .ok (.aload_n 0, 1) := by decide +kernel
theorem dX0_init_1 : decode cX0_init 1 = .ok (.invokespecial 1, 3) := by decide +kernel
theorem dX0_init_4 : decode cX0_init 4 = .ok (.return_, 1) := by decide +kernel
set_option maxRecDepth 100000 in
set_option maxHeartbeats 4000000 in
theorem c_X0_init {L : Launch} {Y : gY} {z b : Nat} {ws0 : va_W} {e0 : va_E} : Met L yX0_init (gws yX0_init cX0_init 1 none) { frames := 2, cells := 0, slots := 0, locals := 32 } (va_Pc [.ref b] (gPn Y z (ws0 ++ [(b, e0)]))) (gQn Y z (fun (_ : Unit) => ws0 ++ [(b, e0)])) 0 0 (gAz z) := by
  refine gmetn (lv := [(0, .ref b)]) (rm := { frames := 2, cells := 0, slots := 0, locals := 32 }) "GuestStaff$Banker" (by decide) rfl rfl (Nat.le_of_ble_eq_true rfl) rfl (fun X hC hmn hr hQ => ?_)
  refine n_aload_n hC 0 dX0_init_0 rfl rfl ?_
  refine n_eq (ws' := ws0 ++ (([] : va_W) ++ [(b, e0)])) 0 0 rfl rfl rfl ?_
  refine n_call (k := 0) (n := 0) (l := ([] : va_W)) (As := []) (rest := []) hC mt_X4_init rfl mi_X4_init (Or.inr ⟨_, wG_X0_1⟩) c_X4_init ⟨by decide, by decide, by decide, by decide⟩ rfl rfl (Nat.le_of_ble_eq_true rfl) dX0_init_1 (fun r1 => ?_)
  refine n_eq (ws' := ws0 ++ [(b, e0)]) 0 0 (by rw [List.append_nil]) rfl rfl ?_
  exact n_ret hC () hr hQ (by first | rfl | simp) dX0_init_4

theorem dX8_init_0 : decode cX8_init 0 = .ok (.aload_n 0, 1) := by decide +kernel
theorem dX8_init_1 : decode cX8_init 1 = .ok (.invokespecial 1, 3) := by decide +kernel
theorem dX8_init_4 : decode cX8_init 4 = .ok (.return_, 1) := by decide +kernel
set_option maxRecDepth 100000 in
set_option maxHeartbeats 4000000 in
theorem c_X8_init {L : Launch} {Y : gY} {z b : Nat} {ws0 : va_W} {e0 : va_E} : Met L yX8_init (gws yX8_init cX8_init 1 none) { frames := 2, cells := 0, slots := 0, locals := 32 } (va_Pc [.ref b] (gPn Y z (ws0 ++ [(b, e0)]))) (gQn Y z (fun (_ : Unit) => ws0 ++ [(b, e0)])) 0 0 (gAz z) := by
  refine gmetn (lv := [(0, .ref b)]) (rm := { frames := 2, cells := 0, slots := 0, locals := 32 }) "GuestStaff$Shouter" (by decide) rfl rfl (Nat.le_of_ble_eq_true rfl) rfl (fun X hC hmn hr hQ => ?_)
  refine n_aload_n hC 0 dX8_init_0 rfl rfl ?_
  refine n_eq (ws' := ws0 ++ (([] : va_W) ++ [(b, e0)])) 0 0 rfl rfl rfl ?_
  refine n_call (k := 0) (n := 0) (l := ([] : va_W)) (As := []) (rest := []) hC mt_X4_init rfl mi_X4_init (Or.inr ⟨_, wG_X8_1⟩) c_X4_init ⟨by decide, by decide, by decide, by decide⟩ rfl rfl (Nat.le_of_ble_eq_true rfl) dX8_init_1 (fun r1 => ?_)
  refine n_eq (ws' := ws0 ++ [(b, e0)]) 0 0 (by rw [List.append_nil]) rfl rfl ?_
  exact n_ret hC () hr hQ (by first | rfl | simp) dX8_init_4

theorem dX2_init_0 : decode cX2_init 0 = .ok (.aload_n 0, 1) := by decide +kernel
theorem dX2_init_1 : decode cX2_init 1 = .ok (.invokespecial 1, 3) := by decide +kernel
theorem dX2_init_4 : decode cX2_init 4 = .ok (.return_, 1) := by decide +kernel
set_option maxRecDepth 100000 in
set_option maxHeartbeats 4000000 in
theorem c_X2_init {L : Launch} {Y : gY} {z b : Nat} {ws0 : va_W} {e0 : va_E} : Met L yX2_init (gws yX2_init cX2_init 1 none) { frames := 3, cells := 0, slots := 0, locals := 52 } (va_Pc [.ref b] (gPn Y z (ws0 ++ [(b, e0)]))) (gQn Y z (fun (_ : Unit) => ws0 ++ [(b, e0)])) 0 0 (gAz z) := by
  refine gmetn (lv := [(0, .ref b)]) (rm := { frames := 3, cells := 0, slots := 0, locals := 52 }) "GuestStaff$Late" (by decide) rfl rfl (Nat.le_of_ble_eq_true rfl) rfl (fun X hC hmn hr hQ => ?_)
  refine n_aload_n hC 0 dX2_init_0 rfl rfl ?_
  refine n_eq (ws' := ws0 ++ (([] : va_W) ++ [(b, e0)])) 0 0 rfl rfl rfl ?_
  refine n_call (k := 0) (n := 0) (l := ([] : va_W)) (As := []) (rest := []) hC mt_X6_init rfl mi_X6_init (Or.inr ⟨_, wG_X2_1⟩) c_X6_init ⟨by decide, by decide, by decide, by decide⟩ rfl rfl (Nat.le_of_ble_eq_true rfl) dX2_init_1 (fun r1 => ?_)
  refine n_eq (ws' := ws0 ++ [(b, e0)]) 0 0 (by rw [List.append_nil]) rfl rfl ?_
  exact n_ret hC () hr hQ (by first | rfl | simp) dX2_init_4

theorem dX5_init_0 : decode cX5_init 0 = .ok (.aload_n 0, 1) := by decide +kernel
theorem dX5_init_1 : decode cX5_init 1 = .ok (.invokespecial 1, 3) := by decide +kernel
theorem dX5_init_4 : decode cX5_init 4 = .ok (.return_, 1) := by decide +kernel
set_option maxRecDepth 100000 in
set_option maxHeartbeats 4000000 in
theorem c_X5_init {L : Launch} {Y : gY} {z b : Nat} {ws0 : va_W} {e0 : va_E} : Met L yX5_init (gws yX5_init cX5_init 1 none) { frames := 3, cells := 0, slots := 0, locals := 52 } (va_Pc [.ref b] (gPn Y z (ws0 ++ [(b, e0)]))) (gQn Y z (fun (_ : Unit) => ws0 ++ [(b, e0)])) 0 0 (gAz z) := by
  refine gmetn (lv := [(0, .ref b)]) (rm := { frames := 3, cells := 0, slots := 0, locals := 52 }) "GuestStaff$Polisher" (by decide) rfl rfl (Nat.le_of_ble_eq_true rfl) rfl (fun X hC hmn hr hQ => ?_)
  refine n_aload_n hC 0 dX5_init_0 rfl rfl ?_
  refine n_eq (ws' := ws0 ++ (([] : va_W) ++ [(b, e0)])) 0 0 rfl rfl rfl ?_
  refine n_call (k := 0) (n := 0) (l := ([] : va_W)) (As := []) (rest := []) hC mt_X0_init rfl mi_X0_init (Or.inr ⟨_, wG_X5_1⟩) c_X0_init ⟨by decide, by decide, by decide, by decide⟩ rfl rfl (Nat.le_of_ble_eq_true rfl) dX5_init_1 (fun r1 => ?_)
  refine n_eq (ws' := ws0 ++ [(b, e0)]) 0 0 (by rw [List.append_nil]) rfl rfl ?_
  exact n_ret hC () hr hQ (by first | rfl | simp) dX5_init_4

theorem hfs_X1 : ∀ j, j < 16 → defaultValue (tyX1 j) = vp_V [.null, .null, .null, .null, .null, .null, .null, .null, .null, .null, .null, .int 0, .int 0, .int 0, .int 0, .int 0] j := by
  intro j hj
  rcases (show j = 0 ∨ j = 1 ∨ j = 2 ∨ j = 3 ∨ j = 4 ∨ j = 5 ∨ j = 6 ∨ j = 7 ∨ j = 8 ∨ j = 9 ∨ j = 10 ∨ j = 11 ∨ j = 12 ∨ j = 13 ∨ j = 14 ∨ j = 15 by omega) with rfl | rfl | rfl | rfl | rfl | rfl | rfl | rfl | rfl | rfl | rfl | rfl | rfl | rfl | rfl | rfl <;> rfl

theorem hfs_X3 : ∀ j, j < 2 → defaultValue (tyX3 j) = vp_V [.null, .int 0] j := by
  intro j hj
  rcases (show j = 0 ∨ j = 1 by omega) with rfl | rfl <;> rfl

theorem hfs_X7 : ∀ j, j < 5 → defaultValue (tyX7 j) = vp_V [.null, .null, .null, .null, .int 0] j := by
  intro j hj
  rcases (show j = 0 ∨ j = 1 ∨ j = 2 ∨ j = 3 ∨ j = 4 by omega) with rfl | rfl | rfl | rfl | rfl <;> rfl

theorem hfs_X9 : ∀ j, j < 6 → defaultValue (tyX9 j) = vp_V [.null, .int 0, .int 0, .int 0, .int 0, .int 0] j := by
  intro j hj
  rcases (show j = 0 ∨ j = 1 ∨ j = 2 ∨ j = 3 ∨ j = 4 ∨ j = 5 by omega) with rfl | rfl | rfl | rfl | rfl | rfl <;> rfl

theorem hfs_X10 : ∀ j, j < 9 → defaultValue (tyX10 j) = vp_V [.null, .null, .null, .null, .null, .null, .null, .long 0, .long 0] j := by
  intro j hj
  rcases (show j = 0 ∨ j = 1 ∨ j = 2 ∨ j = 3 ∨ j = 4 ∨ j = 5 ∨ j = 6 ∨ j = 7 ∨ j = 8 by omega) with rfl | rfl | rfl | rfl | rfl | rfl | rfl | rfl | rfl <;> rfl

theorem hfs_X11 : ∀ j, j < 28 → defaultValue (tyX11 j) = vp_V [.null, .long 0, .long 0, .null, .null, .int 0, .int 0, .int 0, .int 0, .int 0, .null, .int 0, .int 0, .null, .int 0, .null, .int 0, .null, .null, .int 0, .int 0, .int 0, .null, .null, .null, .null, .null, .null] j := by
  intro j hj
  rcases (show j = 0 ∨ j = 1 ∨ j = 2 ∨ j = 3 ∨ j = 4 ∨ j = 5 ∨ j = 6 ∨ j = 7 ∨ j = 8 ∨ j = 9 ∨ j = 10 ∨ j = 11 ∨ j = 12 ∨ j = 13 ∨ j = 14 ∨ j = 15 ∨ j = 16 ∨ j = 17 ∨ j = 18 ∨ j = 19 ∨ j = 20 ∨ j = 21 ∨ j = 22 ∨ j = 23 ∨ j = 24 ∨ j = 25 ∨ j = 26 ∨ j = 27 by omega) with rfl | rfl | rfl | rfl | rfl | rfl | rfl | rfl | rfl | rfl | rfl | rfl | rfl | rfl | rfl | rfl | rfl | rfl | rfl | rfl | rfl | rfl | rfl | rfl | rfl | rfl | rfl | rfl <;> rfl

theorem dX3_init_0 : decode cX3_init 0 = .ok (.aload_n 0, 1) := by decide +kernel
theorem dX3_init_1 : decode cX3_init 1 = .ok (.invokespecial 3, 3) := by decide +kernel
theorem dX3_init_4 : decode cX3_init 4 = .ok (.aload_n 0, 1) := by decide +kernel
theorem dX3_init_5 : decode cX3_init 5 = .ok (.bipush 6, 2) := by decide +kernel
theorem dX3_init_7 : decode cX3_init 7 = .ok (.iconst 5, 1) := by decide +kernel
theorem dX3_init_8 : decode cX3_init 8 = .ok (.multianewarray 11 2, 4) := by decide +kernel
theorem dX3_init_12 : decode cX3_init 12 = .ok (.putfield 13, 3) := by decide +kernel
theorem dX3_init_15 : decode cX3_init 15 = .ok (.aload_n 0, 1) := by decide +kernel
theorem dX3_init_16 : decode cX3_init 16 = .ok (.iconst 0, 1) := by decide +kernel
theorem dX3_init_17 : decode cX3_init 17 = .ok (.putfield 16, 3) := by decide +kernel
theorem dX3_init_20 : decode cX3_init 20 = .ok (.return_, 1) := by decide +kernel
set_option maxRecDepth 100000 in
set_option maxHeartbeats 4000000 in
theorem c_X3_init {L : Launch} {Y : gY} {z b : Nat} {ws0 : va_W} : Met L yX3_init (gws yX3_init cX3_init 1 none) { frames := 1, cells := 7, slots := 36, locals := 12 } (va_Pc [.ref b] (gPn Y z (ws0 ++ [(b, .inr (3, [.null, .int 0]))]))) (gQn Y z (fun (q : Nat) => ws0 ++ ([(b, .inr (3, [.ref q, .int 0]))] ++ gGrid Y q 6 5))) 7 36 (gAz z) := by
  refine gmetn (lv := [(0, .ref b)]) (rm := { frames := 1, cells := 7, slots := 36, locals := 12 }) "GuestStaff$Notes" (by decide) rfl rfl (Nat.le_of_ble_eq_true rfl) rfl (fun X hC hmn hr hQ => ?_)
  refine n_aload_n hC 0 dX3_init_0 rfl rfl ?_
  refine n_obj hC wM_X3_3 wobj dX3_init_1 (by decide) (Nat.le_of_ble_eq_true rfl) ?_
  refine n_aload_n hC 0 dX3_init_4 rfl rfl ?_
  refine n_bipush hC 6 dX3_init_5 rfl ?_
  refine n_iconst hC 5 dX3_init_7 rfl ?_
  refine n_mna hC 6 5 wL_X3_11 wR_int (by decide) (by decide) rfl rfl (by decide) (by decide) (by decide) (by decide) (by decide) dX3_init_8 (fun q1 => ?_)
  refine n_eq (ws' := ws0 ++ ([(b, .inr (3, [.null, .int 0]))] ++ gGrid Y q1 6 5)) 7 36 (by simp only [List.append_assoc, List.cons_append, List.nil_append]) rfl rfl ?_
  refine n_putF (j := 0) (p := 0) hC (([(b, .inr (3, [.ref q1, .int 0]))] ++ gGrid Y q1 6 5)) hmn rfl rfl in_X3 tyX3_ok nmX3 (by decide) wF_X3_13 rfl rfl (tyX3_ok 0 (by decide)) rfl rfl (Nat.le_of_ble_eq_true rfl) rfl dX3_init_12 ?_
  refine n_aload_n hC 0 dX3_init_15 rfl rfl ?_
  refine n_iconst hC 0 dX3_init_16 rfl ?_
  refine n_put (j := 1) (p := 0) hC (([(b, .inr (3, [.ref q1, .int 0]))] ++ gGrid Y q1 6 5)) rfl rfl in_X3 tyX3_ok nmX3 (by decide) wF_X3_16 rfl (tyX3_ok 1 (by decide)) rfl rfl (Nat.le_of_ble_eq_true rfl) rfl dX3_init_17 ?_
  exact n_ret hC q1 hr hQ (by first | rfl | simp) dX3_init_20

theorem dX9_init_0 : decode cX9_init 0 = .ok (.aload_n 0, 1) := by decide +kernel
theorem dX9_init_1 : decode cX9_init 1 = .ok (.invokespecial 3, 3) := by decide +kernel
theorem dX9_init_4 : decode cX9_init 4 = .ok (.aload_n 0, 1) := by decide +kernel
theorem dX9_init_5 : decode cX9_init 5 = .ok (.sipush 150, 3) := by decide +kernel
theorem dX9_init_8 : decode cX9_init 8 = .ok (.newarray .int, 2) := by decide +kernel
theorem dX9_init_10 : decode cX9_init 10 = .ok (.putfield 9, 3) := by decide +kernel
theorem dX9_init_13 : decode cX9_init 13 = .ok (.aload_n 0, 1) := by decide +kernel
theorem dX9_init_14 : decode cX9_init 14 = .ok (.iconst 0, 1) := by decide +kernel
theorem dX9_init_15 : decode cX9_init 15 = .ok (.putfield 15, 3) := by decide +kernel
theorem dX9_init_18 : decode cX9_init 18 = .ok (.aload_n 0, 1) := by decide +kernel
theorem dX9_init_19 : decode cX9_init 19 = .ok (.iconst 0, 1) := by decide +kernel
theorem dX9_init_20 : decode cX9_init 20 = .ok (.putfield 19, 3) := by decide +kernel
theorem dX9_init_23 : decode cX9_init 23 = .ok (.aload_n 0, 1) := by decide +kernel
theorem dX9_init_24 : decode cX9_init 24 = .ok (.iconst 0, 1) := by decide +kernel
theorem dX9_init_25 : decode cX9_init 25 = .ok (.putfield 22, 3) := by decide +kernel
theorem dX9_init_28 : decode cX9_init 28 = .ok (.aload_n 0, 1) := by decide +kernel
theorem dX9_init_29 : decode cX9_init 29 = .ok (.iconst 0, 1) := by decide +kernel
theorem dX9_init_30 : decode cX9_init 30 = .ok (.putfield 25, 3) := by decide +kernel
theorem dX9_init_33 : decode cX9_init 33 = .ok (.aload_n 0, 1) := by decide +kernel
theorem dX9_init_34 : decode cX9_init 34 = .ok (.iconst (-1), 1) := by decide +kernel
theorem dX9_init_35 : decode cX9_init 35 = .ok (.putfield 28, 3) := by decide +kernel
theorem dX9_init_38 : decode cX9_init 38 = .ok (.return_, 1) := by decide +kernel
set_option maxRecDepth 100000 in
set_option maxHeartbeats 4000000 in
theorem c_X9_init {L : Launch} {Y : gY} {z b : Nat} {ws0 : va_W} : Met L yX9_init (gws yX9_init cX9_init 1 none) { frames := 1, cells := 1, slots := 150, locals := 12 } (va_Pc [.ref b] (gPn Y z (ws0 ++ [(b, .inr (9, [.null, .int 0, .int 0, .int 0, .int 0, .int 0]))]))) (gQn Y z (fun (q : Nat) => ws0 ++ ([(b, .inr (9, [.ref q, .int 0, .int 0, .int 0, .int 0, .int (-1)]))] ++ [(q, .inl (gca Y 0, 150, .inl (fun _ => 0)))]))) 1 150 (gAz z) := by
  refine gmetn (lv := [(0, .ref b)]) (rm := { frames := 1, cells := 1, slots := 150, locals := 12 }) "GuestStaff$Text" (by decide) rfl rfl (Nat.le_of_ble_eq_true rfl) rfl (fun X hC hmn hr hQ => ?_)
  refine n_aload_n hC 0 dX9_init_0 rfl rfl ?_
  refine n_obj hC wM_X9_3 wobj dX9_init_1 (by decide) (Nat.le_of_ble_eq_true rfl) ?_
  refine n_aload_n hC 0 dX9_init_4 rfl rfl ?_
  refine n_sipush hC 150 dX9_init_5 rfl ?_
  refine n_newa (at_ := .int) (ty := .int) (t0 := 0) hC 150 rfl wR_int rfl (fun _ _ h => h) rfl (by decide) rfl (by decide) (by decide) (by decide) dX9_init_8 (fun q1 => ?_)
  refine n_eq (ws' := ws0 ++ [(b, .inr (9, [.null, .int 0, .int 0, .int 0, .int 0, .int 0])), (q1, .inl (gca Y 0, 150, .inl (fun _ => 0)))]) 1 150 (by simp only [List.append_assoc, List.cons_append, List.nil_append]) rfl rfl ?_
  refine n_putF (j := 0) (p := 0) hC ([(b, .inr (9, [.ref q1, .int 0, .int 0, .int 0, .int 0, .int 0])), (q1, .inl (gca Y 0, 150, .inl (fun _ => 0)))]) hmn rfl rfl in_X9 tyX9_ok nmX9 (by decide) wF_X9_9 rfl rfl (tyX9_ok 0 (by decide)) rfl rfl (Nat.le_of_ble_eq_true rfl) rfl dX9_init_10 ?_
  refine n_aload_n hC 0 dX9_init_13 rfl rfl ?_
  refine n_iconst hC 0 dX9_init_14 rfl ?_
  refine n_put (j := 1) (p := 0) hC ([(b, .inr (9, [.ref q1, .int 0, .int 0, .int 0, .int 0, .int 0])), (q1, .inl (gca Y 0, 150, .inl (fun _ => 0)))]) rfl rfl in_X9 tyX9_ok nmX9 (by decide) wF_X9_15 rfl (tyX9_ok 1 (by decide)) rfl rfl (Nat.le_of_ble_eq_true rfl) rfl dX9_init_15 ?_
  refine n_aload_n hC 0 dX9_init_18 rfl rfl ?_
  refine n_iconst hC 0 dX9_init_19 rfl ?_
  refine n_put (j := 2) (p := 0) hC ([(b, .inr (9, [.ref q1, .int 0, .int 0, .int 0, .int 0, .int 0])), (q1, .inl (gca Y 0, 150, .inl (fun _ => 0)))]) rfl rfl in_X9 tyX9_ok nmX9 (by decide) wF_X9_19 rfl (tyX9_ok 2 (by decide)) rfl rfl (Nat.le_of_ble_eq_true rfl) rfl dX9_init_20 ?_
  refine n_aload_n hC 0 dX9_init_23 rfl rfl ?_
  refine n_iconst hC 0 dX9_init_24 rfl ?_
  refine n_put (j := 3) (p := 0) hC ([(b, .inr (9, [.ref q1, .int 0, .int 0, .int 0, .int 0, .int 0])), (q1, .inl (gca Y 0, 150, .inl (fun _ => 0)))]) rfl rfl in_X9 tyX9_ok nmX9 (by decide) wF_X9_22 rfl (tyX9_ok 3 (by decide)) rfl rfl (Nat.le_of_ble_eq_true rfl) rfl dX9_init_25 ?_
  refine n_aload_n hC 0 dX9_init_28 rfl rfl ?_
  refine n_iconst hC 0 dX9_init_29 rfl ?_
  refine n_put (j := 4) (p := 0) hC ([(b, .inr (9, [.ref q1, .int 0, .int 0, .int 0, .int 0, .int 0])), (q1, .inl (gca Y 0, 150, .inl (fun _ => 0)))]) rfl rfl in_X9 tyX9_ok nmX9 (by decide) wF_X9_25 rfl (tyX9_ok 4 (by decide)) rfl rfl (Nat.le_of_ble_eq_true rfl) rfl dX9_init_30 ?_
  refine n_aload_n hC 0 dX9_init_33 rfl rfl ?_
  refine n_iconst hC (-1) dX9_init_34 rfl ?_
  refine n_put (j := 5) (p := 0) hC ([(b, .inr (9, [.ref q1, .int 0, .int 0, .int 0, .int 0, .int (-1)])), (q1, .inl (gca Y 0, 150, .inl (fun _ => 0)))]) rfl rfl in_X9 tyX9_ok nmX9 (by decide) wF_X9_28 rfl (tyX9_ok 5 (by decide)) rfl rfl (Nat.le_of_ble_eq_true rfl) rfl dX9_init_35 ?_
  exact n_ret hC q1 hr hQ (by first | rfl | simp) dX9_init_38

def rblk (Y : gY) (b : Nat) (r : Nat → Nat) : va_W := ([(b, .inr (7, [.ref (r 0), .ref (r 1), .ref (r 2), .ref (r 3), .int 0]))] ++ ([(r 0, .inl (gca Y 0, 7, .inl (fun _ => 0))), (r 1, .inl (gca Y 0, 7, .inl (fun _ => 0)))] ++ (gGrid Y (r 2) 7 7 ++ [(r 3, .inl (gca Y 0, 128, .inl (fun _ => 0)))])))

theorem dX7_init_0 : decode cX7_init 0 = .ok (.aload_n 0, 1) := by decide +kernel
theorem dX7_init_1 : decode cX7_init 1 = .ok (.invokespecial 3, 3) := by decide +kernel
theorem dX7_init_4 : decode cX7_init 4 = .ok (.aload_n 0, 1) := by decide +kernel
theorem dX7_init_5 : decode cX7_init 5 = .ok (.bipush 7, 2) := by decide +kernel
theorem dX7_init_7 : decode cX7_init 7 = .ok (.newarray .int, 2) := by decide +kernel
theorem dX7_init_9 : decode cX7_init 9 = .ok (.putfield 9, 3) := by decide +kernel
theorem dX7_init_12 : decode cX7_init 12 = .ok (.aload_n 0, 1) := by decide +kernel
theorem dX7_init_13 : decode cX7_init 13 = .ok (.bipush 7, 2) := by decide +kernel
theorem dX7_init_15 : decode cX7_init 15 = .ok (.newarray .int, 2) := by decide +kernel
theorem dX7_init_17 : decode cX7_init 17 = .ok (.putfield 15, 3) := by decide +kernel
theorem dX7_init_20 : decode cX7_init 20 = .ok (.aload_n 0, 1) := by decide +kernel
theorem dX7_init_21 : decode cX7_init 21 = .ok (.bipush 7, 2) := by decide +kernel
theorem dX7_init_23 : decode cX7_init 23 = .ok (.bipush 7, 2) := by decide +kernel
theorem dX7_init_25 : decode cX7_init 25 = .ok (.multianewarray 18 2, 4) := by decide +kernel
theorem dX7_init_29 : decode cX7_init 29 = .ok (.putfield 20, 3) := by decide +kernel
theorem dX7_init_32 : decode cX7_init 32 = .ok (.aload_n 0, 1) := by decide +kernel
theorem dX7_init_33 : decode cX7_init 33 = .ok (.sipush 128, 3) := by decide +kernel
theorem dX7_init_36 : decode cX7_init 36 = .ok (.newarray .int, 2) := by decide +kernel
theorem dX7_init_38 : decode cX7_init 38 = .ok (.putfield 23, 3) := by decide +kernel
theorem dX7_init_41 : decode cX7_init 41 = .ok (.aload_n 0, 1) := by decide +kernel
theorem dX7_init_42 : decode cX7_init 42 = .ok (.iconst 0, 1) := by decide +kernel
theorem dX7_init_43 : decode cX7_init 43 = .ok (.putfield 26, 3) := by decide +kernel
theorem dX7_init_46 : decode cX7_init 46 = .ok (.return_, 1) := by decide +kernel
set_option maxRecDepth 100000 in
set_option maxHeartbeats 4000000 in
theorem c_X7_init {L : Launch} {Y : gY} {z b : Nat} {ws0 : va_W} : Met L yX7_init (gws yX7_init cX7_init 1 none) { frames := 1, cells := 11, slots := 198, locals := 12 } (va_Pc [.ref b] (gPn Y z (ws0 ++ [(b, .inr (7, [.null, .null, .null, .null, .int 0]))]))) (gQn Y z (fun (r : Nat → Nat) => ws0 ++ rblk Y b r)) 11 198 (gAz z) := by
  refine gmetn (lv := [(0, .ref b)]) (rm := { frames := 1, cells := 11, slots := 198, locals := 12 }) "GuestStaff$Rows" (by decide) rfl rfl (Nat.le_of_ble_eq_true rfl) rfl (fun X hC hmn hr hQ => ?_)
  refine n_aload_n hC 0 dX7_init_0 rfl rfl ?_
  refine n_obj hC wM_X7_3 wobj dX7_init_1 (by decide) (Nat.le_of_ble_eq_true rfl) ?_
  refine n_aload_n hC 0 dX7_init_4 rfl rfl ?_
  refine n_bipush hC 7 dX7_init_5 rfl ?_
  refine n_newa (at_ := .int) (ty := .int) (t0 := 0) hC 7 rfl wR_int rfl (fun _ _ h => h) rfl (by decide) rfl (by decide) (by decide) (by decide) dX7_init_7 (fun q1 => ?_)
  refine n_eq (ws' := ws0 ++ [(b, .inr (7, [.null, .null, .null, .null, .int 0])), (q1, .inl (gca Y 0, 7, .inl (fun _ => 0)))]) 1 7 (by simp only [List.append_assoc, List.cons_append, List.nil_append]) rfl rfl ?_
  refine n_putF (j := 0) (p := 0) hC ([(b, .inr (7, [.ref q1, .null, .null, .null, .int 0])), (q1, .inl (gca Y 0, 7, .inl (fun _ => 0)))]) hmn rfl rfl in_X7 tyX7_ok nmX7 (by decide) wF_X7_9 rfl rfl (tyX7_ok 0 (by decide)) rfl rfl (Nat.le_of_ble_eq_true rfl) rfl dX7_init_9 ?_
  refine n_aload_n hC 0 dX7_init_12 rfl rfl ?_
  refine n_bipush hC 7 dX7_init_13 rfl ?_
  refine n_newa (at_ := .int) (ty := .int) (t0 := 0) hC 7 rfl wR_int rfl (fun _ _ h => h) rfl (by decide) rfl (by decide) (by decide) (by decide) dX7_init_15 (fun q2 => ?_)
  refine n_eq (ws' := ws0 ++ [(b, .inr (7, [.ref q1, .null, .null, .null, .int 0])), (q1, .inl (gca Y 0, 7, .inl (fun _ => 0))), (q2, .inl (gca Y 0, 7, .inl (fun _ => 0)))]) 2 14 (by simp only [List.append_assoc, List.cons_append, List.nil_append]) rfl rfl ?_
  refine n_putF (j := 1) (p := 0) hC ([(b, .inr (7, [.ref q1, .ref q2, .null, .null, .int 0])), (q1, .inl (gca Y 0, 7, .inl (fun _ => 0))), (q2, .inl (gca Y 0, 7, .inl (fun _ => 0)))]) hmn rfl rfl in_X7 tyX7_ok nmX7 (by decide) wF_X7_15 rfl rfl (tyX7_ok 1 (by decide)) rfl rfl (Nat.le_of_ble_eq_true rfl) rfl dX7_init_17 ?_
  refine n_aload_n hC 0 dX7_init_20 rfl rfl ?_
  refine n_bipush hC 7 dX7_init_21 rfl ?_
  refine n_bipush hC 7 dX7_init_23 rfl ?_
  refine n_mna hC 7 7 wL_X7_18 wR_int (by decide) (by decide) rfl rfl (by decide) (by decide) (by decide) (by decide) (by decide) dX7_init_25 (fun q3 => ?_)
  refine n_eq (ws' := ws0 ++ ([(b, .inr (7, [.ref q1, .ref q2, .null, .null, .int 0])), (q1, .inl (gca Y 0, 7, .inl (fun _ => 0))), (q2, .inl (gca Y 0, 7, .inl (fun _ => 0)))] ++ gGrid Y q3 7 7)) 10 70 (by simp only [List.append_assoc, List.cons_append, List.nil_append]) rfl rfl ?_
  refine n_putF (j := 2) (p := 0) hC (([(b, .inr (7, [.ref q1, .ref q2, .ref q3, .null, .int 0])), (q1, .inl (gca Y 0, 7, .inl (fun _ => 0))), (q2, .inl (gca Y 0, 7, .inl (fun _ => 0)))] ++ gGrid Y q3 7 7)) hmn rfl rfl in_X7 tyX7_ok nmX7 (by decide) wF_X7_20 rfl rfl (tyX7_ok 2 (by decide)) rfl rfl (Nat.le_of_ble_eq_true rfl) rfl dX7_init_29 ?_
  refine n_aload_n hC 0 dX7_init_32 rfl rfl ?_
  refine n_sipush hC 128 dX7_init_33 rfl ?_
  refine n_newa (at_ := .int) (ty := .int) (t0 := 0) hC 128 rfl wR_int rfl (fun _ _ h => h) rfl (by decide) rfl (by decide) (by decide) (by decide) dX7_init_36 (fun q4 => ?_)
  refine n_eq (ws' := ws0 ++ ([(b, .inr (7, [.ref q1, .ref q2, .ref q3, .null, .int 0])), (q1, .inl (gca Y 0, 7, .inl (fun _ => 0))), (q2, .inl (gca Y 0, 7, .inl (fun _ => 0)))] ++ (gGrid Y q3 7 7 ++ [(q4, .inl (gca Y 0, 128, .inl (fun _ => 0)))]))) 11 198 (by simp only [List.append_assoc, List.cons_append, List.nil_append]) rfl rfl ?_
  refine n_putF (j := 3) (p := 0) hC (([(b, .inr (7, [.ref q1, .ref q2, .ref q3, .ref q4, .int 0])), (q1, .inl (gca Y 0, 7, .inl (fun _ => 0))), (q2, .inl (gca Y 0, 7, .inl (fun _ => 0)))] ++ (gGrid Y q3 7 7 ++ [(q4, .inl (gca Y 0, 128, .inl (fun _ => 0)))]))) hmn rfl rfl in_X7 tyX7_ok nmX7 (by decide) wF_X7_23 rfl rfl (tyX7_ok 3 (by decide)) rfl rfl (Nat.le_of_ble_eq_true rfl) rfl dX7_init_38 ?_
  refine n_aload_n hC 0 dX7_init_41 rfl rfl ?_
  refine n_iconst hC 0 dX7_init_42 rfl ?_
  refine n_put (j := 4) (p := 0) hC (([(b, .inr (7, [.ref q1, .ref q2, .ref q3, .ref q4, .int 0])), (q1, .inl (gca Y 0, 7, .inl (fun _ => 0))), (q2, .inl (gca Y 0, 7, .inl (fun _ => 0)))] ++ (gGrid Y q3 7 7 ++ [(q4, .inl (gca Y 0, 128, .inl (fun _ => 0)))]))) rfl rfl in_X7 tyX7_ok nmX7 (by decide) wF_X7_26 rfl (tyX7_ok 4 (by decide)) rfl rfl (Nat.le_of_ble_eq_true rfl) rfl dX7_init_43 ?_
  exact n_ret hC (fun i => [q1, q2, q3, q4].getD i 0) hr hQ (by first | rfl | simp) dX7_init_46
