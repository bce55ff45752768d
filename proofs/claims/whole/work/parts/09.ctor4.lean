def hblk (Y : gY) (b kq : Nat) (r : Nat → Nat) : va_W := [(b, .inr (1, [.ref kq, .ref (r 1), .ref (r 2), .ref (r 3), .ref (r 4), .ref (r 5), .ref (r 6), .ref (r 14), .ref (r 23), .ref (r 32), .ref (r 33), .int 0, .int 0, .int 0, .int 0, .int 0])), (r 1, .inl (gca Y 0, 7, .inl (fun _ => 0))), (r 2, .inl (gca Y 0, 7, .inl (fun _ => 0))), (r 3, .inl (gca Y 0, 7, .inl (fun _ => 0))), (r 4, .inl (gca Y 0, 7, .inl (fun _ => 0))), (r 5, .inl (gca Y 0, 7, .inl (fun _ => 0))), (r 6, .inr (3, [.ref (r 7), .int 0]))] ++ (gGrid Y (r 7) 6 5 ++ (gGrid Y (r 14) 8 7 ++ (gGrid Y (r 23) 8 7 ++ [(r 32, .inl (gca Y 0, 8, .inl (fun _ => 0))), (r 33, .inl (gca Y 0, 8, .inl (fun _ => 0)))])))

theorem dX1_init_0 : decode cX1_init 0 = .ok (.aload_n 0, 1) := by decide +kernel
theorem dX1_init_1 : decode cX1_init 1 = .ok (.invokespecial 3, 3) := by decide +kernel
theorem dX1_init_4 : decode cX1_init 4 = .ok (.aload_n 0, 1) := by decide +kernel
theorem dX1_init_5 : decode cX1_init 5 = .ok (.bipush 7, 2) := by decide +kernel
theorem dX1_init_7 : decode cX1_init 7 = .ok (.newarray .int, 2) := by decide +kernel
theorem dX1_init_9 : decode cX1_init 9 = .ok (.putfield 9, 3) := by decide +kernel
theorem dX1_init_12 : decode cX1_init 12 = .ok (.aload_n 0, 1) := by decide +kernel
theorem dX1_init_13 : decode cX1_init 13 = .ok (.bipush 7, 2) := by decide +kernel
theorem dX1_init_15 : decode cX1_init 15 = .ok (.newarray .int, 2) := by decide +kernel
theorem dX1_init_17 : decode cX1_init 17 = .ok (.putfield 15, 3) := by decide +kernel
theorem dX1_init_20 : decode cX1_init 20 = .ok (.aload_n 0, 1) := by decide +kernel
theorem dX1_init_21 : decode cX1_init 21 = .ok (.bipush 7, 2) := by decide +kernel
theorem dX1_init_23 : decode cX1_init 23 = .ok (.newarray .int, 2) := by decide +kernel
theorem dX1_init_25 : decode cX1_init 25 = .ok (.putfield 18, 3) := by decide +kernel
theorem dX1_init_28 : decode cX1_init 28 = .ok (.aload_n 0, 1) := by decide +kernel
theorem dX1_init_29 : decode cX1_init 29 = .ok (.bipush 7, 2) := by decide +kernel
theorem dX1_init_31 : decode cX1_init 31 = .ok (.newarray .int, 2) := by decide +kernel
theorem dX1_init_33 : decode cX1_init 33 = .ok (.putfield 21, 3) := by decide +kernel
theorem dX1_init_36 : decode cX1_init 36 = .ok (.aload_n 0, 1) := by decide +kernel
theorem dX1_init_37 : decode cX1_init 37 = .ok (.bipush 7, 2) := by decide +kernel
theorem dX1_init_39 : decode cX1_init 39 = .ok (.newarray .int, 2) := by decide +kernel
theorem dX1_init_41 : decode cX1_init 41 = .ok (.putfield 24, 3) := by decide +kernel
theorem dX1_init_44 : decode cX1_init 44 = .ok (.aload_n 0, 1) := by decide +kernel
theorem dX1_init_45 : decode cX1_init 45 = .ok (.new 27, 3) := by decide +kernel
theorem dX1_init_48 : decode cX1_init 48 = .ok (.dup, 1) := by decide +kernel
theorem dX1_init_49 : decode cX1_init 49 = .ok (.invokespecial 29, 3) := by decide +kernel
theorem dX1_init_52 : decode cX1_init 52 = .ok (.putfield 30, 3) := by decide +kernel
theorem dX1_init_55 : decode cX1_init 55 = .ok (.aload_n 0, 1) := by decide +kernel
theorem dX1_init_56 : decode cX1_init 56 = .ok (.bipush 8, 2) := by decide +kernel
theorem dX1_init_58 : decode cX1_init 58 = .ok (.bipush 7, 2) := by decide +kernel
theorem dX1_init_60 : decode cX1_init 60 = .ok (.multianewarray 34 2, 4) := by decide +kernel
theorem dX1_init_64 : decode cX1_init 64 = .ok (.putfield 36, 3) := by decide +kernel
theorem dX1_init_67 : decode cX1_init 67 = .ok (.aload_n 0, 1) := by decide +kernel
theorem dX1_init_68 : decode cX1_init 68 = .ok (.bipush 8, 2) := by decide +kernel
theorem dX1_init_70 : decode cX1_init 70 = .ok (.bipush 7, 2) := by decide +kernel
theorem dX1_init_72 : decode cX1_init 72 = .ok (.multianewarray 34 2, 4) := by decide +kernel
theorem dX1_init_76 : decode cX1_init 76 = .ok (.putfield 39, 3) := by decide +kernel
theorem dX1_init_79 : decode cX1_init 79 = .ok (.aload_n 0, 1) := by decide +kernel
theorem dX1_init_80 : decode cX1_init 80 = .ok (.bipush 8, 2) := by decide +kernel
theorem dX1_init_82 : decode cX1_init 82 = .ok (.newarray .int, 2) := by decide +kernel
theorem dX1_init_84 : decode cX1_init 84 = .ok (.putfield 42, 3) := by decide +kernel
theorem dX1_init_87 : decode cX1_init 87 = .ok (.aload_n 0, 1) := by decide +kernel
theorem dX1_init_88 : decode cX1_init 88 = .ok (.bipush 8, 2) := by decide +kernel
theorem dX1_init_90 : decode cX1_init 90 = .ok (.newarray .int, 2) := by decide +kernel
theorem dX1_init_92 : decode cX1_init 92 = .ok (.putfield 45, 3) := by decide +kernel
theorem dX1_init_95 : decode cX1_init 95 = .ok (.aload_n 0, 1) := by decide +kernel
theorem dX1_init_96 : decode cX1_init 96 = .ok (.iconst 0, 1) := by decide +kernel
theorem dX1_init_97 : decode cX1_init 97 = .ok (.putfield 48, 3) := by decide +kernel
theorem dX1_init_100 : decode cX1_init 100 = .ok (.aload_n 0, 1) := by decide +kernel
theorem dX1_init_101 : decode cX1_init 101 = .ok (.iconst 0, 1) := by decide +kernel
theorem dX1_init_102 : decode cX1_init 102 = .ok (.putfield 52, 3) := by decide +kernel
theorem dX1_init_105 : decode cX1_init 105 = .ok (.aload_n 0, 1) := by decide +kernel
theorem dX1_init_106 : decode cX1_init 106 = .ok (.iconst 0, 1) := by decide +kernel
theorem dX1_init_107 : decode cX1_init 107 = .ok (.putfield 55, 3) := by decide +kernel
theorem dX1_init_110 : decode cX1_init 110 = .ok (.aload_n 0, 1) := by decide +kernel
theorem dX1_init_111 : decode cX1_init 111 = .ok (.iconst 0, 1) := by decide +kernel
theorem dX1_init_112 : decode cX1_init 112 = .ok (.putfield 58, 3) := by decide +kernel
theorem dX1_init_115 : decode cX1_init 115 = .ok (.aload_n 0, 1) := by decide +kernel
theorem dX1_init_116 : decode cX1_init 116 = .ok (.iconst 0, 1) := by decide +kernel
theorem dX1_init_117 : decode cX1_init 117 = .ok (.putfield 61, 3) := by decide +kernel
theorem dX1_init_120 : decode cX1_init 120 = .ok (.aload_n 0, 1) := by decide +kernel
theorem dX1_init_121 : decode cX1_init 121 = .ok (.aload_n 1, 1) := by decide +kernel
theorem dX1_init_122 : decode cX1_init 122 = .ok (.putfield 64, 3) := by decide +kernel
theorem dX1_init_125 : decode cX1_init 125 = .ok (.return_, 1) := by decide +kernel
set_option maxRecDepth 100000 in
set_option maxHeartbeats 4000000 in
theorem c_X1_init {L : Launch} {Y : gY} {z b kq : Nat} {ws0 : va_W} : Met L yX1_init (gws yX1_init cX1_init 2 none) { frames := 2, cells := 33, slots := 217, locals := 32 } (va_Pc [.ref b, .ref kq] (gPn Y z (ws0 ++ [(b, .inr (1, [.null, .null, .null, .null, .null, .null, .null, .null, .null, .null, .null, .int 0, .int 0, .int 0, .int 0, .int 0]))]))) (gQn Y z (fun (r : Nat → Nat) => ws0 ++ hblk Y b kq r)) 33 217 (gAz z) := by
  refine gmetn (lv := [(0, .ref b), (1, .ref kq)]) (rm := { frames := 2, cells := 33, slots := 217, locals := 32 }) "GuestStaff$House" (by decide) rfl rfl (Nat.le_of_ble_eq_true rfl) rfl (fun X hC hmn hr hQ => ?_)
  refine n_aload_n hC 0 dX1_init_0 rfl rfl ?_
  refine n_obj hC wM_X1_3 wobj dX1_init_1 (by decide) (Nat.le_of_ble_eq_true rfl) ?_
  refine n_aload_n hC 0 dX1_init_4 rfl rfl ?_
  refine n_bipush hC 7 dX1_init_5 rfl ?_
  refine n_newa (at_ := .int) (ty := .int) (t0 := 0) hC 7 rfl wR_int rfl (fun _ _ h => h) rfl (by decide) rfl (by decide) (by decide) (by decide) dX1_init_7 (fun q1 => ?_)
  refine n_eq (ws' := ws0 ++ [(b, .inr (1, [.null, .null, .null, .null, .null, .null, .null, .null, .null, .null, .null, .int 0, .int 0, .int 0, .int 0, .int 0])), (q1, .inl (gca Y 0, 7, .inl (fun _ => 0)))]) 1 7 (by simp only [List.append_assoc, List.cons_append, List.nil_append]) rfl rfl ?_
  refine n_putF (j := 1) (p := 0) hC ([(b, .inr (1, [.null, .ref q1, .null, .null, .null, .null, .null, .null, .null, .null, .null, .int 0, .int 0, .int 0, .int 0, .int 0])), (q1, .inl (gca Y 0, 7, .inl (fun _ => 0)))]) hmn rfl rfl in_X1 tyX1_ok nmX1 (by decide) wF_X1_9 rfl rfl (tyX1_ok 1 (by decide)) rfl rfl (Nat.le_of_ble_eq_true rfl) rfl dX1_init_9 ?_
  refine n_aload_n hC 0 dX1_init_12 rfl rfl ?_
  refine n_bipush hC 7 dX1_init_13 rfl ?_
  refine n_newa (at_ := .int) (ty := .int) (t0 := 0) hC 7 rfl wR_int rfl (fun _ _ h => h) rfl (by decide) rfl (by decide) (by decide) (by decide) dX1_init_15 (fun q2 => ?_)
  refine n_eq (ws' := ws0 ++ [(b, .inr (1, [.null, .ref q1, .null, .null, .null, .null, .null, .null, .null, .null, .null, .int 0, .int 0, .int 0, .int 0, .int 0])), (q1, .inl (gca Y 0, 7, .inl (fun _ => 0))), (q2, .inl (gca Y 0, 7, .inl (fun _ => 0)))]) 2 14 (by simp only [List.append_assoc, List.cons_append, List.nil_append]) rfl rfl ?_
  refine n_putF (j := 2) (p := 0) hC ([(b, .inr (1, [.null, .ref q1, .ref q2, .null, .null, .null, .null, .null, .null, .null, .null, .int 0, .int 0, .int 0, .int 0, .int 0])), (q1, .inl (gca Y 0, 7, .inl (fun _ => 0))), (q2, .inl (gca Y 0, 7, .inl (fun _ => 0)))]) hmn rfl rfl in_X1 tyX1_ok nmX1 (by decide) wF_X1_15 rfl rfl (tyX1_ok 2 (by decide)) rfl rfl (Nat.le_of_ble_eq_true rfl) rfl dX1_init_17 ?_
  refine n_aload_n hC 0 dX1_init_20 rfl rfl ?_
  refine n_bipush hC 7 dX1_init_21 rfl ?_
  refine n_newa (at_ := .int) (ty := .int) (t0 := 0) hC 7 rfl wR_int rfl (fun _ _ h => h) rfl (by decide) rfl (by decide) (by decide) (by decide) dX1_init_23 (fun q3 => ?_)
  refine n_eq (ws' := ws0 ++ [(b, .inr (1, [.null, .ref q1, .ref q2, .null, .null, .null, .null, .null, .null, .null, .null, .int 0, .int 0, .int 0, .int 0, .int 0])), (q1, .inl (gca Y 0, 7, .inl (fun _ => 0))), (q2, .inl (gca Y 0, 7, .inl (fun _ => 0))), (q3, .inl (gca Y 0, 7, .inl (fun _ => 0)))]) 3 21 (by simp only [List.append_assoc, List.cons_append, List.nil_append]) rfl rfl ?_
  refine n_putF (j := 3) (p := 0) hC ([(b, .inr (1, [.null, .ref q1, .ref q2, .ref q3, .null, .null, .null, .null, .null, .null, .null, .int 0, .int 0, .int 0, .int 0, .int 0])), (q1, .inl (gca Y 0, 7, .inl (fun _ => 0))), (q2, .inl (gca Y 0, 7, .inl (fun _ => 0))), (q3, .inl (gca Y 0, 7, .inl (fun _ => 0)))]) hmn rfl rfl in_X1 tyX1_ok nmX1 (by decide) wF_X1_18 rfl rfl (tyX1_ok 3 (by decide)) rfl rfl (Nat.le_of_ble_eq_true rfl) rfl dX1_init_25 ?_
  refine n_aload_n hC 0 dX1_init_28 rfl rfl ?_
  refine n_bipush hC 7 dX1_init_29 rfl ?_
  refine n_newa (at_ := .int) (ty := .int) (t0 := 0) hC 7 rfl wR_int rfl (fun _ _ h => h) rfl (by decide) rfl (by decide) (by decide) (by decide) dX1_init_31 (fun q4 => ?_)
  refine n_eq (ws' := ws0 ++ [(b, .inr (1, [.null, .ref q1, .ref q2, .ref q3, .null, .null, .null, .null, .null, .null, .null, .int 0, .int 0, .int 0, .int 0, .int 0])), (q1, .inl (gca Y 0, 7, .inl (fun _ => 0))), (q2, .inl (gca Y 0, 7, .inl (fun _ => 0))), (q3, .inl (gca Y 0, 7, .inl (fun _ => 0))), (q4, .inl (gca Y 0, 7, .inl (fun _ => 0)))]) 4 28 (by simp only [List.append_assoc, List.cons_append, List.nil_append]) rfl rfl ?_
  refine n_putF (j := 4) (p := 0) hC ([(b, .inr (1, [.null, .ref q1, .ref q2, .ref q3, .ref q4, .null, .null, .null, .null, .null, .null, .int 0, .int 0, .int 0, .int 0, .int 0])), (q1, .inl (gca Y 0, 7, .inl (fun _ => 0))), (q2, .inl (gca Y 0, 7, .inl (fun _ => 0))), (q3, .inl (gca Y 0, 7, .inl (fun _ => 0))), (q4, .inl (gca Y 0, 7, .inl (fun _ => 0)))]) hmn rfl rfl in_X1 tyX1_ok nmX1 (by decide) wF_X1_21 rfl rfl (tyX1_ok 4 (by decide)) rfl rfl (Nat.le_of_ble_eq_true rfl) rfl dX1_init_33 ?_
  refine n_aload_n hC 0 dX1_init_36 rfl rfl ?_
  refine n_bipush hC 7 dX1_init_37 rfl ?_
  refine n_newa (at_ := .int) (ty := .int) (t0 := 0) hC 7 rfl wR_int rfl (fun _ _ h => h) rfl (by decide) rfl (by decide) (by decide) (by decide) dX1_init_39 (fun q5 => ?_)
  refine n_eq (ws' := ws0 ++ [(b, .inr (1, [.null, .ref q1, .ref q2, .ref q3, .ref q4, .null, .null, .null, .null, .null, .null, .int 0, .int 0, .int 0, .int 0, .int 0])), (q1, .inl (gca Y 0, 7, .inl (fun _ => 0))), (q2, .inl (gca Y 0, 7, .inl (fun _ => 0))), (q3, .inl (gca Y 0, 7, .inl (fun _ => 0))), (q4, .inl (gca Y 0, 7, .inl (fun _ => 0))), (q5, .inl (gca Y 0, 7, .inl (fun _ => 0)))]) 5 35 (by simp only [List.append_assoc, List.cons_append, List.nil_append]) rfl rfl ?_
  refine n_putF (j := 5) (p := 0) hC ([(b, .inr (1, [.null, .ref q1, .ref q2, .ref q3, .ref q4, .ref q5, .null, .null, .null, .null, .null, .int 0, .int 0, .int 0, .int 0, .int 0])), (q1, .inl (gca Y 0, 7, .inl (fun _ => 0))), (q2, .inl (gca Y 0, 7, .inl (fun _ => 0))), (q3, .inl (gca Y 0, 7, .inl (fun _ => 0))), (q4, .inl (gca Y 0, 7, .inl (fun _ => 0))), (q5, .inl (gca Y 0, 7, .inl (fun _ => 0)))]) hmn rfl rfl in_X1 tyX1_ok nmX1 (by decide) wF_X1_24 rfl rfl (tyX1_ok 5 (by decide)) rfl rfl (Nat.le_of_ble_eq_true rfl) rfl dX1_init_41 ?_
  refine n_aload_n hC 0 dX1_init_44 rfl rfl ?_
  refine n_new (ci := 3) hC [.null, .int 0] rfl in_X3 tyX3_ok wL_X1_27 wT_X3 wI_X3 hfs_X3 (by decide) (by decide) dX1_init_45 (fun q6 => ?_)
  refine n_eq (ws' := ws0 ++ [(b, .inr (1, [.null, .ref q1, .ref q2, .ref q3, .ref q4, .ref q5, .null, .null, .null, .null, .null, .int 0, .int 0, .int 0, .int 0, .int 0])), (q1, .inl (gca Y 0, 7, .inl (fun _ => 0))), (q2, .inl (gca Y 0, 7, .inl (fun _ => 0))), (q3, .inl (gca Y 0, 7, .inl (fun _ => 0))), (q4, .inl (gca Y 0, 7, .inl (fun _ => 0))), (q5, .inl (gca Y 0, 7, .inl (fun _ => 0))), (q6, .inr (3, [.null, .int 0]))]) 6 37 (by simp only [List.append_assoc, List.cons_append, List.nil_append]) rfl rfl ?_
  refine n_dup hC dX1_init_48 rfl ?_
  refine n_eq (ws' := ws0 ++ ([(b, .inr (1, [.null, .ref q1, .ref q2, .ref q3, .ref q4, .ref q5, .null, .null, .null, .null, .null, .int 0, .int 0, .int 0, .int 0, .int 0])), (q1, .inl (gca Y 0, 7, .inl (fun _ => 0))), (q2, .inl (gca Y 0, 7, .inl (fun _ => 0))), (q3, .inl (gca Y 0, 7, .inl (fun _ => 0))), (q4, .inl (gca Y 0, 7, .inl (fun _ => 0))), (q5, .inl (gca Y 0, 7, .inl (fun _ => 0)))] ++ [(q6, .inr (3, [.null, .int 0]))])) 6 37 (by simp only [List.append_assoc, List.cons_append, List.nil_append]) rfl rfl ?_
  refine n_call (k := 6) (n := 37) (l := [(b, .inr (1, [.null, .ref q1, .ref q2, .ref q3, .ref q4, .ref q5, .null, .null, .null, .null, .null, .int 0, .int 0, .int 0, .int 0, .int 0])), (q1, .inl (gca Y 0, 7, .inl (fun _ => 0))), (q2, .inl (gca Y 0, 7, .inl (fun _ => 0))), (q3, .inl (gca Y 0, 7, .inl (fun _ => 0))), (q4, .inl (gca Y 0, 7, .inl (fun _ => 0))), (q5, .inl (gca Y 0, 7, .inl (fun _ => 0)))]) (As := []) (rest := [.ref q6, .ref b]) hC mt_X3_init rfl mi_X3_init (Or.inr ⟨_, wG_X1_29⟩) c_X3_init ⟨by decide, by decide, by decide, by decide⟩ rfl rfl (Nat.le_of_ble_eq_true rfl) dX1_init_49 (fun r7 => ?_)
  refine n_eq (ws' := ws0 ++ ([(b, .inr (1, [.null, .ref q1, .ref q2, .ref q3, .ref q4, .ref q5, .null, .null, .null, .null, .null, .int 0, .int 0, .int 0, .int 0, .int 0])), (q1, .inl (gca Y 0, 7, .inl (fun _ => 0))), (q2, .inl (gca Y 0, 7, .inl (fun _ => 0))), (q3, .inl (gca Y 0, 7, .inl (fun _ => 0))), (q4, .inl (gca Y 0, 7, .inl (fun _ => 0))), (q5, .inl (gca Y 0, 7, .inl (fun _ => 0)))] ++ ([(q6, .inr (3, [.ref r7, .int 0]))] ++ gGrid Y r7 6 5))) 13 73 (by simp only [List.append_assoc, List.cons_append, List.nil_append]) rfl rfl ?_
  refine n_putF (j := 6) (p := 0) hC (([(b, .inr (1, [.null, .ref q1, .ref q2, .ref q3, .ref q4, .ref q5, .ref q6, .null, .null, .null, .null, .int 0, .int 0, .int 0, .int 0, .int 0])), (q1, .inl (gca Y 0, 7, .inl (fun _ => 0))), (q2, .inl (gca Y 0, 7, .inl (fun _ => 0))), (q3, .inl (gca Y 0, 7, .inl (fun _ => 0))), (q4, .inl (gca Y 0, 7, .inl (fun _ => 0))), (q5, .inl (gca Y 0, 7, .inl (fun _ => 0)))] ++ ([(q6, .inr (3, [.ref r7, .int 0]))] ++ gGrid Y r7 6 5))) hmn rfl rfl in_X1 tyX1_ok nmX1 (by decide) wF_X1_30 rfl rfl (tyX1_ok 6 (by decide)) rfl rfl (Nat.le_of_ble_eq_true rfl) rfl dX1_init_52 ?_
  refine n_aload_n hC 0 dX1_init_55 rfl rfl ?_
  refine n_bipush hC 8 dX1_init_56 rfl ?_
  refine n_bipush hC 7 dX1_init_58 rfl ?_
  refine n_mna hC 8 7 wL_X1_34 wR_int (by decide) (by decide) rfl rfl (by decide) (by decide) (by decide) (by decide) (by decide) dX1_init_60 (fun q8 => ?_)
  refine n_eq (ws' := ws0 ++ ([(b, .inr (1, [.null, .ref q1, .ref q2, .ref q3, .ref q4, .ref q5, .ref q6, .null, .null, .null, .null, .int 0, .int 0, .int 0, .int 0, .int 0])), (q1, .inl (gca Y 0, 7, .inl (fun _ => 0))), (q2, .inl (gca Y 0, 7, .inl (fun _ => 0))), (q3, .inl (gca Y 0, 7, .inl (fun _ => 0))), (q4, .inl (gca Y 0, 7, .inl (fun _ => 0))), (q5, .inl (gca Y 0, 7, .inl (fun _ => 0)))] ++ (([(q6, .inr (3, [.ref r7, .int 0]))] ++ gGrid Y r7 6 5) ++ gGrid Y q8 8 7))) 22 137 (by simp only [List.append_assoc, List.cons_append, List.nil_append]) rfl rfl ?_
  refine n_putF (j := 7) (p := 0) hC (([(b, .inr (1, [.null, .ref q1, .ref q2, .ref q3, .ref q4, .ref q5, .ref q6, .ref q8, .null, .null, .null, .int 0, .int 0, .int 0, .int 0, .int 0])), (q1, .inl (gca Y 0, 7, .inl (fun _ => 0))), (q2, .inl (gca Y 0, 7, .inl (fun _ => 0))), (q3, .inl (gca Y 0, 7, .inl (fun _ => 0))), (q4, .inl (gca Y 0, 7, .inl (fun _ => 0))), (q5, .inl (gca Y 0, 7, .inl (fun _ => 0)))] ++ (([(q6, .inr (3, [.ref r7, .int 0]))] ++ gGrid Y r7 6 5) ++ gGrid Y q8 8 7))) hmn rfl rfl in_X1 tyX1_ok nmX1 (by decide) wF_X1_36 rfl rfl (tyX1_ok 7 (by decide)) rfl rfl (Nat.le_of_ble_eq_true rfl) rfl dX1_init_64 ?_
  refine n_aload_n hC 0 dX1_init_67 rfl rfl ?_
  refine n_bipush hC 8 dX1_init_68 rfl ?_
  refine n_bipush hC 7 dX1_init_70 rfl ?_
  refine n_mna hC 8 7 wL_X1_34 wR_int (by decide) (by decide) rfl rfl (by decide) (by decide) (by decide) (by decide) (by decide) dX1_init_72 (fun q9 => ?_)
  refine n_eq (ws' := ws0 ++ ([(b, .inr (1, [.null, .ref q1, .ref q2, .ref q3, .ref q4, .ref q5, .ref q6, .ref q8, .null, .null, .null, .int 0, .int 0, .int 0, .int 0, .int 0])), (q1, .inl (gca Y 0, 7, .inl (fun _ => 0))), (q2, .inl (gca Y 0, 7, .inl (fun _ => 0))), (q3, .inl (gca Y 0, 7, .inl (fun _ => 0))), (q4, .inl (gca Y 0, 7, .inl (fun _ => 0))), (q5, .inl (gca Y 0, 7, .inl (fun _ => 0)))] ++ (([(q6, .inr (3, [.ref r7, .int 0]))] ++ gGrid Y r7 6 5) ++ (gGrid Y q8 8 7 ++ gGrid Y q9 8 7)))) 31 201 (by simp only [List.append_assoc, List.cons_append, List.nil_append]) rfl rfl ?_
  refine n_putF (j := 8) (p := 0) hC (([(b, .inr (1, [.null, .ref q1, .ref q2, .ref q3, .ref q4, .ref q5, .ref q6, .ref q8, .ref q9, .null, .null, .int 0, .int 0, .int 0, .int 0, .int 0])), (q1, .inl (gca Y 0, 7, .inl (fun _ => 0))), (q2, .inl (gca Y 0, 7, .inl (fun _ => 0))), (q3, .inl (gca Y 0, 7, .inl (fun _ => 0))), (q4, .inl (gca Y 0, 7, .inl (fun _ => 0))), (q5, .inl (gca Y 0, 7, .inl (fun _ => 0)))] ++ (([(q6, .inr (3, [.ref r7, .int 0]))] ++ gGrid Y r7 6 5) ++ (gGrid Y q8 8 7 ++ gGrid Y q9 8 7)))) hmn rfl rfl in_X1 tyX1_ok nmX1 (by decide) wF_X1_39 rfl rfl (tyX1_ok 8 (by decide)) rfl rfl (Nat.le_of_ble_eq_true rfl) rfl dX1_init_76 ?_
  refine n_aload_n hC 0 dX1_init_79 rfl rfl ?_
  refine n_bipush hC 8 dX1_init_80 rfl ?_
  refine n_newa (at_ := .int) (ty := .int) (t0 := 0) hC 8 rfl wR_int rfl (fun _ _ h => h) rfl (by decide) rfl (by decide) (by decide) (by decide) dX1_init_82 (fun q10 => ?_)
  refine n_eq (ws' := ws0 ++ ([(b, .inr (1, [.null, .ref q1, .ref q2, .ref q3, .ref q4, .ref q5, .ref q6, .ref q8, .ref q9, .null, .null, .int 0, .int 0, .int 0, .int 0, .int 0])), (q1, .inl (gca Y 0, 7, .inl (fun _ => 0))), (q2, .inl (gca Y 0, 7, .inl (fun _ => 0))), (q3, .inl (gca Y 0, 7, .inl (fun _ => 0))), (q4, .inl (gca Y 0, 7, .inl (fun _ => 0))), (q5, .inl (gca Y 0, 7, .inl (fun _ => 0)))] ++ (([(q6, .inr (3, [.ref r7, .int 0]))] ++ gGrid Y r7 6 5) ++ (gGrid Y q8 8 7 ++ (gGrid Y q9 8 7 ++ [(q10, .inl (gca Y 0, 8, .inl (fun _ => 0)))]))))) 32 209 (by simp only [List.append_assoc, List.cons_append, List.nil_append]) rfl rfl ?_
  refine n_putF (j := 9) (p := 0) hC (([(b, .inr (1, [.null, .ref q1, .ref q2, .ref q3, .ref q4, .ref q5, .ref q6, .ref q8, .ref q9, .ref q10, .null, .int 0, .int 0, .int 0, .int 0, .int 0])), (q1, .inl (gca Y 0, 7, .inl (fun _ => 0))), (q2, .inl (gca Y 0, 7, .inl (fun _ => 0))), (q3, .inl (gca Y 0, 7, .inl (fun _ => 0))), (q4, .inl (gca Y 0, 7, .inl (fun _ => 0))), (q5, .inl (gca Y 0, 7, .inl (fun _ => 0)))] ++ (([(q6, .inr (3, [.ref r7, .int 0]))] ++ gGrid Y r7 6 5) ++ (gGrid Y q8 8 7 ++ (gGrid Y q9 8 7 ++ [(q10, .inl (gca Y 0, 8, .inl (fun _ => 0)))]))))) hmn rfl rfl in_X1 tyX1_ok nmX1 (by decide) wF_X1_42 rfl rfl (tyX1_ok 9 (by decide)) rfl rfl (Nat.le_of_ble_eq_true rfl) rfl dX1_init_84 ?_
  refine n_aload_n hC 0 dX1_init_87 rfl rfl ?_
  refine n_bipush hC 8 dX1_init_88 rfl ?_
  refine n_newa (at_ := .int) (ty := .int) (t0 := 0) hC 8 rfl wR_int rfl (fun _ _ h => h) rfl (by decide) rfl (by decide) (by decide) (by decide) dX1_init_90 (fun q11 => ?_)
  refine n_eq (ws' := ws0 ++ ([(b, .inr (1, [.null, .ref q1, .ref q2, .ref q3, .ref q4, .ref q5, .ref q6, .ref q8, .ref q9, .ref q10, .null, .int 0, .int 0, .int 0, .int 0, .int 0])), (q1, .inl (gca Y 0, 7, .inl (fun _ => 0))), (q2, .inl (gca Y 0, 7, .inl (fun _ => 0))), (q3, .inl (gca Y 0, 7, .inl (fun _ => 0))), (q4, .inl (gca Y 0, 7, .inl (fun _ => 0))), (q5, .inl (gca Y 0, 7, .inl (fun _ => 0)))] ++ (([(q6, .inr (3, [.ref r7, .int 0]))] ++ gGrid Y r7 6 5) ++ (gGrid Y q8 8 7 ++ (gGrid Y q9 8 7 ++ [(q10, .inl (gca Y 0, 8, .inl (fun _ => 0))), (q11, .inl (gca Y 0, 8, .inl (fun _ => 0)))]))))) 33 217 (by simp only [List.append_assoc, List.cons_append, List.nil_append]) rfl rfl ?_
  refine n_putF (j := 10) (p := 0) hC (([(b, .inr (1, [.null, .ref q1, .ref q2, .ref q3, .ref q4, .ref q5, .ref q6, .ref q8, .ref q9, .ref q10, .ref q11, .int 0, .int 0, .int 0, .int 0, .int 0])), (q1, .inl (gca Y 0, 7, .inl (fun _ => 0))), (q2, .inl (gca Y 0, 7, .inl (fun _ => 0))), (q3, .inl (gca Y 0, 7, .inl (fun _ => 0))), (q4, .inl (gca Y 0, 7, .inl (fun _ => 0))), (q5, .inl (gca Y 0, 7, .inl (fun _ => 0)))] ++ (([(q6, .inr (3, [.ref r7, .int 0]))] ++ gGrid Y r7 6 5) ++ (gGrid Y q8 8 7 ++ (gGrid Y q9 8 7 ++ [(q10, .inl (gca Y 0, 8, .inl (fun _ => 0))), (q11, .inl (gca Y 0, 8, .inl (fun _ => 0)))]))))) hmn rfl rfl in_X1 tyX1_ok nmX1 (by decide) wF_X1_45 rfl rfl (tyX1_ok 10 (by decide)) rfl rfl (Nat.le_of_ble_eq_true rfl) rfl dX1_init_92 ?_
  refine n_aload_n hC 0 dX1_init_95 rfl rfl ?_
  refine n_iconst hC 0 dX1_init_96 rfl ?_
  refine n_put (j := 11) (p := 0) hC (([(b, .inr (1, [.null, .ref q1, .ref q2, .ref q3, .ref q4, .ref q5, .ref q6, .ref q8, .ref q9, .ref q10, .ref q11, .int 0, .int 0, .int 0, .int 0, .int 0])), (q1, .inl (gca Y 0, 7, .inl (fun _ => 0))), (q2, .inl (gca Y 0, 7, .inl (fun _ => 0))), (q3, .inl (gca Y 0, 7, .inl (fun _ => 0))), (q4, .inl (gca Y 0, 7, .inl (fun _ => 0))), (q5, .inl (gca Y 0, 7, .inl (fun _ => 0)))] ++ (([(q6, .inr (3, [.ref r7, .int 0]))] ++ gGrid Y r7 6 5) ++ (gGrid Y q8 8 7 ++ (gGrid Y q9 8 7 ++ [(q10, .inl (gca Y 0, 8, .inl (fun _ => 0))), (q11, .inl (gca Y 0, 8, .inl (fun _ => 0)))]))))) rfl rfl in_X1 tyX1_ok nmX1 (by decide) wF_X1_48 rfl (tyX1_ok 11 (by decide)) rfl rfl (Nat.le_of_ble_eq_true rfl) rfl dX1_init_97 ?_
  refine n_aload_n hC 0 dX1_init_100 rfl rfl ?_
  refine n_iconst hC 0 dX1_init_101 rfl ?_
  refine n_put (j := 12) (p := 0) hC (([(b, .inr (1, [.null, .ref q1, .ref q2, .ref q3, .ref q4, .ref q5, .ref q6, .ref q8, .ref q9, .ref q10, .ref q11, .int 0, .int 0, .int 0, .int 0, .int 0])), (q1, .inl (gca Y 0, 7, .inl (fun _ => 0))), (q2, .inl (gca Y 0, 7, .inl (fun _ => 0))), (q3, .inl (gca Y 0, 7, .inl (fun _ => 0))), (q4, .inl (gca Y 0, 7, .inl (fun _ => 0))), (q5, .inl (gca Y 0, 7, .inl (fun _ => 0)))] ++ (([(q6, .inr (3, [.ref r7, .int 0]))] ++ gGrid Y r7 6 5) ++ (gGrid Y q8 8 7 ++ (gGrid Y q9 8 7 ++ [(q10, .inl (gca Y 0, 8, .inl (fun _ => 0))), (q11, .inl (gca Y 0, 8, .inl (fun _ => 0)))]))))) rfl rfl in_X1 tyX1_ok nmX1 (by decide) wF_X1_52 rfl (tyX1_ok 12 (by decide)) rfl rfl (Nat.le_of_ble_eq_true rfl) rfl dX1_init_102 ?_
  refine n_aload_n hC 0 dX1_init_105 rfl rfl ?_
  refine n_iconst hC 0 dX1_init_106 rfl ?_
  refine n_put (j := 13) (p := 0) hC (([(b, .inr (1, [.null, .ref q1, .ref q2, .ref q3, .ref q4, .ref q5, .ref q6, .ref q8, .ref q9, .ref q10, .ref q11, .int 0, .int 0, .int 0, .int 0, .int 0])), (q1, .inl (gca Y 0, 7, .inl (fun _ => 0))), (q2, .inl (gca Y 0, 7, .inl (fun _ => 0))), (q3, .inl (gca Y 0, 7, .inl (fun _ => 0))), (q4, .inl (gca Y 0, 7, .inl (fun _ => 0))), (q5, .inl (gca Y 0, 7, .inl (fun _ => 0)))] ++ (([(q6, .inr (3, [.ref r7, .int 0]))] ++ gGrid Y r7 6 5) ++ (gGrid Y q8 8 7 ++ (gGrid Y q9 8 7 ++ [(q10, .inl (gca Y 0, 8, .inl (fun _ => 0))), (q11, .inl (gca Y 0, 8, .inl (fun _ => 0)))]))))) rfl rfl in_X1 tyX1_ok nmX1 (by decide) wF_X1_55 rfl (tyX1_ok 13 (by decide)) rfl rfl (Nat.le_of_ble_eq_true rfl) rfl dX1_init_107 ?_
  refine n_aload_n hC 0 dX1_init_110 rfl rfl ?_
  refine n_iconst hC 0 dX1_init_111 rfl ?_
  refine n_put (j := 14) (p := 0) hC (([(b, .inr (1, [.null, .ref q1, .ref q2, .ref q3, .ref q4, .ref q5, .ref q6, .ref q8, .ref q9, .ref q10, .ref q11, .int 0, .int 0, .int 0, .int 0, .int 0])), (q1, .inl (gca Y 0, 7, .inl (fun _ => 0))), (q2, .inl (gca Y 0, 7, .inl (fun _ => 0))), (q3, .inl (gca Y 0, 7, .inl (fun _ => 0))), (q4, .inl (gca Y 0, 7, .inl (fun _ => 0))), (q5, .inl (gca Y 0, 7, .inl (fun _ => 0)))] ++ (([(q6, .inr (3, [.ref r7, .int 0]))] ++ gGrid Y r7 6 5) ++ (gGrid Y q8 8 7 ++ (gGrid Y q9 8 7 ++ [(q10, .inl (gca Y 0, 8, .inl (fun _ => 0))), (q11, .inl (gca Y 0, 8, .inl (fun _ => 0)))]))))) rfl rfl in_X1 tyX1_ok nmX1 (by decide) wF_X1_58 rfl (tyX1_ok 14 (by decide)) rfl rfl (Nat.le_of_ble_eq_true rfl) rfl dX1_init_112 ?_
  refine n_aload_n hC 0 dX1_init_115 rfl rfl ?_
  refine n_iconst hC 0 dX1_init_116 rfl ?_
  refine n_put (j := 15) (p := 0) hC (([(b, .inr (1, [.null, .ref q1, .ref q2, .ref q3, .ref q4, .ref q5, .ref q6, .ref q8, .ref q9, .ref q10, .ref q11, .int 0, .int 0, .int 0, .int 0, .int 0])), (q1, .inl (gca Y 0, 7, .inl (fun _ => 0))), (q2, .inl (gca Y 0, 7, .inl (fun _ => 0))), (q3, .inl (gca Y 0, 7, .inl (fun _ => 0))), (q4, .inl (gca Y 0, 7, .inl (fun _ => 0))), (q5, .inl (gca Y 0, 7, .inl (fun _ => 0)))] ++ (([(q6, .inr (3, [.ref r7, .int 0]))] ++ gGrid Y r7 6 5) ++ (gGrid Y q8 8 7 ++ (gGrid Y q9 8 7 ++ [(q10, .inl (gca Y 0, 8, .inl (fun _ => 0))), (q11, .inl (gca Y 0, 8, .inl (fun _ => 0)))]))))) rfl rfl in_X1 tyX1_ok nmX1 (by decide) wF_X1_61 rfl (tyX1_ok 15 (by decide)) rfl rfl (Nat.le_of_ble_eq_true rfl) rfl dX1_init_117 ?_
  refine n_aload_n hC 0 dX1_init_120 rfl rfl ?_
  refine n_aload_n hC 1 dX1_init_121 rfl rfl ?_
  refine n_putF (j := 0) (p := 0) hC (([(b, .inr (1, [.ref kq, .ref q1, .ref q2, .ref q3, .ref q4, .ref q5, .ref q6, .ref q8, .ref q9, .ref q10, .ref q11, .int 0, .int 0, .int 0, .int 0, .int 0])), (q1, .inl (gca Y 0, 7, .inl (fun _ => 0))), (q2, .inl (gca Y 0, 7, .inl (fun _ => 0))), (q3, .inl (gca Y 0, 7, .inl (fun _ => 0))), (q4, .inl (gca Y 0, 7, .inl (fun _ => 0))), (q5, .inl (gca Y 0, 7, .inl (fun _ => 0)))] ++ (([(q6, .inr (3, [.ref r7, .int 0]))] ++ gGrid Y r7 6 5) ++ (gGrid Y q8 8 7 ++ (gGrid Y q9 8 7 ++ [(q10, .inl (gca Y 0, 8, .inl (fun _ => 0))), (q11, .inl (gca Y 0, 8, .inl (fun _ => 0)))]))))) hmn rfl rfl in_X1 tyX1_ok nmX1 (by decide) wF_X1_64 rfl rfl (tyX1_ok 0 (by decide)) rfl rfl (Nat.le_of_ble_eq_true rfl) rfl dX1_init_122 ?_
  exact n_ret hC (fun o => match o with | 1 => q1 | 2 => q2 | 3 => q3 | 4 => q4 | 5 => q5 | 6 => q6 | 7 => r7 | 14 => q8 | 23 => q9 | 32 => q10 | _ => q11) hr hQ (by first | rfl | simp) dX1_init_125
