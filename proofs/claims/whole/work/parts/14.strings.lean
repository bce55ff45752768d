/-! the three String constants: "house", "guest", "duty" -/
def slenN (w : Nat) : Nat := [5, 5, 4].getD w 0
def slen (w : Nat) : Int32 := Int32.ofNat (slenN w)
def sch (w j : Nat) : Int32 := (([[104, 111, 117, 115, 101], [103, 117, 101, 115, 116], [100, 117, 116, 121]] : List (List Int32)).getD w []).getD j 0
theorem dJ0_length_8abf5_0 : decode cJ0_length_8abf5 0 = .ok (.aload_n 0, 1) := by decide +kernel
theorem dJ0_length_8abf5_1 : decode cJ0_length_8abf5 1 = .ok (.getfield 9, 3) := by decide +kernel
theorem dJ0_length_8abf5_4 : decode cJ0_length_8abf5 4 = .ok (.arraylength, 1) := by decide +kernel
theorem dJ0_length_8abf5_5 : decode cJ0_length_8abf5 5 = .ok (.aload_n 0, 1) := by decide +kernel
theorem dJ0_length_8abf5_6 : decode cJ0_length_8abf5 6 = .ok (.invokevirtual 335, 3) := by decide +kernel
theorem dJ0_length_8abf5_9 : decode cJ0_length_8abf5 9 = .ok (.ishr, 1) := by decide +kernel
theorem dJ0_length_8abf5_10 : decode cJ0_length_8abf5 10 = .ok (.ireturn, 1) := by decide +kernel
theorem dJ0_coder_7d493_0 : decode cJ0_coder_7d493 0 = .ok (.getstatic 38, 3) := by decide +kernel
theorem dJ0_coder_7d493_3 : decode cJ0_coder_7d493 3 = .ok (.ifCond .eq 10, 3) := by decide +kernel
theorem dJ0_coder_7d493_6 : decode cJ0_coder_7d493 6 = .ok (.aload_n 0, 1) := by decide +kernel
theorem dJ0_coder_7d493_7 : decode cJ0_coder_7d493 7 = .ok (.getfield 15, 3) := by decide +kernel
theorem dJ0_coder_7d493_10 : decode cJ0_coder_7d493 10 = .ok (.goto 4, 3) := by decide +kernel
theorem dJ0_coder_7d493_13 : decode cJ0_coder_7d493 13 = .ok (.iconst 1, 1) := by decide +kernel
theorem dJ0_coder_7d493_14 : decode cJ0_coder_7d493 14 = .ok (.ireturn, 1) := by decide +kernel
theorem dJ0_isLatin1_aae02_0 : decode cJ0_isLatin1_aae02 0 = .ok (.getstatic 38, 3) := by decide +kernel
theorem dJ0_isLatin1_aae02_3 : decode cJ0_isLatin1_aae02 3 = .ok (.ifCond .eq 14, 3) := by decide +kernel
theorem dJ0_isLatin1_aae02_6 : decode cJ0_isLatin1_aae02 6 = .ok (.aload_n 0, 1) := by decide +kernel
theorem dJ0_isLatin1_aae02_7 : decode cJ0_isLatin1_aae02 7 = .ok (.getfield 15, 3) := by decide +kernel
theorem dJ0_isLatin1_aae02_10 : decode cJ0_isLatin1_aae02 10 = .ok (.ifCond .ne 7, 3) := by decide +kernel
theorem dJ0_isLatin1_aae02_13 : decode cJ0_isLatin1_aae02 13 = .ok (.iconst 1, 1) := by decide +kernel
theorem dJ0_isLatin1_aae02_14 : decode cJ0_isLatin1_aae02 14 = .ok (.goto 4, 3) := by decide +kernel
theorem dJ0_isLatin1_aae02_17 : decode cJ0_isLatin1_aae02 17 = .ok (.iconst 0, 1) := by decide +kernel
theorem dJ0_isLatin1_aae02_18 : decode cJ0_isLatin1_aae02 18 = .ok (.ireturn, 1) := by decide +kernel
theorem dJ0_charAt_5068e_0 : decode cJ0_charAt_5068e 0 = .ok (.aload_n 0, 1) := by decide +kernel
theorem dJ0_charAt_5068e_1 : decode cJ0_charAt_5068e 1 = .ok (.invokevirtual 492, 3) := by decide +kernel
theorem dJ0_charAt_5068e_4 : decode cJ0_charAt_5068e 4 = .ok (.ifCond .eq 12, 3) := by decide +kernel
theorem dJ0_charAt_5068e_7 : decode cJ0_charAt_5068e 7 = .ok (.aload_n 0, 1) := by decide +kernel
theorem dJ0_charAt_5068e_8 : decode cJ0_charAt_5068e 8 = .ok (.getfield 9, 3) := by decide +kernel
theorem dJ0_charAt_5068e_11 : decode cJ0_charAt_5068e 11 = .ok (.iload_n 1, 1) := by decide +kernel
theorem dJ0_charAt_5068e_12 : decode cJ0_charAt_5068e 12 = .ok (.invokestatic 495, 3) := by decide +kernel
theorem dJ0_charAt_5068e_15 : decode cJ0_charAt_5068e 15 = .ok (.ireturn, 1) := by decide +kernel
theorem dJ0_charAt_5068e_16 : decode cJ0_charAt_5068e 16 = .ok (.aload_n 0, 1) := by decide +kernel
theorem dJ0_charAt_5068e_17 : decode cJ0_charAt_5068e 17 = .ok (.getfield 9, 3) := by decide +kernel
theorem dJ0_charAt_5068e_20 : decode cJ0_charAt_5068e 20 = .ok (.iload_n 1, 1) := by decide +kernel
theorem dJ0_charAt_5068e_21 : decode cJ0_charAt_5068e 21 = .ok (.invokestatic 498, 3) := by decide +kernel
theorem dJ0_charAt_5068e_24 : decode cJ0_charAt_5068e 24 = .ok (.ireturn, 1) := by decide +kernel
theorem dJ0_checkIndex_df160_0 : decode cJ0_checkIndex_df160 0 = .ok (.iload_n 0, 1) := by decide +kernel
theorem dJ0_checkIndex_df160_1 : decode cJ0_checkIndex_df160 1 = .ok (.iload_n 1, 1) := by decide +kernel
theorem dJ0_checkIndex_df160_2 : decode cJ0_checkIndex_df160 2 = .ok (.getstatic 1053, 3) := by decide +kernel
theorem dJ0_checkIndex_df160_5 : decode cJ0_checkIndex_df160 5 = .ok (.invokestatic 1059, 3) := by decide +kernel
theorem dJ0_checkIndex_df160_8 : decode cJ0_checkIndex_df160 8 = .ok (.pop, 1) := by decide +kernel
theorem dJ0_checkIndex_df160_9 : decode cJ0_checkIndex_df160 9 = .ok (.return_, 1) := by decide +kernel
theorem dJ1_charAt_3b067_0 : decode cJ1_charAt_3b067 0 = .ok (.iload_n 1, 1) := by decide +kernel
theorem dJ1_charAt_3b067_1 : decode cJ1_charAt_3b067 1 = .ok (.aload_n 0, 1) := by decide +kernel
theorem dJ1_charAt_3b067_2 : decode cJ1_charAt_3b067 2 = .ok (.arraylength, 1) := by decide +kernel
theorem dJ1_charAt_3b067_3 : decode cJ1_charAt_3b067 3 = .ok (.invokestatic 9, 3) := by decide +kernel
theorem dJ1_charAt_3b067_6 : decode cJ1_charAt_3b067 6 = .ok (.aload_n 0, 1) := by decide +kernel
theorem dJ1_charAt_3b067_7 : decode cJ1_charAt_3b067 7 = .ok (.iload_n 1, 1) := by decide +kernel
theorem dJ1_charAt_3b067_8 : decode cJ1_charAt_3b067 8 = .ok (.baload, 1) := by decide +kernel
theorem dJ1_charAt_3b067_9 : decode cJ1_charAt_3b067 9 = .ok (.sipush 255, 3) := by decide +kernel
theorem dJ1_charAt_3b067_12 : decode cJ1_charAt_3b067 12 = .ok (.iand, 1) := by decide +kernel
theorem dJ1_charAt_3b067_13 : decode cJ1_charAt_3b067 13 = .ok (.i2c, 1) := by decide +kernel
theorem dJ1_charAt_3b067_14 : decode cJ1_charAt_3b067 14 = .ok (.ireturn, 1) := by decide +kernel
theorem dJ3_checkIndex_8e157_0 : decode cJ3_checkIndex_8e157 0 = .ok (.iload_n 0, 1) := by decide +kernel
theorem dJ3_checkIndex_8e157_1 : decode cJ3_checkIndex_8e157 1 = .ok (.ifCond .lt 8, 3) := by decide +kernel
theorem dJ3_checkIndex_8e157_4 : decode cJ3_checkIndex_8e157 4 = .ok (.iload_n 0, 1) := by decide +kernel
theorem dJ3_checkIndex_8e157_5 : decode cJ3_checkIndex_8e157 5 = .ok (.iload_n 1, 1) := by decide +kernel
theorem dJ3_checkIndex_8e157_6 : decode cJ3_checkIndex_8e157 6 = .ok (.if_icmp .lt 10, 3) := by decide +kernel
theorem dJ3_checkIndex_8e157_9 : decode cJ3_checkIndex_8e157 9 = .ok (.aload_n 2, 1) := by decide +kernel
theorem dJ3_checkIndex_8e157_10 : decode cJ3_checkIndex_8e157 10 = .ok (.iload_n 0, 1) := by decide +kernel
theorem dJ3_checkIndex_8e157_11 : decode cJ3_checkIndex_8e157 11 = .ok (.iload_n 1, 1) := by decide +kernel
theorem dJ3_checkIndex_8e157_12 : decode cJ3_checkIndex_8e157 12 = .ok (.invokestatic 95, 3) := by decide +kernel
theorem dJ3_checkIndex_8e157_15 : decode cJ3_checkIndex_8e157 15 = .ok (.athrow, 1) := by decide +kernel
theorem dJ3_checkIndex_8e157_16 : decode cJ3_checkIndex_8e157 16 = .ok (.iload_n 0, 1) := by decide +kernel
theorem dJ3_checkIndex_8e157_17 : decode cJ3_checkIndex_8e157 17 = .ok (.ireturn, 1) := by decide +kernel
section GS
variable {X : gX} {Y : gY} {cc : ByteArray} {own : String} {nL fr lo pc : Nat} {lv : List (Nat × Value)} {st : List Value} {M : gMem}
theorem q_lds0 (hC : gC X Y cc "GuestStaff$Text" nL fr lo) (hd : decode cc pc = .ok (.ldc 39, 2)) (kk : gWW X Y nL (pc + 2) lv (.ref (Y.2.2.2.1 0) :: st) M) : gWW X Y nL pc lv st M :=
  fun H locs ls hS h => va_ldcS hC.1 hC.2.1 hC.2.2.2.1 hC.2.2.2.2.2.2.2.1.2.1.1 hd (kk H locs ls hS h)
theorem q_lds1 (hC : gC X Y cc "GuestStaff$Text" nL fr lo) (hd : decode cc pc = .ok (.ldc 53, 2)) (kk : gWW X Y nL (pc + 2) lv (.ref (Y.2.2.2.1 1) :: st) M) : gWW X Y nL pc lv st M :=
  fun H locs ls hS h => va_ldcS hC.1 hC.2.1 hC.2.2.2.1 hC.2.2.2.2.2.2.2.1.2.1.2.1 hd (kk H locs ls hS h)
theorem q_lds2 (hC : gC X Y cc "GuestStaff$Text" nL fr lo) (hd : decode cc pc = .ok (.ldc 61, 2)) (kk : gWW X Y nL (pc + 2) lv (.ref (Y.2.2.2.1 2) :: st) M) : gWW X Y nL pc lv st M :=
  fun H locs ls hS h => va_ldcS hC.1 hC.2.1 hC.2.2.2.1 hC.2.2.2.2.2.2.2.1.2.1.2.2 hd (kk H locs ls hS h)
theorem q_sgv (hC : gC X Y cc "java/lang/String" nL fr lo) {w : Nat} (hw : w < 3) (hd : decode cc pc = .ok (.getfield 9, 3)) (kk : gWW X Y nL (pc + 3) lv (.ref (Y.2.2.2.2 w) :: st) M) : gWW X Y nL pc lv (.ref (Y.2.2.2.1 w) :: st) M :=
  fun H locs ls hS h => vk_getf hC.1 hC.2.1 (hC.2.2.2.2.2.2.2.1.1.1 w hw).2.2.1 hS.2.2 hC.2.2.2.1 (hC.2.2.2.2.1 _ wF_J0_9) (fun _ h9 => h9) hd (kk H locs ls hS h)
theorem q_sgc (hC : gC X Y cc "java/lang/String" nL fr lo) {w : Nat} (hw : w < 3) (hd : decode cc pc = .ok (.getfield 15, 3)) (kk : gWW X Y nL (pc + 3) lv (.int 0 :: st) M) : gWW X Y nL pc lv (.ref (Y.2.2.2.1 w) :: st) M :=
  fun H locs ls hS h => vk_getf hC.1 hC.2.1 (hC.2.2.2.2.2.2.2.1.1.1 w hw).2.1 hS.2.2 hC.2.2.2.1 (hC.2.2.2.2.1 _ wF_J0_15) (fun _ h9 => h9) hd (kk H locs ls hS h)
theorem q_scs (hC : gC X Y cc "java/lang/String" nL fr lo) (hd : decode cc pc = .ok (.getstatic 38, 3)) (kk : gWW X Y nL (pc + 3) lv (.int 1 :: st) M) : gWW X Y nL pc lv st M :=
  fun H locs ls hS h => va_gets hC.1 hC.2.1 hC.2.2.2.2.2.2.2.1.2.2.1 hS.2.2 hC.2.2.2.1 (hC.2.2.2.2.1 _ wF_J0_38) (fun _ h9 => h9) hd (kk H locs ls hS h)
theorem q_sal (hC : gC X Y cc own nL fr lo) {w : Nat} (hw : w < 3) (hd : decode cc pc = .ok (.arraylength, 1)) (kk : gWW X Y nL (pc + 1) lv (.int (slen w) :: st) M) : gWW X Y nL pc lv (.ref (Y.2.2.2.2 w) :: st) M :=
  fun H locs ls hS h => va_tlen hC.1 hC.2.1 (hC.2.2.2.2.2.2.2.1.1.1 w hw).2.2.2 hS.2.2 rfl hd (kk H locs ls hS h)
theorem q_sbl (hC : gC X Y cc own nL fr lo) {w : Nat} {i : Int32} (hw : w < 3) (hi : gin i (slenN w)) (hd : decode cc pc = .ok (.baload, 1)) (kk : gWW X Y nL (pc + 1) lv (.int (sch w i.toNatClampNeg) :: st) M) : gWW X Y nL pc lv (.int i :: .ref (Y.2.2.2.2 w) :: st) M :=
  fun H locs ls hS h => va_tb hC.1 hC.2.1 (hC.2.2.2.2.2.2.2.1.1.1 w hw).2.2.2 hS.2.2 hi rfl hd (kk H locs ls hS h)
/-- the formatter: null, or some object -/
theorem q_sfm (hC : gC X Y cc "java/lang/String" nL fr lo) (hd : decode cc pc = .ok (.getstatic 1053, 3)) (kk : ∀ o : Option Nat, gWW X Y nL (pc + 3) lv (va_rf o :: st) M) : gWW X Y nL pc lv st M := by
  intro H locs ls hS h
  rcases hC.2.2.2.2.2.2.2.1.2.2.2 with hz | ⟨t, hz⟩
  · exact va_gets (v := .null) hC.1 hC.2.1 hz hS.2.2 hC.2.2.2.1 (hC.2.2.2.2.1 _ wF_J0_1053) (fun _ h9 => h9) hd (kk none H locs ls hS h)
  · exact va_gets (v := .ref t) hC.1 hC.2.1 hz hS.2.2 hC.2.2.2.1 (hC.2.2.2.2.1 _ wF_J0_1053) (fun _ h9 => h9) hd (kk (some t) H locs ls hS h)
/-- a call on a String constant -/
theorem q_rVs (hC : gC X Y cc own nL fr lo) {y : MethodName} {bytes : ByteArray} {maxL n idx w : Nat} {ret : Option FieldType} {rm : Room} {As rest : List Value} {Qc : Array Value → State → Outcome → State → Prop} (hm : gMi y bytes maxL ret n) (hl : Cond.methodLink own idx y ∈ gTs) (hy : y.cls = "java/lang/String")
    (hM : Met X.2.1 y (gws y bytes maxL ret) rm (va_Pc (.ref (Y.2.2.2.1 w) :: As) (gS0 Y M)) Qc 0 0 (gA Y)) (hR : rm.cells = 0 ∧ rm.slots = 0 ∧ rm.frames + 1 ≤ fr ∧ 8 + (maxL + 11) + rm.locals ≤ lo) (hw : w < 3) (hn : As.length = n) (hst : st = As.reverse ++ .ref (Y.2.2.2.1 w) :: rest) (hrest : (rest.map fun v => v.category).sum ≤ 8) (hd : decode cc pc = .ok (.invokevirtual idx, 3)) :
    gRun X Y nL pc lv st rest M (Qc (Value.ref (Y.2.2.2.1 w) :: As).toArray) := by
  intro H locs ls hS h
  subst hst
  have hts := hC.2.2.2.2.1
  exact va_runV (gCf hC) hM ⟨gCb hC hm.1 hl hR, hts _ hm.2.1, hts _ hm.2.2⟩ ⟨gS0.blind _, by rw [hy]; exact vk_recv hC.2.2.2.2.2.2.2.1.1 hw hS.2.2, fun U hU hW => ⟨rfl, hC.s0 hS hU hW⟩⟩ rfl hn h.1 rfl (lv_room hrest) hd hC.2.2.2.2.2.2.2.2.2.2.2
end GS
theorem c_J0_coder {l : Launch} {Y : gY} {M : gMem} {w : Nat} (hw : w < 3) : Met l yJ0_coder_7d493 (gws yJ0_coder_7d493 cJ0_coder_7d493 1 (some .byte)) { frames := 0, cells := 0, slots := 0, locals := 0 } (va_Pc [.ref (Y.2.2.2.1 w)] (gS0 Y M)) (gQi Y (0, M)) 0 0 (gA Y) := by
  refine gmet (lv := [(0, .ref (Y.2.2.2.1 w))]) "java/lang/String" (by decide) rfl (Nat.le_of_ble_eq_true rfl) rfl (fun X hC hF => ?_)
  refine q_scs hC dJ0_coder_7d493_0 ?_
  refine q_if_eq hC 13 dJ0_coder_7d493_3 rfl (fun h => absurd h (by decide)) (fun _ => ?_)
  refine q_aload_n hC 0 dJ0_coder_7d493_6 rfl rfl ?_
  refine q_sgc hC hw dJ0_coder_7d493_7 ?_
  refine q_goto hC 14 dJ0_coder_7d493_10 rfl ?_
  exact q_nret hC hF dJ0_coder_7d493_14 rfl rfl
theorem c_J0_isLatin1 {l : Launch} {Y : gY} {M : gMem} {w : Nat} (hw : w < 3) : Met l yJ0_isLatin1_aae02 (gws yJ0_isLatin1_aae02 cJ0_isLatin1_aae02 1 (some .boolean)) { frames := 0, cells := 0, slots := 0, locals := 0 } (va_Pc [.ref (Y.2.2.2.1 w)] (gS0 Y M)) (gQz Y (1, M)) 0 0 (gA Y) := by
  refine gmet (lv := [(0, .ref (Y.2.2.2.1 w))]) "java/lang/String" (by decide) rfl (Nat.le_of_ble_eq_true rfl) rfl (fun X hC hF => ?_)
  refine q_scs hC dJ0_isLatin1_aae02_0 ?_
  refine q_if_eq hC 17 dJ0_isLatin1_aae02_3 rfl (fun h => absurd h (by decide)) (fun _ => ?_)
  refine q_aload_n hC 0 dJ0_isLatin1_aae02_6 rfl rfl ?_
  refine q_sgc hC hw dJ0_isLatin1_aae02_7 ?_
  refine q_if_ne hC 17 dJ0_isLatin1_aae02_10 rfl (fun h => absurd rfl h) (fun _ => ?_)
  refine q_iconst hC 1 dJ0_isLatin1_aae02_13 rfl ?_
  refine q_goto hC 18 dJ0_isLatin1_aae02_14 rfl ?_
  exact q_zret hC hF dJ0_isLatin1_aae02_18 (Or.inr rfl) rfl
theorem slen_shr : ∀ w, w < 3 → slen w >>> ((0 : Int32) &&& 31) = slen w := by decide
theorem c_J0_length {l : Launch} {Y : gY} {M : gMem} {w : Nat} (hw : w < 3) : Met l yJ0_length_8abf5 (gws yJ0_length_8abf5 cJ0_length_8abf5 1 (some .int)) { frames := 1, cells := 0, slots := 0, locals := 20 } (va_Pc [.ref (Y.2.2.2.1 w)] (gS0 Y M)) (gQi Y (slen w, M)) 0 0 (gA Y) := by
  refine gmet (lv := [(0, .ref (Y.2.2.2.1 w))]) "java/lang/String" (by decide) rfl (Nat.le_of_ble_eq_true rfl) rfl (fun X hC hF => ?_)
  refine q_aload_n hC 0 dJ0_length_8abf5_0 rfl rfl ?_
  refine q_sgv hC hw dJ0_length_8abf5_1 ?_
  refine q_sal hC hw dJ0_length_8abf5_4 ?_
  refine q_aload_n hC 0 dJ0_length_8abf5_5 rfl rfl ?_
  refine q_kip (q_rVs (As := []) (rest := [.int (slen w)]) hC mm_J0_coder_7d493 wM_J0_335 rfl (c_J0_coder hw) ⟨rfl, rfl, Nat.le_of_ble_eq_true rfl, Nat.le_of_ble_eq_true rfl⟩ hw rfl rfl (Nat.le_of_ble_eq_true rfl) dJ0_length_8abf5_6) ?_
  refine q_ishr hC dJ0_length_8abf5_9 ?_
  exact q_iret hC hF dJ0_length_8abf5_10 (by rw [slen_shr w hw])
theorem c_J3_checkIndex {l : Launch} {Y : gY} {M : gMem} {i n : Int32} {o : Option Nat} (h1 : ¬ i < 0) (h2 : i < n) : Met l yJ3_checkIndex_8e157 (gws yJ3_checkIndex_8e157 cJ3_checkIndex_8e157 3 (some .int)) { frames := 0, cells := 0, slots := 0, locals := 0 } (va_Pc [.int i, .int n, va_rf o] (gS0 Y M)) (gQi Y (i, M)) 0 0 (gA Y) := by
  have key : ∀ (X : gX) (v : Value), gC X Y cJ3_checkIndex_8e157 "jdk/internal/util/Preconditions" 3 0 0 → gF X Y (some .int) (gQi Y (i, M)) → gWW X Y 3 0 [(0, .int i), (1, .int n), (2, v)] [] M := by
    intro X v hC hF
    refine q_iload_n hC 0 dJ3_checkIndex_8e157_0 rfl rfl ?_
    refine q_if_lt hC 9 dJ3_checkIndex_8e157_1 rfl (fun h => absurd h h1) (fun _ => ?_)
    refine q_iload_n hC 0 dJ3_checkIndex_8e157_4 rfl rfl ?_
    refine q_iload_n hC 1 dJ3_checkIndex_8e157_5 rfl rfl ?_
    refine q_ic_lt hC 16 dJ3_checkIndex_8e157_6 rfl (fun _ => ?_) (fun h => absurd h2 h)
    refine q_iload_n hC 0 dJ3_checkIndex_8e157_16 rfl rfl ?_
    exact q_iret hC hF dJ3_checkIndex_8e157_17 rfl
  cases o with
  | none => exact gmet (lv := [(0, .int i), (1, .int n), (2, .null)]) "jdk/internal/util/Preconditions" (by decide) rfl (Nat.le_of_ble_eq_true rfl) rfl (fun X hC hF => key X .null hC hF)
  | some t => exact gmet (lv := [(0, .int i), (1, .int n), (2, .ref t)]) "jdk/internal/util/Preconditions" (by decide) rfl (Nat.le_of_ble_eq_true rfl) rfl (fun X hC hF => key X (.ref t) hC hF)
theorem c_J0_checkIndex {l : Launch} {Y : gY} {M : gMem} {i n : Int32} (h1 : ¬ i < 0) (h2 : i < n) : Met l yJ0_checkIndex_df160 (gws yJ0_checkIndex_df160 cJ0_checkIndex_df160 2 none) { frames := 1, cells := 0, slots := 0, locals := 22 } (va_Pc [.int i, .int n] (gS0 Y M)) (gQv Y M) 0 0 (gA Y) := by
  refine gmet (lv := [(0, .int i), (1, .int n)]) "java/lang/String" (by decide) rfl (Nat.le_of_ble_eq_true rfl) rfl (fun X hC hF => ?_)
  refine q_iload_n hC 0 dJ0_checkIndex_df160_0 rfl rfl ?_
  refine q_iload_n hC 1 dJ0_checkIndex_df160_1 rfl rfl ?_
  refine q_sfm hC dJ0_checkIndex_df160_2 (fun o => ?_)
  refine q_kip (q_rS (As := [.int i, .int n, va_rf o]) (rest := []) hC mm_J3_checkIndex_8e157 wM_J0_1059 (c_J3_checkIndex h1 h2) ⟨rfl, rfl, Nat.le_of_ble_eq_true rfl, Nat.le_of_ble_eq_true rfl⟩ rfl rfl (Nat.le_of_ble_eq_true rfl) dJ0_checkIndex_df160_5) ?_
  refine q_pop hC dJ0_checkIndex_df160_8 rfl ?_
  exact q_vret hC hF dJ0_checkIndex_df160_9 rfl
theorem sch_c : ∀ w, w < 3 → ∀ j, j < 5 → ((sch w j &&& 255).toUInt32 % 65536).toInt32 = sch w j ∧ narrow .char (.int (sch w j)) = .int (sch w j) := by decide
theorem slenN_5 : ∀ w, w < 3 → slenN w ≤ 5 := by decide
theorem slen_lt {w : Nat} {i : Int32} (hw : w < 3) (h : gin i (slenN w)) : i < slen w := by
  have h5 := slenN_5 w hw
  have h1 := gin_lt h
  have h2 : ¬ i < 0 := fun q => h (Or.inl q)
  obtain ⟨j, hj, rfl⟩ := nI_of h2
  rw [nI_clamp hj] at h1
  exact nI_lt h1 (by omega)
theorem c_J1_charAt {l : Launch} {Y : gY} {M : gMem} {w : Nat} {i : Int32} (hw : w < 3) (hi : gin i (slenN w)) : Met l yJ1_charAt_3b067 (gws yJ1_charAt_3b067 cJ1_charAt_3b067 2 (some .char)) { frames := 2, cells := 0, slots := 0, locals := 43 } (va_Pc [.ref (Y.2.2.2.2 w), .int i] (gS0 Y M)) (gQi Y (sch w i.toNatClampNeg, M)) 0 0 (gA Y) := by
  refine gmet (lv := [(0, .ref (Y.2.2.2.2 w)), (1, .int i)]) "java/lang/StringLatin1" (by decide) rfl (Nat.le_of_ble_eq_true rfl) rfl (fun X hC hF => ?_)
  refine q_iload_n hC 1 dJ1_charAt_3b067_0 rfl rfl ?_
  refine q_aload_n hC 0 dJ1_charAt_3b067_1 rfl rfl ?_
  refine q_sal hC hw dJ1_charAt_3b067_2 ?_
  refine q_kv (q_rS (As := [.int i, .int (slen w)]) (rest := []) hC mm_J0_checkIndex_df160 wM_J1_9 (c_J0_checkIndex (fun q => hi (Or.inl q)) (slen_lt hw hi)) ⟨rfl, rfl, Nat.le_of_ble_eq_true rfl, Nat.le_of_ble_eq_true rfl⟩ rfl rfl (Nat.le_of_ble_eq_true rfl) dJ1_charAt_3b067_3) ?_
  refine q_aload_n hC 0 dJ1_charAt_3b067_6 rfl rfl ?_
  refine q_iload_n hC 1 dJ1_charAt_3b067_7 rfl rfl ?_
  refine q_sbl hC hw hi dJ1_charAt_3b067_8 ?_
  refine q_sipush hC 255 dJ1_charAt_3b067_9 rfl ?_
  refine q_iand hC dJ1_charAt_3b067_12 ?_
  refine q_i2c hC dJ1_charAt_3b067_13 ?_
  have hj : i.toNatClampNeg < 5 := Nat.lt_of_lt_of_le (gin_lt hi) (slenN_5 w hw)
  rw [(sch_c w hw _ hj).1]
  exact q_nret hC hF dJ1_charAt_3b067_14 (sch_c w hw _ hj).2 rfl
theorem c_J0_charAt {l : Launch} {Y : gY} {M : gMem} {w : Nat} {i : Int32} (hw : w < 3) (hi : gin i (slenN w)) : Met l yJ0_charAt_5068e (gws yJ0_charAt_5068e cJ0_charAt_5068e 2 (some .char)) { frames := 3, cells := 0, slots := 0, locals := 64 } (va_Pc [.ref (Y.2.2.2.1 w), .int i] (gS0 Y M)) (gQi Y (sch w i.toNatClampNeg, M)) 0 0 (gA Y) := by
  refine gmet (lv := [(0, .ref (Y.2.2.2.1 w)), (1, .int i)]) "java/lang/String" (by decide) rfl (Nat.le_of_ble_eq_true rfl) rfl (fun X hC hF => ?_)
  refine q_aload_n hC 0 dJ0_charAt_5068e_0 rfl rfl ?_
  refine q_kzp (q_rVs (As := []) (rest := []) hC mm_J0_isLatin1_aae02 wM_J0_492 rfl (c_J0_isLatin1 hw) ⟨rfl, rfl, Nat.le_of_ble_eq_true rfl, Nat.le_of_ble_eq_true rfl⟩ hw rfl rfl (Nat.le_of_ble_eq_true rfl) dJ0_charAt_5068e_1) (fun _ => ?_)
  refine q_if_eq hC 16 dJ0_charAt_5068e_4 rfl (fun h => absurd h (by decide)) (fun _ => ?_)
  refine q_aload_n hC 0 dJ0_charAt_5068e_7 rfl rfl ?_
  refine q_sgv hC hw dJ0_charAt_5068e_8 ?_
  refine q_iload_n hC 1 dJ0_charAt_5068e_11 rfl rfl ?_
  refine q_kip (q_rS (As := [.ref (Y.2.2.2.2 w), .int i]) (rest := []) hC mm_J1_charAt_3b067 wM_J0_495 (c_J1_charAt hw hi) ⟨rfl, rfl, Nat.le_of_ble_eq_true rfl, Nat.le_of_ble_eq_true rfl⟩ rfl rfl (Nat.le_of_ble_eq_true rfl) dJ0_charAt_5068e_12) ?_
  have hj : i.toNatClampNeg < 5 := Nat.lt_of_lt_of_le (gin_lt hi) (slenN_5 w hw)
  exact q_nret hC hF dJ0_charAt_5068e_15 (sch_c w hw _ hj).2 rfl
section GS2
variable {X : gX} {Y : gY} {cc : ByteArray} {nL fr lo pc : Nat} {lv : List (Nat × Value)} {st : List Value} {M : gMem}
theorem q_slen (hC : gC X Y cc "GuestStaff$Text" nL fr lo) {w : Nat} (hw : w < 3) (hfr : 2 ≤ fr) (hlo : 40 ≤ lo) (hrest : (st.map fun v => v.category).sum ≤ 8) (hd : decode cc pc = .ok (.invokevirtual 79, 3)) (kk : gWW X Y nL (pc + 3) lv (.int (slen w) :: st) M) : gWW X Y nL pc lv (.ref (Y.2.2.2.1 w) :: st) M :=
  q_kip (q_rVs (As := []) (rest := st) hC mm_J0_length_8abf5 wM_X9_79 rfl (c_J0_length hw) ⟨rfl, rfl, hfr, hlo⟩ hw rfl rfl hrest hd) kk
theorem q_sch (hC : gC X Y cc "GuestStaff$Text" nL fr lo) {w : Nat} {i : Int32} (hw : w < 3) (hi : gin i (slenN w)) (hfr : 4 ≤ fr) (hlo : 85 ≤ lo) (hrest : (st.map fun v => v.category).sum ≤ 8) (hd : decode cc pc = .ok (.invokevirtual 85, 3)) (kk : gWW X Y nL (pc + 3) lv (.int (sch w i.toNatClampNeg) :: st) M) : gWW X Y nL pc lv (.int i :: .ref (Y.2.2.2.1 w) :: st) M :=
  q_kip (q_rVs (As := [.int i]) (rest := st) hC mm_J0_charAt_5068e wM_X9_85 rfl (c_J0_charAt hw hi) ⟨rfl, rfl, hfr, hlo⟩ hw rfl rfl hrest hd) kk
end GS2
