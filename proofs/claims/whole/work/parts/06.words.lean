theorem tb_1 {w : Cond} (h : w ∈ tables_1_1) : w ∈ tables_1 := List.mem_append_left _ h
theorem tb_2 {w : Cond} (h : w ∈ tables_1_2) : w ∈ tables_1 := List.mem_append_right _ (List.mem_append_left _ h)
theorem tb_3 {w : Cond} (h : w ∈ tables_1_3) : w ∈ tables_1 := List.mem_append_right _ (List.mem_append_right _ (List.mem_append_left _ h))
theorem tb_4 {w : Cond} (h : w ∈ tables_1_4) : w ∈ tables_1 := List.mem_append_right _ (List.mem_append_right _ (List.mem_append_right _ (List.mem_append_left _ h)))
theorem tb_5 {w : Cond} (h : w ∈ tables_1_5) : w ∈ tables_1 := List.mem_append_right _ (List.mem_append_right _ (List.mem_append_right _ (List.mem_append_right _ h)))
theorem gTs_t {w : Cond} (h : w ∈ tables_1) (hg : goodWord w = true) : w ∈ gTs := List.mem_filter.mpr ⟨List.mem_append_right _ h, hg⟩
theorem gTs_p {q : MethodName × Nat} (h : q ∈ lw_privs) (hg : goodWord (Cond.selects q.1.cls q.1 q.1) = true) : Cond.selects q.1.cls q.1 q.1 ∈ gTs := List.mem_filter.mpr ⟨List.mem_append_left _ (List.mem_map.mpr ⟨q, h, rfl⟩), hg⟩
theorem gNW_t {w : Cond} (h : w ∈ tables_1) (hg : gNst w = true) : w ∈ gNW := List.mem_filter.mpr ⟨h, hg⟩
theorem wI_L : Cond.initialized "GuestStaffLaw" ∈ gTs := gTs_t (tb_1 (List.mem_of_getElem? (i := 0) rfl)) rfl
theorem wI_X10 : Cond.initialized "GuestStaff" ∈ gTs := gTs_t (tb_1 (List.mem_of_getElem? (i := 1) rfl)) rfl
theorem wI_X9 : Cond.initialized "GuestStaff$Text" ∈ gTs := gTs_t (tb_1 (List.mem_of_getElem? (i := 2) rfl)) rfl
theorem wI_X7 : Cond.initialized "GuestStaff$Rows" ∈ gTs := gTs_t (tb_1 (List.mem_of_getElem? (i := 3) rfl)) rfl
theorem wI_X4 : Cond.initialized "GuestStaff$Plain" ∈ gTs := gTs_t (tb_1 (List.mem_of_getElem? (i := 4) rfl)) rfl
theorem wI_X6 : Cond.initialized "GuestStaff$Quiet" ∈ gTs := gTs_t (tb_1 (List.mem_of_getElem? (i := 5) rfl)) rfl
theorem wI_X0 : Cond.initialized "GuestStaff$Banker" ∈ gTs := gTs_t (tb_1 (List.mem_of_getElem? (i := 6) rfl)) rfl
theorem wI_X8 : Cond.initialized "GuestStaff$Shouter" ∈ gTs := gTs_t (tb_1 (List.mem_of_getElem? (i := 7) rfl)) rfl
theorem wI_X2 : Cond.initialized "GuestStaff$Late" ∈ gTs := gTs_t (tb_1 (List.mem_of_getElem? (i := 8) rfl)) rfl
theorem wI_X5 : Cond.initialized "GuestStaff$Polisher" ∈ gTs := gTs_t (tb_1 (List.mem_of_getElem? (i := 9) rfl)) rfl
theorem wI_X1 : Cond.initialized "GuestStaff$House" ∈ gTs := gTs_t (tb_1 (List.mem_of_getElem? (i := 10) rfl)) rfl
theorem wI_X3 : Cond.initialized "GuestStaff$Notes" ∈ gTs := gTs_t (tb_1 (List.mem_of_getElem? (i := 11) rfl)) rfl
theorem wI_X11 : Cond.initialized "GuestStaffModel" ∈ gTs := gTs_t (tb_1 (List.mem_of_getElem? (i := 12) rfl)) rfl
theorem wI_J10 : Cond.initialized "java/lang/System" ∈ gTs := gTs_t (tb_1 (List.mem_of_getElem? (i := 13) rfl)) rfl
theorem wI_J9 : Cond.initialized "java/lang/Math" ∈ gTs := gTs_t (tb_1 (List.mem_of_getElem? (i := 14) rfl)) rfl
theorem wI_J0 : Cond.initialized "java/lang/String" ∈ gTs := gTs_t (tb_1 (List.mem_of_getElem? (i := 15) rfl)) rfl
theorem wI_J1 : Cond.initialized "java/lang/StringLatin1" ∈ gTs := gTs_t (tb_1 (List.mem_of_getElem? (i := 16) rfl)) rfl
theorem wI_J3 : Cond.initialized "jdk/internal/util/Preconditions" ∈ gTs := gTs_t (tb_1 (List.mem_of_getElem? (i := 17) rfl)) rfl
theorem wI_J2 : Cond.initialized "java/lang/StringUTF16" ∈ gTs := gTs_t (tb_1 (List.mem_of_getElem? (i := 18) rfl)) rfl
theorem wI_J6 : Cond.initialized "java/lang/Integer" ∈ gTs := gTs_t (tb_1 (List.mem_of_getElem? (i := 19) rfl)) rfl
theorem wM_L_9 : Cond.methodLink "GuestStaffLaw" 9 yX10_init ∈ gTs := gTs_t (tb_1 (List.mem_of_getElem? (i := 22) rfl)) rfl
theorem wM_X10_3 : Cond.methodLink "GuestStaff" 3 objectInit ∈ gTs := gTs_t (tb_1 (List.mem_of_getElem? (i := 25) rfl)) rfl
theorem wG_X10_15 : Cond.methodLinkNest "GuestStaff" 15 yX9_init "GuestStaff" ∈ gNW := gNW_t (tb_1 (List.mem_of_getElem? (i := 30) rfl)) rfl
theorem wM_X9_3 : Cond.methodLink "GuestStaff$Text" 3 objectInit ∈ gTs := gTs_t (tb_1 (List.mem_of_getElem? (i := 33) rfl)) rfl
theorem wF_X9_9 : Cond.fieldLink "GuestStaff$Text" 9 "GuestStaff$Text" "bytes" "[I" ∈ gTs := gTs_t (tb_1 (List.mem_of_getElem? (i := 34) rfl)) rfl
theorem wF_X9_15 : Cond.fieldLink "GuestStaff$Text" 15 "GuestStaff$Text" "size" "I" ∈ gTs := gTs_t (tb_1 (List.mem_of_getElem? (i := 35) rfl)) rfl
theorem wN_X10_105 : Cond.fieldLinkNest "GuestStaff" 105 "GuestStaff$Text" "size" "I" "GuestStaff" ∈ gNW := gNW_t (tb_1 (List.mem_of_getElem? (i := 36) rfl)) rfl
theorem wF_X9_19 : Cond.fieldLink "GuestStaff$Text" 19 "GuestStaff$Text" "at" "I" ∈ gTs := gTs_t (tb_1 (List.mem_of_getElem? (i := 37) rfl)) rfl
theorem wN_X10_115 : Cond.fieldLinkNest "GuestStaff" 115 "GuestStaff$Text" "at" "I" "GuestStaff" ∈ gNW := gNW_t (tb_1 (List.mem_of_getElem? (i := 38) rfl)) rfl
theorem wF_X9_22 : Cond.fieldLink "GuestStaff$Text" 22 "GuestStaff$Text" "behind" "I" ∈ gTs := gTs_t (tb_1 (List.mem_of_getElem? (i := 39) rfl)) rfl
theorem wF_X9_25 : Cond.fieldLink "GuestStaff$Text" 25 "GuestStaff$Text" "sort" "I" ∈ gTs := gTs_t (tb_1 (List.mem_of_getElem? (i := 40) rfl)) rfl
theorem wF_X9_28 : Cond.fieldLink "GuestStaff$Text" 28 "GuestStaff$Text" "number" "I" ∈ gTs := gTs_t (tb_1 (List.mem_of_getElem? (i := 41) rfl)) rfl
theorem wU_X9 : Cond.superclass "GuestStaff$Text" "java/lang/Object" ∈ gTs := gTs_t (tb_1 (List.mem_of_getElem? (i := 54) rfl)) rfl
theorem wG_X10_22 : Cond.methodLinkNest "GuestStaff" 22 yX7_init "GuestStaff" ∈ gNW := gNW_t (tb_1 (List.mem_of_getElem? (i := 59) rfl)) rfl
theorem wM_X7_3 : Cond.methodLink "GuestStaff$Rows" 3 objectInit ∈ gTs := gTs_t (tb_1 (List.mem_of_getElem? (i := 62) rfl)) rfl
theorem wF_X7_9 : Cond.fieldLink "GuestStaff$Rows" 9 "GuestStaff$Rows" "member" "[I" ∈ gTs := gTs_t (tb_1 (List.mem_of_getElem? (i := 65) rfl)) rfl
theorem wF_X7_15 : Cond.fieldLink "GuestStaff$Rows" 15 "GuestStaff$Rows" "open" "[I" ∈ gTs := gTs_t (tb_1 (List.mem_of_getElem? (i := 66) rfl)) rfl
theorem wF_X7_20 : Cond.fieldLink "GuestStaff$Rows" 20 "GuestStaff$Rows" "cost" "[[I" ∈ gTs := gTs_t (tb_1 (List.mem_of_getElem? (i := 67) rfl)) rfl
theorem wF_X7_23 : Cond.fieldLink "GuestStaff$Rows" 23 "GuestStaff$Rows" "rest" "[I" ∈ gTs := gTs_t (tb_1 (List.mem_of_getElem? (i := 68) rfl)) rfl
theorem wF_X7_26 : Cond.fieldLink "GuestStaff$Rows" 26 "GuestStaff$Rows" "members" "I" ∈ gTs := gTs_t (tb_1 (List.mem_of_getElem? (i := 69) rfl)) rfl
theorem wU_X7 : Cond.superclass "GuestStaff$Rows" "java/lang/Object" ∈ gTs := gTs_t (tb_1 (List.mem_of_getElem? (i := 80) rfl)) rfl
theorem wG_X10_40 : Cond.methodLinkNest "GuestStaff" 40 yX4_init "GuestStaff" ∈ gNW := gNW_t (tb_1 (List.mem_of_getElem? (i := 84) rfl)) rfl
theorem wM_X4_1 : Cond.methodLink "GuestStaff$Plain" 1 objectInit ∈ gTs := gTs_t (tb_1 (List.mem_of_getElem? (i := 87) rfl)) rfl
theorem wU_X4 : Cond.superclass "GuestStaff$Plain" "java/lang/Object" ∈ gTs := gTs_t (tb_1 (List.mem_of_getElem? (i := 88) rfl)) rfl
theorem wG_X10_43 : Cond.methodLinkNest "GuestStaff" 43 yX6_init "GuestStaff" ∈ gNW := gNW_t (tb_1 (List.mem_of_getElem? (i := 91) rfl)) rfl
theorem wG_X6_3 : Cond.methodLinkNest "GuestStaff$Quiet" 3 yX4_init "GuestStaff" ∈ gNW := gNW_t (tb_1 (List.mem_of_getElem? (i := 94) rfl)) rfl
theorem wU_X6 : Cond.superclass "GuestStaff$Quiet" "GuestStaff$Plain" ∈ gTs := gTs_t (tb_1 (List.mem_of_getElem? (i := 95) rfl)) rfl
theorem wG_X10_46 : Cond.methodLinkNest "GuestStaff" 46 yX0_init "GuestStaff" ∈ gNW := gNW_t (tb_1 (List.mem_of_getElem? (i := 98) rfl)) rfl
theorem wG_X0_1 : Cond.methodLinkNest "GuestStaff$Banker" 1 yX4_init "GuestStaff" ∈ gNW := gNW_t (tb_1 (List.mem_of_getElem? (i := 101) rfl)) rfl
theorem wU_X0 : Cond.superclass "GuestStaff$Banker" "GuestStaff$Plain" ∈ gTs := gTs_t (tb_1 (List.mem_of_getElem? (i := 102) rfl)) rfl
theorem wG_X10_49 : Cond.methodLinkNest "GuestStaff" 49 yX8_init "GuestStaff" ∈ gNW := gNW_t (tb_1 (List.mem_of_getElem? (i := 105) rfl)) rfl
theorem wG_X8_1 : Cond.methodLinkNest "GuestStaff$Shouter" 1 yX4_init "GuestStaff" ∈ gNW := gNW_t (tb_1 (List.mem_of_getElem? (i := 108) rfl)) rfl
theorem wU_X8 : Cond.superclass "GuestStaff$Shouter" "GuestStaff$Plain" ∈ gTs := gTs_t (tb_1 (List.mem_of_getElem? (i := 109) rfl)) rfl
theorem wG_X10_52 : Cond.methodLinkNest "GuestStaff" 52 yX2_init "GuestStaff" ∈ gNW := gNW_t (tb_1 (List.mem_of_getElem? (i := 112) rfl)) rfl
theorem wG_X2_1 : Cond.methodLinkNest "GuestStaff$Late" 1 yX6_init "GuestStaff" ∈ gNW := gNW_t (tb_1 (List.mem_of_getElem? (i := 115) rfl)) rfl
theorem wU_X2 : Cond.superclass "GuestStaff$Late" "GuestStaff$Quiet" ∈ gTs := gTs_t (tb_1 (List.mem_of_getElem? (i := 116) rfl)) rfl
theorem wG_X10_55 : Cond.methodLinkNest "GuestStaff" 55 yX5_init "GuestStaff" ∈ gNW := gNW_t (tb_1 (List.mem_of_getElem? (i := 119) rfl)) rfl
theorem wG_X5_1 : Cond.methodLinkNest "GuestStaff$Polisher" 1 yX0_init "GuestStaff" ∈ gNW := gNW_t (tb_1 (List.mem_of_getElem? (i := 122) rfl)) rfl
theorem wU_X5 : Cond.superclass "GuestStaff$Polisher" "GuestStaff$Banker" ∈ gTs := gTs_t (tb_1 (List.mem_of_getElem? (i := 123) rfl)) rfl
theorem wM_X10_58 : Cond.methodLink "GuestStaff" 58 yX1_init ∈ gTs := gTs_t (tb_1 (List.mem_of_getElem? (i := 126) rfl)) rfl
theorem wM_X1_3 : Cond.methodLink "GuestStaff$House" 3 objectInit ∈ gTs := gTs_t (tb_1 (List.mem_of_getElem? (i := 129) rfl)) rfl
theorem wG_X1_29 : Cond.methodLinkNest "GuestStaff$House" 29 yX3_init "GuestStaff" ∈ gNW := gNW_t (tb_1 (List.mem_of_getElem? (i := 132) rfl)) rfl
theorem wM_X3_3 : Cond.methodLink "GuestStaff$Notes" 3 objectInit ∈ gTs := gTs_t (tb_1 (List.mem_of_getElem? (i := 135) rfl)) rfl
theorem wF_X3_13 : Cond.fieldLink "GuestStaff$Notes" 13 "GuestStaff$Notes" "note" "[[I" ∈ gTs := gTs_t (tb_1 (List.mem_of_getElem? (i := 137) rfl)) rfl
theorem wF_X3_16 : Cond.fieldLink "GuestStaff$Notes" 16 "GuestStaff$Notes" "size" "I" ∈ gTs := gTs_t (tb_1 (List.mem_of_getElem? (i := 138) rfl)) rfl
theorem wN_X1_68 : Cond.fieldLinkNest "GuestStaff$House" 68 "GuestStaff$Notes" "size" "I" "GuestStaff" ∈ gNW := gNW_t (tb_1 (List.mem_of_getElem? (i := 139) rfl)) rfl
theorem wN_X10_201 : Cond.fieldLinkNest "GuestStaff" 201 "GuestStaff$Notes" "size" "I" "GuestStaff" ∈ gNW := gNW_t (tb_1 (List.mem_of_getElem? (i := 140) rfl)) rfl
theorem wU_X3 : Cond.superclass "GuestStaff$Notes" "java/lang/Object" ∈ gTs := gTs_t (tb_1 (List.mem_of_getElem? (i := 145) rfl)) rfl
theorem wF_X1_64 : Cond.fieldLink "GuestStaff$House" 64 "GuestStaff$House" "kinds" "[LGuestStaff$Plain;" ∈ gTs := gTs_t (tb_1 (List.mem_of_getElem? (i := 147) rfl)) rfl
theorem wF_X1_9 : Cond.fieldLink "GuestStaff$House" 9 "GuestStaff$House" "kind" "[I" ∈ gTs := gTs_t (tb_1 (List.mem_of_getElem? (i := 148) rfl)) rfl
theorem wN_X10_140 : Cond.fieldLinkNest "GuestStaff" 140 "GuestStaff$House" "kind" "[I" "GuestStaff" ∈ gNW := gNW_t (tb_1 (List.mem_of_getElem? (i := 149) rfl)) rfl
theorem wF_X1_15 : Cond.fieldLink "GuestStaff$House" 15 "GuestStaff$House" "want" "[I" ∈ gTs := gTs_t (tb_1 (List.mem_of_getElem? (i := 150) rfl)) rfl
theorem wN_X7_43 : Cond.fieldLinkNest "GuestStaff$Rows" 43 "GuestStaff$House" "want" "[I" "GuestStaff" ∈ gNW := gNW_t (tb_1 (List.mem_of_getElem? (i := 151) rfl)) rfl
theorem wN_X10_143 : Cond.fieldLinkNest "GuestStaff" 143 "GuestStaff$House" "want" "[I" "GuestStaff" ∈ gNW := gNW_t (tb_1 (List.mem_of_getElem? (i := 152) rfl)) rfl
theorem wF_X1_18 : Cond.fieldLink "GuestStaff$House" 18 "GuestStaff$House" "can" "[I" ∈ gTs := gTs_t (tb_1 (List.mem_of_getElem? (i := 153) rfl)) rfl
theorem wN_X10_146 : Cond.fieldLinkNest "GuestStaff" 146 "GuestStaff$House" "can" "[I" "GuestStaff" ∈ gNW := gNW_t (tb_1 (List.mem_of_getElem? (i := 154) rfl)) rfl
theorem wF_X1_21 : Cond.fieldLink "GuestStaff$House" 21 "GuestStaff$House" "duty" "[I" ∈ gTs := gTs_t (tb_1 (List.mem_of_getElem? (i := 155) rfl)) rfl
theorem wN_X10_99 : Cond.fieldLinkNest "GuestStaff" 99 "GuestStaff$House" "duty" "[I" "GuestStaff" ∈ gNW := gNW_t (tb_1 (List.mem_of_getElem? (i := 156) rfl)) rfl
theorem wN_X9_77 : Cond.fieldLinkNest "GuestStaff$Text" 77 "GuestStaff$House" "duty" "[I" "GuestStaff" ∈ gNW := gNW_t (tb_1 (List.mem_of_getElem? (i := 157) rfl)) rfl
theorem wF_X1_24 : Cond.fieldLink "GuestStaff$House" 24 "GuestStaff$House" "tips" "[I" ∈ gTs := gTs_t (tb_1 (List.mem_of_getElem? (i := 158) rfl)) rfl
theorem wN_X10_149 : Cond.fieldLinkNest "GuestStaff" 149 "GuestStaff$House" "tips" "[I" "GuestStaff" ∈ gNW := gNW_t (tb_1 (List.mem_of_getElem? (i := 159) rfl)) rfl
theorem wF_X1_30 : Cond.fieldLink "GuestStaff$House" 30 "GuestStaff$House" "notes" "LGuestStaff$Notes;" ∈ gTs := gTs_t (tb_1 (List.mem_of_getElem? (i := 160) rfl)) rfl
theorem wN_X10_197 : Cond.fieldLinkNest "GuestStaff" 197 "GuestStaff$House" "notes" "LGuestStaff$Notes;" "GuestStaff" ∈ gNW := gNW_t (tb_1 (List.mem_of_getElem? (i := 161) rfl)) rfl
theorem wF_X1_36 : Cond.fieldLink "GuestStaff$House" 36 "GuestStaff$House" "pastDuty" "[[I" ∈ gTs := gTs_t (tb_1 (List.mem_of_getElem? (i := 162) rfl)) rfl
theorem wF_X1_39 : Cond.fieldLink "GuestStaff$House" 39 "GuestStaff$House" "pastTips" "[[I" ∈ gTs := gTs_t (tb_1 (List.mem_of_getElem? (i := 163) rfl)) rfl
theorem wF_X1_42 : Cond.fieldLink "GuestStaff$House" 42 "GuestStaff$House" "pastMood" "[I" ∈ gTs := gTs_t (tb_1 (List.mem_of_getElem? (i := 164) rfl)) rfl
theorem wF_X1_45 : Cond.fieldLink "GuestStaff$House" 45 "GuestStaff$House" "pastHour" "[I" ∈ gTs := gTs_t (tb_1 (List.mem_of_getElem? (i := 165) rfl)) rfl
theorem wF_X1_48 : Cond.fieldLink "GuestStaff$House" 48 "GuestStaff$House" "slot" "I" ∈ gTs := gTs_t (tb_1 (List.mem_of_getElem? (i := 166) rfl)) rfl
theorem wF_X1_52 : Cond.fieldLink "GuestStaff$House" 52 "GuestStaff$House" "undoable" "I" ∈ gTs := gTs_t (tb_1 (List.mem_of_getElem? (i := 167) rfl)) rfl
theorem wN_X10_128 : Cond.fieldLinkNest "GuestStaff" 128 "GuestStaff$House" "undoable" "I" "GuestStaff" ∈ gNW := gNW_t (tb_1 (List.mem_of_getElem? (i := 168) rfl)) rfl
theorem wF_X1_55 : Cond.fieldLink "GuestStaff$House" 55 "GuestStaff$House" "guests" "I" ∈ gTs := gTs_t (tb_1 (List.mem_of_getElem? (i := 169) rfl)) rfl
theorem wN_X10_72 : Cond.fieldLinkNest "GuestStaff" 72 "GuestStaff$House" "guests" "I" "GuestStaff" ∈ gNW := gNW_t (tb_1 (List.mem_of_getElem? (i := 170) rfl)) rfl
theorem wN_X7_30 : Cond.fieldLinkNest "GuestStaff$Rows" 30 "GuestStaff$House" "guests" "I" "GuestStaff" ∈ gNW := gNW_t (tb_1 (List.mem_of_getElem? (i := 171) rfl)) rfl
theorem wN_X9_55 : Cond.fieldLinkNest "GuestStaff$Text" 55 "GuestStaff$House" "guests" "I" "GuestStaff" ∈ gNW := gNW_t (tb_1 (List.mem_of_getElem? (i := 172) rfl)) rfl
theorem wF_X1_58 : Cond.fieldLink "GuestStaff$House" 58 "GuestStaff$House" "hour" "I" ∈ gTs := gTs_t (tb_1 (List.mem_of_getElem? (i := 173) rfl)) rfl
theorem wN_X10_137 : Cond.fieldLinkNest "GuestStaff" 137 "GuestStaff$House" "hour" "I" "GuestStaff" ∈ gNW := gNW_t (tb_1 (List.mem_of_getElem? (i := 174) rfl)) rfl
theorem wF_X1_61 : Cond.fieldLink "GuestStaff$House" 61 "GuestStaff$House" "mood" "I" ∈ gTs := gTs_t (tb_1 (List.mem_of_getElem? (i := 175) rfl)) rfl
theorem wN_X10_125 : Cond.fieldLinkNest "GuestStaff" 125 "GuestStaff$House" "mood" "I" "GuestStaff" ∈ gNW := gNW_t (tb_1 (List.mem_of_getElem? (i := 176) rfl)) rfl
theorem wU_X1 : Cond.superclass "GuestStaff$House" "java/lang/Object" ∈ gTs := gTs_t (tb_1 (List.mem_of_getElem? (i := 209) rfl)) rfl
theorem wF_X10_61 : Cond.fieldLink "GuestStaff" 61 "GuestStaff" "now" "LGuestStaff$House;" ∈ gTs := gTs_t (tb_1 (List.mem_of_getElem? (i := 211) rfl)) rfl
theorem wF_X10_65 : Cond.fieldLink "GuestStaff" 65 "GuestStaff" "trial" "LGuestStaff$House;" ∈ gTs := gTs_t (tb_1 (List.mem_of_getElem? (i := 212) rfl)) rfl
theorem wF_X10_68 : Cond.fieldLink "GuestStaff" 68 "GuestStaff" "images" "[LGuestStaff$House;" ∈ gTs := gTs_t (tb_1 (List.mem_of_getElem? (i := 213) rfl)) rfl
theorem wF_X10_9 : Cond.fieldLink "GuestStaff" 9 "GuestStaff" "kept" "[Z" ∈ gTs := gTs_t (tb_1 (List.mem_of_getElem? (i := 214) rfl)) rfl
theorem wF_X10_16 : Cond.fieldLink "GuestStaff" 16 "GuestStaff" "text" "LGuestStaff$Text;" ∈ gTs := gTs_t (tb_1 (List.mem_of_getElem? (i := 215) rfl)) rfl
theorem wF_X10_23 : Cond.fieldLink "GuestStaff" 23 "GuestStaff" "rows" "LGuestStaff$Rows;" ∈ gTs := gTs_t (tb_1 (List.mem_of_getElem? (i := 216) rfl)) rfl
theorem wF_X10_27 : Cond.fieldLink "GuestStaff" 27 "GuestStaff" "refused" "[I" ∈ gTs := gTs_t (tb_1 (List.mem_of_getElem? (i := 217) rfl)) rfl
theorem wF_X10_31 : Cond.fieldLink "GuestStaff" 31 "GuestStaff" "above" "J" ∈ gTs := gTs_t (tb_1 (List.mem_of_getElem? (i := 218) rfl)) rfl
theorem wF_X10_35 : Cond.fieldLink "GuestStaff" 35 "GuestStaff" "below" "J" ∈ gTs := gTs_t (tb_1 (List.mem_of_getElem? (i := 219) rfl)) rfl
theorem wU_X10 : Cond.superclass "GuestStaff" "java/lang/Object" ∈ gTs := gTs_t (tb_1 (List.mem_of_getElem? (i := 238) rfl)) rfl
theorem wM_L_13 : Cond.methodLink "GuestStaffLaw" 13 yX10_house ∈ gTs := gTs_t (tb_1 (List.mem_of_getElem? (i := 239) rfl)) rfl
theorem wM_X10_76 : Cond.methodLink "GuestStaff" 76 yX1_empty ∈ gTs := gTs_t (tb_2 (List.mem_of_getElem? (i := 3) rfl)) rfl
theorem wM_L_18 : Cond.methodLink "GuestStaffLaw" 18 yX10_guest ∈ gTs := gTs_t (tb_2 (List.mem_of_getElem? (i := 7) rfl)) rfl
theorem wM_X10_79 : Cond.methodLink "GuestStaff" 79 yX10_isBelow ∈ gTs := gTs_t (tb_2 (List.mem_of_getElem? (i := 11) rfl)) rfl
theorem wM_X10_83 : Cond.methodLink "GuestStaff" 83 yX10_refuseBad ∈ gTs := gTs_t (tb_2 (List.mem_of_getElem? (i := 14) rfl)) rfl
theorem wM_X10_87 : Cond.methodLink "GuestStaff" 87 yX10_refuseFull ∈ gTs := gTs_t (tb_2 (List.mem_of_getElem? (i := 18) rfl)) rfl
theorem wM_X10_91 : Cond.methodLink "GuestStaff" 91 yX1_admit ∈ gTs := gTs_t (tb_2 (List.mem_of_getElem? (i := 22) rfl)) rfl
theorem wM_L_23 : Cond.methodLink "GuestStaffLaw" 23 yX10_duty ∈ gTs := gTs_t (tb_2 (List.mem_of_getElem? (i := 26) rfl)) rfl
theorem wM_X10_95 : Cond.methodLink "GuestStaff" 95 yX1_isGuest ∈ gTs := gTs_t (tb_2 (List.mem_of_getElem? (i := 30) rfl)) rfl
theorem wM_X10_102 : Cond.methodLink "GuestStaff" 102 yX1_remember ∈ gTs := gTs_t (tb_2 (List.mem_of_getElem? (i := 34) rfl)) rfl
theorem wM_X1_71 : Cond.methodLink "GuestStaff$House" 71 yX1_copyRow ∈ gTs := gTs_t (tb_2 (List.mem_of_getElem? (i := 38) rfl)) rfl
theorem wM_X1_79 : Cond.methodLink "GuestStaff$House" 79 arraycopyName ∈ gTs := gTs_t (tb_2 (List.mem_of_getElem? (i := 41) rfl)) rfl
theorem wM_X1_109 : Cond.methodLink "GuestStaff$House" 109 Lib.Math.min.name ∈ gTs := gTs_t (tb_2 (List.mem_of_getElem? (i := 44) rfl)) rfl
theorem wM_L_28 : Cond.methodLink "GuestStaffLaw" 28 yX10_type ∈ gTs := gTs_t (tb_2 (List.mem_of_getElem? (i := 47) rfl)) rfl
theorem wM_X10_108 : Cond.methodLink "GuestStaff" 108 yX9_append ∈ gTs := gTs_t (tb_2 (List.mem_of_getElem? (i := 51) rfl)) rfl
theorem wM_L_33 : Cond.methodLink "GuestStaffLaw" 33 yX10_clear ∈ gTs := gTs_t (tb_2 (List.mem_of_getElem? (i := 55) rfl)) rfl
theorem wM_L_37 : Cond.methodLink "GuestStaffLaw" 37 yX10_read ∈ gTs := gTs_t (tb_2 (List.mem_of_getElem? (i := 59) rfl)) rfl
theorem wM_X10_111 : Cond.methodLink "GuestStaff" 111 yX9_parse ∈ gTs := gTs_t (tb_2 (List.mem_of_getElem? (i := 63) rfl)) rfl
theorem wM_X9_31 : Cond.methodLink "GuestStaff$Text" 31 yX1_empty ∈ gTs := gTs_t (tb_2 (List.mem_of_getElem? (i := 67) rfl)) rfl
theorem wM_X9_36 : Cond.methodLink "GuestStaff$Text" 36 yX9_step ∈ gTs := gTs_t (tb_2 (List.mem_of_getElem? (i := 68) rfl)) rfl
theorem wM_X9_89 : Cond.methodLink "GuestStaff$Text" 89 yX9_endOfRun ∈ gTs := gTs_t (tb_2 (List.mem_of_getElem? (i := 72) rfl)) rfl
theorem wM_X9_92 : Cond.methodLink "GuestStaff$Text" 92 yX9_numberHere ∈ gTs := gTs_t (tb_2 (List.mem_of_getElem? (i := 76) rfl)) rfl
theorem wM_X9_95 : Cond.methodLink "GuestStaff$Text" 95 yX9_signHere ∈ gTs := gTs_t (tb_2 (List.mem_of_getElem? (i := 80) rfl)) rfl
theorem wM_X9_98 : Cond.methodLink "GuestStaff$Text" 98 Lib.Math.min.name ∈ gTs := gTs_t (tb_2 (List.mem_of_getElem? (i := 84) rfl)) rfl
theorem wM_X9_41 : Cond.methodLink "GuestStaff$Text" 41 yX9_isWord ∈ gTs := gTs_t (tb_2 (List.mem_of_getElem? (i := 86) rfl)) rfl
theorem wM_X9_79 : Cond.methodLink "GuestStaff$Text" 79 yJ0_length_8abf5 ∈ gTs := gTs_t (tb_2 (List.mem_of_getElem? (i := 90) rfl)) rfl
theorem wM_J0_335 : Cond.methodLink "java/lang/String" 335 yJ0_coder_7d493 ∈ gTs := gTs_t (tb_2 (List.mem_of_getElem? (i := 94) rfl)) rfl
theorem wF_J0_38 : Cond.fieldLink "java/lang/String" 38 "java/lang/String" "COMPACT_STRINGS" "Z" ∈ gTs := gTs_t (tb_2 (List.mem_of_getElem? (i := 98) rfl)) rfl
theorem wM_X9_85 : Cond.methodLink "GuestStaff$Text" 85 yJ0_charAt_5068e ∈ gTs := gTs_t (tb_2 (List.mem_of_getElem? (i := 100) rfl)) rfl
theorem wM_J0_492 : Cond.methodLink "java/lang/String" 492 yJ0_isLatin1_aae02 ∈ gTs := gTs_t (tb_2 (List.mem_of_getElem? (i := 104) rfl)) rfl
theorem wM_J0_495 : Cond.methodLink "java/lang/String" 495 yJ1_charAt_3b067 ∈ gTs := gTs_t (tb_2 (List.mem_of_getElem? (i := 108) rfl)) rfl
theorem wM_J1_9 : Cond.methodLink "java/lang/StringLatin1" 9 yJ0_checkIndex_df160 ∈ gTs := gTs_t (tb_2 (List.mem_of_getElem? (i := 111) rfl)) rfl
theorem wF_J0_1053 : Cond.fieldLink "java/lang/String" 1053 "jdk/internal/util/Preconditions" "SIOOBE_FORMATTER" "Ljava/util/function/BiFunction;" ∈ gTs := gTs_t (tb_2 (List.mem_of_getElem? (i := 114) rfl)) rfl
theorem wM_J0_1059 : Cond.methodLink "java/lang/String" 1059 yJ3_checkIndex_8e157 ∈ gTs := gTs_t (tb_2 (List.mem_of_getElem? (i := 116) rfl)) rfl
theorem wM_J0_498 : Cond.methodLink "java/lang/String" 498 yJ2_charAt_3b067 ∈ gTs := gTs_t (tb_2 (List.mem_of_getElem? (i := 119) rfl)) rfl
theorem wM_J2_67 : Cond.methodLink "java/lang/StringUTF16" 67 yJ2_checkIndex_2214a ∈ gTs := gTs_t (tb_2 (List.mem_of_getElem? (i := 122) rfl)) rfl
theorem wM_J2_48 : Cond.methodLink "java/lang/StringUTF16" 48 yJ2_length_9d52b ∈ gTs := gTs_t (tb_2 (List.mem_of_getElem? (i := 125) rfl)) rfl
theorem wM_J2_414 : Cond.methodLink "java/lang/StringUTF16" 414 yJ0_checkIndex_df160 ∈ gTs := gTs_t (tb_2 (List.mem_of_getElem? (i := 128) rfl)) rfl
theorem wM_J2_71 : Cond.methodLink "java/lang/StringUTF16" 71 yJ2_getChar_3b067 ∈ gTs := gTs_t (tb_2 (List.mem_of_getElem? (i := 129) rfl)) rfl
theorem wF_J2_44 : Cond.fieldLink "java/lang/StringUTF16" 44 "java/lang/StringUTF16" "$assertionsDisabled" "Z" ∈ gTs := gTs_t (tb_2 (List.mem_of_getElem? (i := 132) rfl)) rfl
theorem wF_J2_59 : Cond.fieldLink "java/lang/StringUTF16" 59 "java/lang/StringUTF16" "HI_BYTE_SHIFT" "I" ∈ gTs := gTs_t (tb_2 (List.mem_of_getElem? (i := 134) rfl)) rfl
theorem wF_J2_63 : Cond.fieldLink "java/lang/StringUTF16" 63 "java/lang/StringUTF16" "LO_BYTE_SHIFT" "I" ∈ gTs := gTs_t (tb_2 (List.mem_of_getElem? (i := 136) rfl)) rfl
theorem wM_X9_45 : Cond.methodLink "GuestStaff$Text" 45 yX9_stepToStop ∈ gTs := gTs_t (tb_2 (List.mem_of_getElem? (i := 138) rfl)) rfl
theorem wM_X9_49 : Cond.methodLink "GuestStaff$Text" 49 yX9_parseItem ∈ gTs := gTs_t (tb_2 (List.mem_of_getElem? (i := 142) rfl)) rfl
theorem wM_X9_58 : Cond.methodLink "GuestStaff$Text" 58 yX9_parseGuest ∈ gTs := gTs_t (tb_2 (List.mem_of_getElem? (i := 147) rfl)) rfl
theorem wM_X9_66 : Cond.methodLink "GuestStaff$Text" 66 yX9_stepToNumber ∈ gTs := gTs_t (tb_2 (List.mem_of_getElem? (i := 151) rfl)) rfl
theorem wM_X9_70 : Cond.methodLink "GuestStaff$Text" 70 yX9_isNumber ∈ gTs := gTs_t (tb_2 (List.mem_of_getElem? (i := 155) rfl)) rfl
theorem wM_X9_73 : Cond.methodLink "GuestStaff$Text" 73 yX1_admit ∈ gTs := gTs_t (tb_2 (List.mem_of_getElem? (i := 159) rfl)) rfl
theorem wM_X9_63 : Cond.methodLink "GuestStaff$Text" 63 yX9_parseDuty ∈ gTs := gTs_t (tb_2 (List.mem_of_getElem? (i := 161) rfl)) rfl
theorem wM_X10_118 : Cond.methodLink "GuestStaff" 118 yX1_copy ∈ gTs := gTs_t (tb_2 (List.mem_of_getElem? (i := 165) rfl)) rfl
theorem wM_X1_75 : Cond.methodLink "GuestStaff$House" 75 yX3_copy ∈ gTs := gTs_t (tb_2 (List.mem_of_getElem? (i := 169) rfl)) rfl
theorem wM_X3_20 : Cond.methodLink "GuestStaff$Notes" 20 arraycopyName ∈ gTs := gTs_t (tb_2 (List.mem_of_getElem? (i := 173) rfl)) rfl
theorem wM_L_41 : Cond.methodLink "GuestStaffLaw" 41 yX10_hour ∈ gTs := gTs_t (tb_2 (List.mem_of_getElem? (i := 175) rfl)) rfl
theorem wM_X10_122 : Cond.methodLink "GuestStaff" 122 yX1_passHour ∈ gTs := gTs_t (tb_2 (List.mem_of_getElem? (i := 179) rfl)) rfl
theorem wM_X1_106 : Cond.methodLink "GuestStaff$House" 106 yX1_contentOf ∈ gTs := gTs_t (tb_2 (List.mem_of_getElem? (i := 183) rfl)) rfl
theorem wM_X1_92 : Cond.methodLink "GuestStaff$House" 92 yX1_serverOf ∈ gTs := gTs_t (tb_2 (List.mem_of_getElem? (i := 187) rfl)) rfl
theorem wM_X1_89 : Cond.methodLink "GuestStaff$House" 89 yX1_doesServe ∈ gTs := gTs_t (tb_2 (List.mem_of_getElem? (i := 191) rfl)) rfl
theorem wM_X1_85 : Cond.methodLink "GuestStaff$House" 85 yX1_canServe ∈ gTs := gTs_t (tb_2 (List.mem_of_getElem? (i := 195) rfl)) rfl
theorem wM_X1_102 : Cond.methodLink "GuestStaff$House" 102 yX1_contentBy ∈ gTs := gTs_t (tb_2 (List.mem_of_getElem? (i := 199) rfl)) rfl
theorem wM_X1_96 : Cond.methodLink "GuestStaff$House" 96 yX4_contentBy ∈ gTs := gTs_t (tb_2 (List.mem_of_getElem? (i := 203) rfl)) rfl
theorem wA_X4_contentBy : Cond.sameMethod "GuestStaff$Plain" "GuestStaff$Plain" "contentBy" "(II)I" ∈ gTs := gTs_t (tb_2 (List.mem_of_getElem? (i := 206) rfl)) rfl
theorem wS_X0_contentBy : Cond.selects "GuestStaff$Banker" yX4_contentBy yX0_contentBy ∈ gTs := gTs_t (tb_2 (List.mem_of_getElem? (i := 207) rfl)) rfl
theorem wM_X0_7 : Cond.methodLink "GuestStaff$Banker" 7 yX4_contentBy ∈ gTs := gTs_t (tb_2 (List.mem_of_getElem? (i := 210) rfl)) rfl
theorem wS_X2_contentBy : Cond.selects "GuestStaff$Late" yX4_contentBy yX2_contentBy ∈ gTs := gTs_t (tb_2 (List.mem_of_getElem? (i := 211) rfl)) rfl
theorem wM_X2_7 : Cond.methodLink "GuestStaff$Late" 7 yX6_contentBy ∈ gTs := gTs_t (tb_2 (List.mem_of_getElem? (i := 214) rfl)) rfl
theorem wM_X6_9 : Cond.methodLink "GuestStaff$Quiet" 9 yX4_contentBy ∈ gTs := gTs_t (tb_2 (List.mem_of_getElem? (i := 217) rfl)) rfl
theorem wS_X5_contentBy : Cond.selects "GuestStaff$Polisher" yX4_contentBy yX5_contentBy ∈ gTs := gTs_t (tb_2 (List.mem_of_getElem? (i := 218) rfl)) rfl
theorem wM_X5_7 : Cond.methodLink "GuestStaff$Polisher" 7 yX0_contentBy ∈ gTs := gTs_t (tb_2 (List.mem_of_getElem? (i := 221) rfl)) rfl
theorem wS_X6_contentBy : Cond.selects "GuestStaff$Quiet" yX4_contentBy yX6_contentBy ∈ gTs := gTs_t (tb_2 (List.mem_of_getElem? (i := 222) rfl)) rfl
theorem wS_X8_contentBy : Cond.selects "GuestStaff$Shouter" yX4_contentBy yX8_contentBy ∈ gTs := gTs_t (tb_2 (List.mem_of_getElem? (i := 223) rfl)) rfl
theorem wM_X8_7 : Cond.methodLink "GuestStaff$Shouter" 7 yX4_contentBy ∈ gTs := gTs_t (tb_2 (List.mem_of_getElem? (i := 226) rfl)) rfl
theorem wM_L_45 : Cond.methodLink "GuestStaffLaw" 45 yX10_undo ∈ gTs := gTs_t (tb_2 (List.mem_of_getElem? (i := 228) rfl)) rfl
theorem wM_X10_131 : Cond.methodLink "GuestStaff" 131 yX10_refuseNo ∈ gTs := gTs_t (tb_2 (List.mem_of_getElem? (i := 232) rfl)) rfl
theorem wM_X10_134 : Cond.methodLink "GuestStaff" 134 yX1_recall ∈ gTs := gTs_t (tb_2 (List.mem_of_getElem? (i := 236) rfl)) rfl
theorem wM_L_49 : Cond.methodLink "GuestStaffLaw" 49 yX10_of ∈ gTs := gTs_t (tb_3 (List.mem_of_getElem? (i := 0) rfl)) rfl
theorem wM_X10_152 : Cond.methodLink "GuestStaff" 152 yX1_serverOf ∈ gTs := gTs_t (tb_3 (List.mem_of_getElem? (i := 4) rfl)) rfl
theorem wM_X10_155 : Cond.methodLink "GuestStaff" 155 yX1_contentOf ∈ gTs := gTs_t (tb_3 (List.mem_of_getElem? (i := 5) rfl)) rfl
theorem wM_L_53 : Cond.methodLink "GuestStaffLaw" 53 yX10_can ∈ gTs := gTs_t (tb_3 (List.mem_of_getElem? (i := 6) rfl)) rfl
theorem wM_X10_158 : Cond.methodLink "GuestStaff" 158 yX1_canServe ∈ gTs := gTs_t (tb_3 (List.mem_of_getElem? (i := 10) rfl)) rfl
theorem wM_L_57 : Cond.methodLink "GuestStaffLaw" 57 yX10_work ∈ gTs := gTs_t (tb_3 (List.mem_of_getElem? (i := 11) rfl)) rfl
theorem wM_X10_161 : Cond.methodLink "GuestStaff" 161 yX1_workFor ∈ gTs := gTs_t (tb_3 (List.mem_of_getElem? (i := 15) rfl)) rfl
theorem wM_X1_103 : Cond.methodLink "GuestStaff$House" 103 yX4_workOn ∈ gTs := gTs_t (tb_3 (List.mem_of_getElem? (i := 19) rfl)) rfl
theorem wA_X4_workOn : Cond.sameMethod "GuestStaff$Plain" "GuestStaff$Plain" "workOn" "(I)I" ∈ gTs := gTs_t (tb_3 (List.mem_of_getElem? (i := 22) rfl)) rfl
theorem wS_X0_workOn : Cond.selects "GuestStaff$Banker" yX4_workOn yX0_workOn ∈ gTs := gTs_t (tb_3 (List.mem_of_getElem? (i := 23) rfl)) rfl
theorem wM_X0_11 : Cond.methodLink "GuestStaff$Banker" 11 yX4_workOn ∈ gTs := gTs_t (tb_3 (List.mem_of_getElem? (i := 26) rfl)) rfl
theorem wS_X2_workOn : Cond.selects "GuestStaff$Late" yX4_workOn yX6_workOn ∈ gTs := gTs_t (tb_3 (List.mem_of_getElem? (i := 27) rfl)) rfl
theorem wM_X6_13 : Cond.methodLink "GuestStaff$Quiet" 13 yX4_workOn ∈ gTs := gTs_t (tb_3 (List.mem_of_getElem? (i := 30) rfl)) rfl
theorem wS_X5_workOn : Cond.selects "GuestStaff$Polisher" yX4_workOn yX5_workOn ∈ gTs := gTs_t (tb_3 (List.mem_of_getElem? (i := 31) rfl)) rfl
theorem wM_X5_11 : Cond.methodLink "GuestStaff$Polisher" 11 yX0_workOn ∈ gTs := gTs_t (tb_3 (List.mem_of_getElem? (i := 34) rfl)) rfl
theorem wS_X6_workOn : Cond.selects "GuestStaff$Quiet" yX4_workOn yX6_workOn ∈ gTs := gTs_t (tb_3 (List.mem_of_getElem? (i := 35) rfl)) rfl
theorem wS_X8_workOn : Cond.selects "GuestStaff$Shouter" yX4_workOn yX4_workOn ∈ gTs := gTs_t (tb_3 (List.mem_of_getElem? (i := 36) rfl)) rfl
theorem wM_L_61 : Cond.methodLink "GuestStaffLaw" 61 yX10_all ∈ gTs := gTs_t (tb_3 (List.mem_of_getElem? (i := 38) rfl)) rfl
theorem wM_X10_165 : Cond.methodLink "GuestStaff" 165 yX7_gather ∈ gTs := gTs_t (tb_3 (List.mem_of_getElem? (i := 42) rfl)) rfl
theorem wM_X7_35 : Cond.methodLink "GuestStaff$Rows" 35 yX1_canServe ∈ gTs := gTs_t (tb_3 (List.mem_of_getElem? (i := 46) rfl)) rfl
theorem wM_X7_39 : Cond.methodLink "GuestStaff$Rows" 39 yX7_costOf ∈ gTs := gTs_t (tb_3 (List.mem_of_getElem? (i := 47) rfl)) rfl
theorem wM_X7_46 : Cond.methodLink "GuestStaff$Rows" 46 yX1_workFor ∈ gTs := gTs_t (tb_3 (List.mem_of_getElem? (i := 50) rfl)) rfl
theorem wM_X7_50 : Cond.methodLink "GuestStaff$Rows" 50 yX1_contentBy ∈ gTs := gTs_t (tb_3 (List.mem_of_getElem? (i := 51) rfl)) rfl
theorem wM_X10_169 : Cond.methodLink "GuestStaff" 169 yX7_ways ∈ gTs := gTs_t (tb_3 (List.mem_of_getElem? (i := 52) rfl)) rfl
theorem wM_X7_59 : Cond.methodLink "GuestStaff$Rows" 59 yX7_isOpen ∈ gTs := gTs_t (tb_3 (List.mem_of_getElem? (i := 56) rfl)) rfl
theorem wM_X7_53 : Cond.methodLink "GuestStaff$Rows" 53 yJ6_bitCount_0f7a4 ∈ gTs := gTs_t (tb_3 (List.mem_of_getElem? (i := 60) rfl)) rfl
theorem wC_J6_265 : Cond.constant "java/lang/Integer" 265 1431655765 ∈ gTs := gTs_t (tb_3 (List.mem_of_getElem? (i := 63) rfl)) rfl
theorem wC_J6_266 : Cond.constant "java/lang/Integer" 266 858993459 ∈ gTs := gTs_t (tb_3 (List.mem_of_getElem? (i := 64) rfl)) rfl
theorem wC_J6_267 : Cond.constant "java/lang/Integer" 267 252645135 ∈ gTs := gTs_t (tb_3 (List.mem_of_getElem? (i := 65) rfl)) rfl
theorem wM_X10_172 : Cond.methodLink "GuestStaff" 172 yX7_dutyInBest ∈ gTs := gTs_t (tb_3 (List.mem_of_getElem? (i := 66) rfl)) rfl
theorem wM_X7_71 : Cond.methodLink "GuestStaff$Rows" 71 yX7_leastCost ∈ gTs := gTs_t (tb_3 (List.mem_of_getElem? (i := 70) rfl)) rfl
theorem wC_X7_62 : Cond.constant "GuestStaff$Rows" 62 1000000 ∈ gTs := gTs_t (tb_3 (List.mem_of_getElem? (i := 74) rfl)) rfl
theorem wM_X7_63 : Cond.methodLink "GuestStaff$Rows" 63 yX7_costThrough ∈ gTs := gTs_t (tb_3 (List.mem_of_getElem? (i := 75) rfl)) rfl
theorem wM_X7_66 : Cond.methodLink "GuestStaff$Rows" 66 Lib.Math.min.name ∈ gTs := gTs_t (tb_3 (List.mem_of_getElem? (i := 79) rfl)) rfl
theorem wM_X7_75 : Cond.methodLink "GuestStaff$Rows" 75 yX7_firstBest ∈ gTs := gTs_t (tb_3 (List.mem_of_getElem? (i := 80) rfl)) rfl
theorem wM_L_65 : Cond.methodLink "GuestStaffLaw" 65 yX10_least ∈ gTs := gTs_t (tb_3 (List.mem_of_getElem? (i := 84) rfl)) rfl
theorem wM_X10_175 : Cond.methodLink "GuestStaff" 175 yX7_leastCost ∈ gTs := gTs_t (tb_3 (List.mem_of_getElem? (i := 88) rfl)) rfl
theorem wC_X10_178 : Cond.constant "GuestStaff" 178 1000000 ∈ gTs := gTs_t (tb_3 (List.mem_of_getElem? (i := 89) rfl)) rfl
theorem wM_L_69 : Cond.methodLink "GuestStaffLaw" 69 yX10_most ∈ gTs := gTs_t (tb_3 (List.mem_of_getElem? (i := 90) rfl)) rfl
theorem wM_L_73 : Cond.methodLink "GuestStaffLaw" 73 yX10_lone ∈ gTs := gTs_t (tb_3 (List.mem_of_getElem? (i := 94) rfl)) rfl
theorem wM_X10_179 : Cond.methodLink "GuestStaff" 179 yX1_isServable ∈ gTs := gTs_t (tb_3 (List.mem_of_getElem? (i := 98) rfl)) rfl
theorem wM_L_77 : Cond.methodLink "GuestStaffLaw" 77 yX10_rings ∈ gTs := gTs_t (tb_3 (List.mem_of_getElem? (i := 102) rfl)) rfl
theorem wM_X10_182 : Cond.methodLink "GuestStaff" 182 yX1_ringOf ∈ gTs := gTs_t (tb_3 (List.mem_of_getElem? (i := 106) rfl)) rfl
theorem wM_L_81 : Cond.methodLink "GuestStaffLaw" 81 yX10_smallest ∈ gTs := gTs_t (tb_3 (List.mem_of_getElem? (i := 110) rfl)) rfl
theorem wM_X10_185 : Cond.methodLink "GuestStaff" 185 yJ6_bitCount_0f7a4 ∈ gTs := gTs_t (tb_3 (List.mem_of_getElem? (i := 114) rfl)) rfl
theorem wM_X10_190 : Cond.methodLink "GuestStaff" 190 yX10_closes ∈ gTs := gTs_t (tb_3 (List.mem_of_getElem? (i := 115) rfl)) rfl
theorem wM_L_85 : Cond.methodLink "GuestStaffLaw" 85 yX10_swap ∈ gTs := gTs_t (tb_3 (List.mem_of_getElem? (i := 119) rfl)) rfl
theorem wM_X10_194 : Cond.methodLink "GuestStaff" 194 yX1_wouldSwap ∈ gTs := gTs_t (tb_3 (List.mem_of_getElem? (i := 123) rfl)) rfl
theorem wM_X1_114 : Cond.methodLink "GuestStaff$House" 114 yX1_wouldRather ∈ gTs := gTs_t (tb_3 (List.mem_of_getElem? (i := 127) rfl)) rfl
theorem wM_L_89 : Cond.methodLink "GuestStaffLaw" 89 yX10_takeIn ∈ gTs := gTs_t (tb_3 (List.mem_of_getElem? (i := 131) rfl)) rfl
theorem wM_L_93 : Cond.methodLink "GuestStaffLaw" 93 yX10_note ∈ gTs := gTs_t (tb_3 (List.mem_of_getElem? (i := 135) rfl)) rfl
theorem wM_X10_204 : Cond.methodLink "GuestStaff" 204 yX3_add ∈ gTs := gTs_t (tb_3 (List.mem_of_getElem? (i := 139) rfl)) rfl
theorem wM_L_98 : Cond.methodLink "GuestStaffLaw" 98 yX10_forget ∈ gTs := gTs_t (tb_3 (List.mem_of_getElem? (i := 143) rfl)) rfl
theorem wM_L_102 : Cond.methodLink "GuestStaffLaw" 102 yX10_wants ∈ gTs := gTs_t (tb_3 (List.mem_of_getElem? (i := 147) rfl)) rfl
theorem wM_X10_208 : Cond.methodLink "GuestStaff" 208 yX1_wantsThatFit ∈ gTs := gTs_t (tb_3 (List.mem_of_getElem? (i := 151) rfl)) rfl
theorem wM_X1_118 : Cond.methodLink "GuestStaff$House" 118 yX3_wantsThatFit ∈ gTs := gTs_t (tb_3 (List.mem_of_getElem? (i := 155) rfl)) rfl
theorem wM_X3_26 : Cond.methodLink "GuestStaff$Notes" 26 yX3_allFit ∈ gTs := gTs_t (tb_3 (List.mem_of_getElem? (i := 159) rfl)) rfl
theorem wM_X3_30 : Cond.methodLink "GuestStaff$Notes" 30 yX4_contentBy ∈ gTs := gTs_t (tb_3 (List.mem_of_getElem? (i := 163) rfl)) rfl
theorem wM_L_106 : Cond.methodLink "GuestStaffLaw" 106 yX10_is ∈ gTs := gTs_t (tb_3 (List.mem_of_getElem? (i := 164) rfl)) rfl
theorem wM_L_110 : Cond.methodLink "GuestStaffLaw" 110 yX10_next ∈ gTs := gTs_t (tb_3 (List.mem_of_getElem? (i := 168) rfl)) rfl
theorem wM_X10_211 : Cond.methodLink "GuestStaff" 211 Lib.Math.max.name ∈ gTs := gTs_t (tb_3 (List.mem_of_getElem? (i := 172) rfl)) rfl
theorem wM_L_114 : Cond.methodLink "GuestStaffLaw" 114 yX10_tips ∈ gTs := gTs_t (tb_3 (List.mem_of_getElem? (i := 175) rfl)) rfl
theorem wM_L_118 : Cond.methodLink "GuestStaffLaw" 118 yX10_moods ∈ gTs := gTs_t (tb_3 (List.mem_of_getElem? (i := 179) rfl)) rfl
theorem wM_X10_216 : Cond.methodLink "GuestStaff" 216 yX1_serversOf ∈ gTs := gTs_t (tb_3 (List.mem_of_getElem? (i := 183) rfl)) rfl
theorem wM_X10_219 : Cond.methodLink "GuestStaff" 219 yX10_oddsOfNone ∈ gTs := gTs_t (tb_3 (List.mem_of_getElem? (i := 187) rfl)) rfl
theorem wM_X10_222 : Cond.methodLink "GuestStaff" 222 yX10_keepFraction ∈ gTs := gTs_t (tb_3 (List.mem_of_getElem? (i := 190) rfl)) rfl
theorem wM_L_122 : Cond.methodLink "GuestStaffLaw" 122 yX10_hours ∈ gTs := gTs_t (tb_3 (List.mem_of_getElem? (i := 194) rfl)) rfl
theorem wC_X10_226 : Cond.constantLong "GuestStaff" 226 1103515245 ∈ gTs := gTs_t (tb_3 (List.mem_of_getElem? (i := 198) rfl)) rfl
theorem wC_X10_228 : Cond.constantLong "GuestStaff" 228 12345 ∈ gTs := gTs_t (tb_3 (List.mem_of_getElem? (i := 199) rfl)) rfl
theorem wC_X10_230 : Cond.constantLong "GuestStaff" 230 2147483648 ∈ gTs := gTs_t (tb_3 (List.mem_of_getElem? (i := 200) rfl)) rfl
theorem wC_X10_232 : Cond.constantLong "GuestStaff" 232 65536 ∈ gTs := gTs_t (tb_3 (List.mem_of_getElem? (i := 201) rfl)) rfl
theorem wC_X10_234 : Cond.constantLong "GuestStaff" 234 8 ∈ gTs := gTs_t (tb_3 (List.mem_of_getElem? (i := 202) rfl)) rfl
theorem wM_L_126 : Cond.methodLink "GuestStaffLaw" 126 yX10_part ∈ gTs := gTs_t (tb_3 (List.mem_of_getElem? (i := 203) rfl)) rfl
theorem wM_L_131 : Cond.methodLink "GuestStaffLaw" 131 yX10_image ∈ gTs := gTs_t (tb_3 (List.mem_of_getElem? (i := 207) rfl)) rfl
theorem wM_L_135 : Cond.methodLink "GuestStaffLaw" 135 yX10_from ∈ gTs := gTs_t (tb_3 (List.mem_of_getElem? (i := 211) rfl)) rfl
theorem wM_L_139 : Cond.methodLink "GuestStaffLaw" 139 yX10_status ∈ gTs := gTs_t (tb_3 (List.mem_of_getElem? (i := 215) rfl)) rfl
theorem wM_L_143 : Cond.methodLink "GuestStaffLaw" 143 yX10_count ∈ gTs := gTs_t (tb_3 (List.mem_of_getElem? (i := 219) rfl)) rfl
theorem wM_X10_236 : Cond.methodLink "GuestStaff" 236 yX10_countOf ∈ gTs := gTs_t (tb_3 (List.mem_of_getElem? (i := 223) rfl)) rfl
theorem wM_X10_250 : Cond.methodLink "GuestStaff" 250 yX1_servedCount ∈ gTs := gTs_t (tb_3 (List.mem_of_getElem? (i := 227) rfl)) rfl
theorem wM_L_147 : Cond.methodLink "GuestStaffLaw" 147 yX10_digest ∈ gTs := gTs_t (tb_3 (List.mem_of_getElem? (i := 231) rfl)) rfl
theorem wC_X10_239 : Cond.constantLong "GuestStaff" 239 1097 ∈ gTs := gTs_t (tb_3 (List.mem_of_getElem? (i := 235) rfl)) rfl
theorem wC_X10_241 : Cond.constantLong "GuestStaff" 241 31 ∈ gTs := gTs_t (tb_3 (List.mem_of_getElem? (i := 236) rfl)) rfl
theorem wM_X10_243 : Cond.methodLink "GuestStaff" 243 yX1_addGuestsTo ∈ gTs := gTs_t (tb_3 (List.mem_of_getElem? (i := 237) rfl)) rfl
theorem wC_X1_122 : Cond.constantLong "GuestStaff$House" 122 31 ∈ gTs := gTs_t (tb_4 (List.mem_of_getElem? (i := 1) rfl)) rfl
theorem wM_X10_247 : Cond.methodLink "GuestStaff" 247 yX3_addTo ∈ gTs := gTs_t (tb_4 (List.mem_of_getElem? (i := 2) rfl)) rfl
theorem wC_X3_36 : Cond.constantLong "GuestStaff$Notes" 36 31 ∈ gTs := gTs_t (tb_4 (List.mem_of_getElem? (i := 6) rfl)) rfl
theorem wM_L_12 : Cond.methodLink "GuestStaffLaw" 12 yX11_init ∈ gTs := gTs_t (tb_4 (List.mem_of_getElem? (i := 9) rfl)) rfl
theorem wM_X11_1 : Cond.methodLink "GuestStaffModel" 1 objectInit ∈ gTs := gTs_t (tb_4 (List.mem_of_getElem? (i := 12) rfl)) rfl
theorem wF_X11_7 : Cond.fieldLink "GuestStaffModel" 7 "GuestStaffModel" "st" "[I" ∈ gTs := gTs_t (tb_4 (List.mem_of_getElem? (i := 13) rfl)) rfl
theorem wF_X11_250 : Cond.fieldLink "GuestStaffModel" 250 "GuestStaffModel" "above" "J" ∈ gTs := gTs_t (tb_4 (List.mem_of_getElem? (i := 14) rfl)) rfl
theorem wF_X11_13 : Cond.fieldLink "GuestStaffModel" 13 "GuestStaffModel" "below" "J" ∈ gTs := gTs_t (tb_4 (List.mem_of_getElem? (i := 15) rfl)) rfl
theorem wF_X11_17 : Cond.fieldLink "GuestStaffModel" 17 "GuestStaffModel" "refused" "[I" ∈ gTs := gTs_t (tb_4 (List.mem_of_getElem? (i := 16) rfl)) rfl
theorem wF_X11_20 : Cond.fieldLink "GuestStaffModel" 20 "GuestStaffModel" "text" "[I" ∈ gTs := gTs_t (tb_4 (List.mem_of_getElem? (i := 17) rfl)) rfl
theorem wF_X11_97 : Cond.fieldLink "GuestStaffModel" 97 "GuestStaffModel" "bytes" "I" ∈ gTs := gTs_t (tb_4 (List.mem_of_getElem? (i := 18) rfl)) rfl
theorem wF_X11_100 : Cond.fieldLink "GuestStaffModel" 100 "GuestStaffModel" "place" "I" ∈ gTs := gTs_t (tb_4 (List.mem_of_getElem? (i := 19) rfl)) rfl
theorem wF_X11_113 : Cond.fieldLink "GuestStaffModel" 113 "GuestStaffModel" "token" "I" ∈ gTs := gTs_t (tb_4 (List.mem_of_getElem? (i := 20) rfl)) rfl
theorem wF_X11_110 : Cond.fieldLink "GuestStaffModel" 110 "GuestStaffModel" "value" "I" ∈ gTs := gTs_t (tb_4 (List.mem_of_getElem? (i := 21) rfl)) rfl
theorem wF_X11_107 : Cond.fieldLink "GuestStaffModel" 107 "GuestStaffModel" "begins" "I" ∈ gTs := gTs_t (tb_4 (List.mem_of_getElem? (i := 22) rfl)) rfl
theorem wF_X11_23 : Cond.fieldLink "GuestStaffModel" 23 "GuestStaffModel" "row" "[I" ∈ gTs := gTs_t (tb_4 (List.mem_of_getElem? (i := 23) rfl)) rfl
theorem wF_X11_127 : Cond.fieldLink "GuestStaffModel" 127 "GuestStaffModel" "services" "I" ∈ gTs := gTs_t (tb_4 (List.mem_of_getElem? (i := 24) rfl)) rfl
theorem wF_X11_134 : Cond.fieldLink "GuestStaffModel" 134 "GuestStaffModel" "toldGuests" "I" ∈ gTs := gTs_t (tb_4 (List.mem_of_getElem? (i := 25) rfl)) rfl
theorem wF_X11_26 : Cond.fieldLink "GuestStaffModel" 26 "GuestStaffModel" "ahead" "[I" ∈ gTs := gTs_t (tb_4 (List.mem_of_getElem? (i := 26) rfl)) rfl
theorem wF_X11_61 : Cond.fieldLink "GuestStaffModel" 61 "GuestStaffModel" "undoMany" "I" ∈ gTs := gTs_t (tb_4 (List.mem_of_getElem? (i := 27) rfl)) rfl
theorem wF_X11_29 : Cond.fieldLink "GuestStaffModel" 29 "GuestStaffModel" "who" "[I" ∈ gTs := gTs_t (tb_4 (List.mem_of_getElem? (i := 28) rfl)) rfl
theorem wF_X11_183 : Cond.fieldLink "GuestStaffModel" 183 "GuestStaffModel" "many" "I" ∈ gTs := gTs_t (tb_4 (List.mem_of_getElem? (i := 29) rfl)) rfl
theorem wF_X11_32 : Cond.fieldLink "GuestStaffModel" 32 "GuestStaffModel" "duties" "[I" ∈ gTs := gTs_t (tb_4 (List.mem_of_getElem? (i := 30) rfl)) rfl
theorem wF_X11_35 : Cond.fieldLink "GuestStaffModel" 35 "GuestStaffModel" "firstRow" "[I" ∈ gTs := gTs_t (tb_4 (List.mem_of_getElem? (i := 31) rfl)) rfl
theorem wF_X11_196 : Cond.fieldLink "GuestStaffModel" 196 "GuestStaffModel" "rowMany" "I" ∈ gTs := gTs_t (tb_4 (List.mem_of_getElem? (i := 32) rfl)) rfl
theorem wF_X11_199 : Cond.fieldLink "GuestStaffModel" 199 "GuestStaffModel" "leastWork" "I" ∈ gTs := gTs_t (tb_4 (List.mem_of_getElem? (i := 33) rfl)) rfl
theorem wF_X11_202 : Cond.fieldLink "GuestStaffModel" 202 "GuestStaffModel" "mostContent" "I" ∈ gTs := gTs_t (tb_4 (List.mem_of_getElem? (i := 34) rfl)) rfl
theorem wF_X11_38 : Cond.fieldLink "GuestStaffModel" 38 "GuestStaffModel" "bestRow" "[I" ∈ gTs := gTs_t (tb_4 (List.mem_of_getElem? (i := 35) rfl)) rfl
theorem wF_X11_41 : Cond.fieldLink "GuestStaffModel" 41 "GuestStaffModel" "aside" "[I" ∈ gTs := gTs_t (tb_4 (List.mem_of_getElem? (i := 36) rfl)) rfl
theorem wF_X11_44 : Cond.fieldLink "GuestStaffModel" 44 "GuestStaffModel" "isKept" "[Z" ∈ gTs := gTs_t (tb_4 (List.mem_of_getElem? (i := 37) rfl)) rfl
theorem wF_X11_48 : Cond.fieldLink "GuestStaffModel" 48 "GuestStaffModel" "kept" "[I" ∈ gTs := gTs_t (tb_4 (List.mem_of_getElem? (i := 38) rfl)) rfl
theorem wF_X11_51 : Cond.fieldLink "GuestStaffModel" 51 "GuestStaffModel" "keptAhead" "[I" ∈ gTs := gTs_t (tb_4 (List.mem_of_getElem? (i := 39) rfl)) rfl
theorem wF_X11_54 : Cond.fieldLink "GuestStaffModel" 54 "GuestStaffModel" "keptMany" "[I" ∈ gTs := gTs_t (tb_4 (List.mem_of_getElem? (i := 40) rfl)) rfl
theorem wU_X11 : Cond.superclass "GuestStaffModel" "java/lang/Object" ∈ gTs := gTs_t (tb_4 (List.mem_of_getElem? (i := 97) rfl)) rfl
theorem wM_L_17 : Cond.methodLink "GuestStaffLaw" 17 yX11_house ∈ gTs := gTs_t (tb_4 (List.mem_of_getElem? (i := 98) rfl)) rfl
theorem wM_X11_65 : Cond.methodLink "GuestStaffModel" 65 yX11_anew ∈ gTs := gTs_t (tb_4 (List.mem_of_getElem? (i := 102) rfl)) rfl
theorem wM_L_22 : Cond.methodLink "GuestStaffLaw" 22 yX11_guest ∈ gTs := gTs_t (tb_4 (List.mem_of_getElem? (i := 106) rfl)) rfl
theorem wC_X11_68 : Cond.constantLong "GuestStaffModel" 68 5 ∈ gTs := gTs_t (tb_4 (List.mem_of_getElem? (i := 110) rfl)) rfl
theorem wM_X11_57 : Cond.methodLink "GuestStaffModel" 57 yX11_in ∈ gTs := gTs_t (tb_4 (List.mem_of_getElem? (i := 111) rfl)) rfl
theorem wC_X11_70 : Cond.constantLong "GuestStaffModel" 70 7 ∈ gTs := gTs_t (tb_4 (List.mem_of_getElem? (i := 114) rfl)) rfl
theorem wC_X11_72 : Cond.constantLong "GuestStaffModel" 72 255 ∈ gTs := gTs_t (tb_4 (List.mem_of_getElem? (i := 115) rfl)) rfl
theorem wM_X11_74 : Cond.methodLink "GuestStaffModel" 74 yX11_bad ∈ gTs := gTs_t (tb_4 (List.mem_of_getElem? (i := 116) rfl)) rfl
theorem wM_X11_78 : Cond.methodLink "GuestStaffModel" 78 yX11_full ∈ gTs := gTs_t (tb_4 (List.mem_of_getElem? (i := 120) rfl)) rfl
theorem wM_X11_81 : Cond.methodLink "GuestStaffModel" 81 yX11_add ∈ gTs := gTs_t (tb_4 (List.mem_of_getElem? (i := 124) rfl)) rfl
theorem wM_L_27 : Cond.methodLink "GuestStaffLaw" 27 yX11_duty ∈ gTs := gTs_t (tb_4 (List.mem_of_getElem? (i := 128) rfl)) rfl
theorem wM_X11_85 : Cond.methodLink "GuestStaffModel" 85 yX11_isGuest ∈ gTs := gTs_t (tb_4 (List.mem_of_getElem? (i := 132) rfl)) rfl
theorem wM_X11_89 : Cond.methodLink "GuestStaffModel" 89 yX11_badFar ∈ gTs := gTs_t (tb_4 (List.mem_of_getElem? (i := 136) rfl)) rfl
theorem wM_X11_92 : Cond.methodLink "GuestStaffModel" 92 yX11_noteStep ∈ gTs := gTs_t (tb_4 (List.mem_of_getElem? (i := 140) rfl)) rfl
theorem wM_L_32 : Cond.methodLink "GuestStaffLaw" 32 yX11_type ∈ gTs := gTs_t (tb_4 (List.mem_of_getElem? (i := 144) rfl)) rfl
theorem wC_X11_95 : Cond.constantLong "GuestStaffModel" 95 127 ∈ gTs := gTs_t (tb_4 (List.mem_of_getElem? (i := 148) rfl)) rfl
theorem wM_L_36 : Cond.methodLink "GuestStaffLaw" 36 yX11_clear ∈ gTs := gTs_t (tb_4 (List.mem_of_getElem? (i := 149) rfl)) rfl
theorem wM_L_40 : Cond.methodLink "GuestStaffLaw" 40 yX11_read ∈ gTs := gTs_t (tb_4 (List.mem_of_getElem? (i := 153) rfl)) rfl
theorem wM_X11_149 : Cond.methodLink "GuestStaffModel" 149 yX11_readText ∈ gTs := gTs_t (tb_4 (List.mem_of_getElem? (i := 157) rfl)) rfl
theorem wM_X11_124 : Cond.methodLink "GuestStaffModel" 124 yX11_nextToken ∈ gTs := gTs_t (tb_4 (List.mem_of_getElem? (i := 161) rfl)) rfl
theorem wM_X11_103 : Cond.methodLink "GuestStaffModel" 103 yX11_byteAt ∈ gTs := gTs_t (tb_4 (List.mem_of_getElem? (i := 165) rfl)) rfl
theorem wC_X11_116 : Cond.constantLong "GuestStaffModel" 116 97 ∈ gTs := gTs_t (tb_4 (List.mem_of_getElem? (i := 169) rfl)) rfl
theorem wC_X11_118 : Cond.constantLong "GuestStaffModel" 118 122 ∈ gTs := gTs_t (tb_4 (List.mem_of_getElem? (i := 170) rfl)) rfl
theorem wC_X11_120 : Cond.constantLong "GuestStaffModel" 120 48 ∈ gTs := gTs_t (tb_4 (List.mem_of_getElem? (i := 171) rfl)) rfl
theorem wC_X11_122 : Cond.constantLong "GuestStaffModel" 122 57 ∈ gTs := gTs_t (tb_4 (List.mem_of_getElem? (i := 172) rfl)) rfl
theorem wM_X11_145 : Cond.methodLink "GuestStaffModel" 145 yX11_readItem ∈ gTs := gTs_t (tb_4 (List.mem_of_getElem? (i := 173) rfl)) rfl
theorem wM_X11_130 : Cond.methodLink "GuestStaffModel" 130 yX11_isWord ∈ gTs := gTs_t (tb_4 (List.mem_of_getElem? (i := 177) rfl)) rfl
theorem wM_X11_137 : Cond.methodLink "GuestStaffModel" 137 yX11_reads ∈ gTs := gTs_t (tb_4 (List.mem_of_getElem? (i := 181) rfl)) rfl
theorem wM_X11_141 : Cond.methodLink "GuestStaffModel" 141 yX11_readServices ∈ gTs := gTs_t (tb_4 (List.mem_of_getElem? (i := 185) rfl)) rfl
theorem wM_L_44 : Cond.methodLink "GuestStaffLaw" 44 yX11_hour ∈ gTs := gTs_t (tb_4 (List.mem_of_getElem? (i := 189) rfl)) rfl
theorem wC_X11_170 : Cond.constantLong "GuestStaffModel" 170 60 ∈ gTs := gTs_t (tb_4 (List.mem_of_getElem? (i := 193) rfl)) rfl
theorem wM_X11_172 : Cond.methodLink "GuestStaffModel" 172 yX11_oneHour ∈ gTs := gTs_t (tb_4 (List.mem_of_getElem? (i := 194) rfl)) rfl
theorem wM_X11_163 : Cond.methodLink "GuestStaffModel" 163 yX11_serverOf ∈ gTs := gTs_t (tb_4 (List.mem_of_getElem? (i := 198) rfl)) rfl
theorem wM_X11_156 : Cond.methodLink "GuestStaffModel" 156 yX11_canServe ∈ gTs := gTs_t (tb_4 (List.mem_of_getElem? (i := 202) rfl)) rfl
theorem wM_X11_153 : Cond.methodLink "GuestStaffModel" 153 yX11_has ∈ gTs := gTs_t (tb_4 (List.mem_of_getElem? (i := 206) rfl)) rfl
theorem wM_X11_166 : Cond.methodLink "GuestStaffModel" 166 yX11_contentOf ∈ gTs := gTs_t (tb_4 (List.mem_of_getElem? (i := 209) rfl)) rfl
theorem wM_X11_159 : Cond.methodLink "GuestStaffModel" 159 yX11_contentBy ∈ gTs := gTs_t (tb_4 (List.mem_of_getElem? (i := 213) rfl)) rfl
theorem wM_L_48 : Cond.methodLink "GuestStaffLaw" 48 yX11_undo ∈ gTs := gTs_t (tb_4 (List.mem_of_getElem? (i := 216) rfl)) rfl
theorem wM_X11_175 : Cond.methodLink "GuestStaffModel" 175 yX11_no ∈ gTs := gTs_t (tb_4 (List.mem_of_getElem? (i := 220) rfl)) rfl
theorem wM_L_52 : Cond.methodLink "GuestStaffLaw" 52 yX11_of ∈ gTs := gTs_t (tb_4 (List.mem_of_getElem? (i := 224) rfl)) rfl
theorem wC_X11_178 : Cond.constantLong "GuestStaffModel" 178 6 ∈ gTs := gTs_t (tb_4 (List.mem_of_getElem? (i := 228) rfl)) rfl
theorem wM_L_56 : Cond.methodLink "GuestStaffLaw" 56 yX11_can ∈ gTs := gTs_t (tb_4 (List.mem_of_getElem? (i := 229) rfl)) rfl
theorem wM_L_60 : Cond.methodLink "GuestStaffLaw" 60 yX11_work ∈ gTs := gTs_t (tb_4 (List.mem_of_getElem? (i := 233) rfl)) rfl
theorem wM_X11_180 : Cond.methodLink "GuestStaffModel" 180 yX11_workBy ∈ gTs := gTs_t (tb_4 (List.mem_of_getElem? (i := 237) rfl)) rfl
theorem wM_L_64 : Cond.methodLink "GuestStaffLaw" 64 yX11_all ∈ gTs := gTs_t (tb_5 (List.mem_of_getElem? (i := 1) rfl)) rfl
theorem wM_X11_214 : Cond.methodLink "GuestStaffModel" 214 yX11_isOne ∈ gTs := gTs_t (tb_5 (List.mem_of_getElem? (i := 5) rfl)) rfl
theorem wM_X11_217 : Cond.methodLink "GuestStaffModel" 217 yX11_findRows ∈ gTs := gTs_t (tb_5 (List.mem_of_getElem? (i := 9) rfl)) rfl
theorem wM_X11_189 : Cond.methodLink "GuestStaffModel" 189 yX11_everybody ∈ gTs := gTs_t (tb_5 (List.mem_of_getElem? (i := 13) rfl)) rfl
theorem wM_X11_192 : Cond.methodLink "GuestStaffModel" 192 yX11_takeSet ∈ gTs := gTs_t (tb_5 (List.mem_of_getElem? (i := 17) rfl)) rfl
theorem wM_X11_186 : Cond.methodLink "GuestStaffModel" 186 yX11_factorial ∈ gTs := gTs_t (tb_5 (List.mem_of_getElem? (i := 21) rfl)) rfl
theorem wM_X11_205 : Cond.methodLink "GuestStaffModel" 205 yX11_isRow ∈ gTs := gTs_t (tb_5 (List.mem_of_getElem? (i := 24) rfl)) rfl
theorem wM_X11_208 : Cond.methodLink "GuestStaffModel" 208 yX11_rowWork ∈ gTs := gTs_t (tb_5 (List.mem_of_getElem? (i := 28) rfl)) rfl
theorem wM_X11_211 : Cond.methodLink "GuestStaffModel" 211 yX11_rowContent ∈ gTs := gTs_t (tb_5 (List.mem_of_getElem? (i := 32) rfl)) rfl
theorem wM_L_68 : Cond.methodLink "GuestStaffLaw" 68 yX11_least ∈ gTs := gTs_t (tb_5 (List.mem_of_getElem? (i := 36) rfl)) rfl
theorem wM_L_72 : Cond.methodLink "GuestStaffLaw" 72 yX11_most ∈ gTs := gTs_t (tb_5 (List.mem_of_getElem? (i := 40) rfl)) rfl
theorem wM_L_76 : Cond.methodLink "GuestStaffLaw" 76 yX11_lone ∈ gTs := gTs_t (tb_5 (List.mem_of_getElem? (i := 44) rfl)) rfl
theorem wM_L_80 : Cond.methodLink "GuestStaffLaw" 80 yX11_rings ∈ gTs := gTs_t (tb_5 (List.mem_of_getElem? (i := 48) rfl)) rfl
theorem wM_X11_220 : Cond.methodLink "GuestStaffModel" 220 yX11_ringOf ∈ gTs := gTs_t (tb_5 (List.mem_of_getElem? (i := 52) rfl)) rfl
theorem wM_L_84 : Cond.methodLink "GuestStaffLaw" 84 yX11_smallest ∈ gTs := gTs_t (tb_5 (List.mem_of_getElem? (i := 56) rfl)) rfl
theorem wM_X11_223 : Cond.methodLink "GuestStaffModel" 223 yX11_ones ∈ gTs := gTs_t (tb_5 (List.mem_of_getElem? (i := 60) rfl)) rfl
theorem wM_X11_226 : Cond.methodLink "GuestStaffModel" 226 yX11_closes ∈ gTs := gTs_t (tb_5 (List.mem_of_getElem? (i := 63) rfl)) rfl
theorem wM_L_88 : Cond.methodLink "GuestStaffLaw" 88 yX11_swap ∈ gTs := gTs_t (tb_5 (List.mem_of_getElem? (i := 67) rfl)) rfl
theorem wM_X11_229 : Cond.methodLink "GuestStaffModel" 229 yX11_gains ∈ gTs := gTs_t (tb_5 (List.mem_of_getElem? (i := 71) rfl)) rfl
theorem wM_L_92 : Cond.methodLink "GuestStaffLaw" 92 yX11_takeIn ∈ gTs := gTs_t (tb_5 (List.mem_of_getElem? (i := 75) rfl)) rfl
theorem wM_L_97 : Cond.methodLink "GuestStaffLaw" 97 yX11_note ∈ gTs := gTs_t (tb_5 (List.mem_of_getElem? (i := 79) rfl)) rfl
theorem wC_X11_232 : Cond.constantLong "GuestStaffModel" 232 99 ∈ gTs := gTs_t (tb_5 (List.mem_of_getElem? (i := 83) rfl)) rfl
theorem wC_X11_234 : Cond.constantLong "GuestStaffModel" 234 30 ∈ gTs := gTs_t (tb_5 (List.mem_of_getElem? (i := 84) rfl)) rfl
theorem wM_L_101 : Cond.methodLink "GuestStaffLaw" 101 yX11_forget ∈ gTs := gTs_t (tb_5 (List.mem_of_getElem? (i := 85) rfl)) rfl
theorem wM_L_105 : Cond.methodLink "GuestStaffLaw" 105 yX11_wants ∈ gTs := gTs_t (tb_5 (List.mem_of_getElem? (i := 89) rfl)) rfl
theorem wM_X11_236 : Cond.methodLink "GuestStaffModel" 236 yX11_wantsBy ∈ gTs := gTs_t (tb_5 (List.mem_of_getElem? (i := 93) rfl)) rfl
theorem wM_L_109 : Cond.methodLink "GuestStaffLaw" 109 yX11_is ∈ gTs := gTs_t (tb_5 (List.mem_of_getElem? (i := 97) rfl)) rfl
theorem wM_L_113 : Cond.methodLink "GuestStaffLaw" 113 yX11_next ∈ gTs := gTs_t (tb_5 (List.mem_of_getElem? (i := 101) rfl)) rfl
theorem wM_L_117 : Cond.methodLink "GuestStaffLaw" 117 yX11_tips ∈ gTs := gTs_t (tb_5 (List.mem_of_getElem? (i := 105) rfl)) rfl
theorem wM_X11_239 : Cond.methodLink "GuestStaffModel" 239 yX11_putAside ∈ gTs := gTs_t (tb_5 (List.mem_of_getElem? (i := 109) rfl)) rfl
theorem wM_X11_242 : Cond.methodLink "GuestStaffModel" 242 yX11_takeBack ∈ gTs := gTs_t (tb_5 (List.mem_of_getElem? (i := 113) rfl)) rfl
theorem wM_L_121 : Cond.methodLink "GuestStaffLaw" 121 yX11_moods ∈ gTs := gTs_t (tb_5 (List.mem_of_getElem? (i := 117) rfl)) rfl
theorem wC_X11_245 : Cond.constantLong "GuestStaffModel" 245 10 ∈ gTs := gTs_t (tb_5 (List.mem_of_getElem? (i := 121) rfl)) rfl
theorem wM_X11_247 : Cond.methodLink "GuestStaffModel" 247 yX11_servedMany ∈ gTs := gTs_t (tb_5 (List.mem_of_getElem? (i := 122) rfl)) rfl
theorem wM_L_125 : Cond.methodLink "GuestStaffLaw" 125 yX11_hours ∈ gTs := gTs_t (tb_5 (List.mem_of_getElem? (i := 126) rfl)) rfl
theorem wC_X11_253 : Cond.constantLong "GuestStaffModel" 253 999999 ∈ gTs := gTs_t (tb_5 (List.mem_of_getElem? (i := 130) rfl)) rfl
theorem wC_X11_255 : Cond.constantLong "GuestStaffModel" 255 1103515245 ∈ gTs := gTs_t (tb_5 (List.mem_of_getElem? (i := 131) rfl)) rfl
theorem wC_X11_257 : Cond.constantLong "GuestStaffModel" 257 12345 ∈ gTs := gTs_t (tb_5 (List.mem_of_getElem? (i := 132) rfl)) rfl
theorem wC_X11_259 : Cond.constantLong "GuestStaffModel" 259 2147483648 ∈ gTs := gTs_t (tb_5 (List.mem_of_getElem? (i := 133) rfl)) rfl
theorem wC_X11_261 : Cond.constantLong "GuestStaffModel" 261 65536 ∈ gTs := gTs_t (tb_5 (List.mem_of_getElem? (i := 134) rfl)) rfl
theorem wC_X11_263 : Cond.constantLong "GuestStaffModel" 263 8 ∈ gTs := gTs_t (tb_5 (List.mem_of_getElem? (i := 135) rfl)) rfl
theorem wM_L_130 : Cond.methodLink "GuestStaffLaw" 130 yX11_part ∈ gTs := gTs_t (tb_5 (List.mem_of_getElem? (i := 136) rfl)) rfl
theorem wM_L_134 : Cond.methodLink "GuestStaffLaw" 134 yX11_image ∈ gTs := gTs_t (tb_5 (List.mem_of_getElem? (i := 140) rfl)) rfl
theorem wM_L_138 : Cond.methodLink "GuestStaffLaw" 138 yX11_from ∈ gTs := gTs_t (tb_5 (List.mem_of_getElem? (i := 144) rfl)) rfl
theorem wM_L_142 : Cond.methodLink "GuestStaffLaw" 142 yX11_status ∈ gTs := gTs_t (tb_5 (List.mem_of_getElem? (i := 148) rfl)) rfl
theorem wC_X11_265 : Cond.constantLong "GuestStaffModel" 265 2 ∈ gTs := gTs_t (tb_5 (List.mem_of_getElem? (i := 152) rfl)) rfl
theorem wM_L_146 : Cond.methodLink "GuestStaffLaw" 146 yX11_count ∈ gTs := gTs_t (tb_5 (List.mem_of_getElem? (i := 153) rfl)) rfl
theorem wM_X11_267 : Cond.methodLink "GuestStaffModel" 267 yX11_countOf ∈ gTs := gTs_t (tb_5 (List.mem_of_getElem? (i := 157) rfl)) rfl
theorem wM_L_151 : Cond.methodLink "GuestStaffLaw" 151 yX11_digest ∈ gTs := gTs_t (tb_5 (List.mem_of_getElem? (i := 161) rfl)) rfl
theorem wC_X11_270 : Cond.constantLong "GuestStaffModel" 270 1097 ∈ gTs := gTs_t (tb_5 (List.mem_of_getElem? (i := 165) rfl)) rfl
theorem wC_X11_272 : Cond.constantLong "GuestStaffModel" 272 31 ∈ gTs := gTs_t (tb_5 (List.mem_of_getElem? (i := 166) rfl)) rfl
theorem wA_X6_contentBy : Cond.sameMethod "GuestStaff$Quiet" "GuestStaff$Quiet" "contentBy" "(II)I" ∈ gTs := gTs_t (tb_5 (List.mem_of_getElem? (i := 167) rfl)) rfl
theorem wA_X0_contentBy : Cond.sameMethod "GuestStaff$Banker" "GuestStaff$Banker" "contentBy" "(II)I" ∈ gTs := gTs_t (tb_5 (List.mem_of_getElem? (i := 168) rfl)) rfl
theorem wA_X0_workOn : Cond.sameMethod "GuestStaff$Banker" "GuestStaff$Banker" "workOn" "(I)I" ∈ gTs := gTs_t (tb_5 (List.mem_of_getElem? (i := 169) rfl)) rfl
theorem wF_J0_9 : Cond.fieldLink "java/lang/String" 9 "java/lang/String" "value" "[B" ∈ gTs := gTs_t (tb_5 (List.mem_of_getElem? (i := 175) rfl)) rfl
theorem wF_J0_15 : Cond.fieldLink "java/lang/String" 15 "java/lang/String" "coder" "B" ∈ gTs := gTs_t (tb_5 (List.mem_of_getElem? (i := 176) rfl)) rfl
theorem wL_L_7 : Cond.classLink "GuestStaffLaw" 7 "GuestStaff" ∈ gTs := gTs_t (tb_1 (List.mem_of_getElem? (i := 20) rfl)) rfl
theorem wT_X10 : Cond.instantiable "GuestStaff" 9 ∈ gTs := gTs_t (tb_1 (List.mem_of_getElem? (i := 21) rfl)) rfl
theorem wL_X10_13 : Cond.classLink "GuestStaff" 13 "GuestStaff$Text" ∈ gTs := gTs_t (tb_1 (List.mem_of_getElem? (i := 28) rfl)) rfl
theorem wT_X9 : Cond.instantiable "GuestStaff$Text" 6 ∈ gTs := gTs_t (tb_1 (List.mem_of_getElem? (i := 29) rfl)) rfl
theorem wR_boolean : Cond.arrayClass .boolean ∈ gTs := gTs_t (tb_1 (List.mem_of_getElem? (i := 55) rfl)) rfl
theorem wR_int : Cond.arrayClass .int ∈ gTs := gTs_t (tb_1 (List.mem_of_getElem? (i := 56) rfl)) rfl
theorem wL_X10_20 : Cond.classLink "GuestStaff" 20 "GuestStaff$Rows" ∈ gTs := gTs_t (tb_1 (List.mem_of_getElem? (i := 57) rfl)) rfl
theorem wT_X7 : Cond.instantiable "GuestStaff$Rows" 5 ∈ gTs := gTs_t (tb_1 (List.mem_of_getElem? (i := 58) rfl)) rfl
theorem wL_X7_18 : Cond.classLink "GuestStaff$Rows" 18 "[[I" ∈ gTs := gTs_t (tb_1 (List.mem_of_getElem? (i := 63) rfl)) rfl
theorem wL_X10_38 : Cond.classLink "GuestStaff" 38 "GuestStaff$Plain" ∈ gTs := gTs_t (tb_1 (List.mem_of_getElem? (i := 81) rfl)) rfl
theorem wT_X4 : Cond.instantiable "GuestStaff$Plain" 0 ∈ gTs := gTs_t (tb_1 (List.mem_of_getElem? (i := 83) rfl)) rfl
theorem wL_X10_41 : Cond.classLink "GuestStaff" 41 "GuestStaff$Quiet" ∈ gTs := gTs_t (tb_1 (List.mem_of_getElem? (i := 89) rfl)) rfl
theorem wT_X6 : Cond.instantiable "GuestStaff$Quiet" 0 ∈ gTs := gTs_t (tb_1 (List.mem_of_getElem? (i := 90) rfl)) rfl
theorem wL_X10_44 : Cond.classLink "GuestStaff" 44 "GuestStaff$Banker" ∈ gTs := gTs_t (tb_1 (List.mem_of_getElem? (i := 96) rfl)) rfl
theorem wT_X0 : Cond.instantiable "GuestStaff$Banker" 0 ∈ gTs := gTs_t (tb_1 (List.mem_of_getElem? (i := 97) rfl)) rfl
theorem wL_X10_47 : Cond.classLink "GuestStaff" 47 "GuestStaff$Shouter" ∈ gTs := gTs_t (tb_1 (List.mem_of_getElem? (i := 103) rfl)) rfl
theorem wT_X8 : Cond.instantiable "GuestStaff$Shouter" 0 ∈ gTs := gTs_t (tb_1 (List.mem_of_getElem? (i := 104) rfl)) rfl
theorem wL_X10_50 : Cond.classLink "GuestStaff" 50 "GuestStaff$Late" ∈ gTs := gTs_t (tb_1 (List.mem_of_getElem? (i := 110) rfl)) rfl
theorem wT_X2 : Cond.instantiable "GuestStaff$Late" 0 ∈ gTs := gTs_t (tb_1 (List.mem_of_getElem? (i := 111) rfl)) rfl
theorem wL_X10_53 : Cond.classLink "GuestStaff" 53 "GuestStaff$Polisher" ∈ gTs := gTs_t (tb_1 (List.mem_of_getElem? (i := 117) rfl)) rfl
theorem wT_X5 : Cond.instantiable "GuestStaff$Polisher" 0 ∈ gTs := gTs_t (tb_1 (List.mem_of_getElem? (i := 118) rfl)) rfl
theorem wL_X10_56 : Cond.classLink "GuestStaff" 56 "GuestStaff$House" ∈ gTs := gTs_t (tb_1 (List.mem_of_getElem? (i := 124) rfl)) rfl
theorem wT_X1 : Cond.instantiable "GuestStaff$House" 16 ∈ gTs := gTs_t (tb_1 (List.mem_of_getElem? (i := 125) rfl)) rfl
theorem wL_X1_27 : Cond.classLink "GuestStaff$House" 27 "GuestStaff$Notes" ∈ gTs := gTs_t (tb_1 (List.mem_of_getElem? (i := 130) rfl)) rfl
theorem wT_X3 : Cond.instantiable "GuestStaff$Notes" 2 ∈ gTs := gTs_t (tb_1 (List.mem_of_getElem? (i := 131) rfl)) rfl
theorem wL_X3_11 : Cond.classLink "GuestStaff$Notes" 11 "[[I" ∈ gTs := gTs_t (tb_1 (List.mem_of_getElem? (i := 136) rfl)) rfl
theorem wL_X1_34 : Cond.classLink "GuestStaff$House" 34 "[[I" ∈ gTs := gTs_t (tb_1 (List.mem_of_getElem? (i := 146) rfl)) rfl
theorem wL_L_10 : Cond.classLink "GuestStaffLaw" 10 "GuestStaffModel" ∈ gTs := gTs_t (tb_4 (List.mem_of_getElem? (i := 7) rfl)) rfl
theorem wT_X11 : Cond.instantiable "GuestStaffModel" 28 ∈ gTs := gTs_t (tb_4 (List.mem_of_getElem? (i := 8) rfl)) rfl
theorem wobj : Cond.instanceMethod objectInit ∈ gTs ∧ Cond.code objectInit ⟨#[0xb1]⟩ 1 none ∈ gTs := ⟨gTs_t (tb_1 (List.mem_of_getElem? (i := 26) rfl)) rfl, gTs_t (tb_1 (List.mem_of_getElem? (i := 27) rfl)) rfl⟩
theorem mt_X10_init : gMth yX10_init cX10_init 2 none 0 := ⟨gTs_t (tb_1 (List.mem_of_getElem? (i := 24) rfl)) rfl, wI_X10, by decide +kernel, by decide +kernel, by decide +kernel⟩
theorem mi_X10_init : Cond.instanceMethod yX10_init ∈ gTs := gTs_t (tb_1 (List.mem_of_getElem? (i := 23) rfl)) rfl
theorem mt_X9_init : gMth yX9_init cX9_init 1 none 0 := ⟨gTs_t (tb_1 (List.mem_of_getElem? (i := 32) rfl)) rfl, wI_X9, by decide +kernel, by decide +kernel, by decide +kernel⟩
theorem mi_X9_init : Cond.instanceMethod yX9_init ∈ gTs := gTs_t (tb_1 (List.mem_of_getElem? (i := 31) rfl)) rfl
theorem mt_X7_init : gMth yX7_init cX7_init 1 none 0 := ⟨gTs_t (tb_1 (List.mem_of_getElem? (i := 61) rfl)) rfl, wI_X7, by decide +kernel, by decide +kernel, by decide +kernel⟩
theorem mi_X7_init : Cond.instanceMethod yX7_init ∈ gTs := gTs_t (tb_1 (List.mem_of_getElem? (i := 60) rfl)) rfl
theorem mt_X4_init : gMth yX4_init cX4_init 1 none 0 := ⟨gTs_t (tb_1 (List.mem_of_getElem? (i := 86) rfl)) rfl, wI_X4, by decide +kernel, by decide +kernel, by decide +kernel⟩
theorem mi_X4_init : Cond.instanceMethod yX4_init ∈ gTs := gTs_t (tb_1 (List.mem_of_getElem? (i := 85) rfl)) rfl
theorem mt_X6_init : gMth yX6_init cX6_init 1 none 0 := ⟨gTs_t (tb_1 (List.mem_of_getElem? (i := 93) rfl)) rfl, wI_X6, by decide +kernel, by decide +kernel, by decide +kernel⟩
theorem mi_X6_init : Cond.instanceMethod yX6_init ∈ gTs := gTs_t (tb_1 (List.mem_of_getElem? (i := 92) rfl)) rfl
theorem mt_X0_init : gMth yX0_init cX0_init 1 none 0 := ⟨gTs_t (tb_1 (List.mem_of_getElem? (i := 100) rfl)) rfl, wI_X0, by decide +kernel, by decide +kernel, by decide +kernel⟩
theorem mi_X0_init : Cond.instanceMethod yX0_init ∈ gTs := gTs_t (tb_1 (List.mem_of_getElem? (i := 99) rfl)) rfl
theorem mt_X8_init : gMth yX8_init cX8_init 1 none 0 := ⟨gTs_t (tb_1 (List.mem_of_getElem? (i := 107) rfl)) rfl, wI_X8, by decide +kernel, by decide +kernel, by decide +kernel⟩
theorem mi_X8_init : Cond.instanceMethod yX8_init ∈ gTs := gTs_t (tb_1 (List.mem_of_getElem? (i := 106) rfl)) rfl
theorem mt_X2_init : gMth yX2_init cX2_init 1 none 0 := ⟨gTs_t (tb_1 (List.mem_of_getElem? (i := 114) rfl)) rfl, wI_X2, by decide +kernel, by decide +kernel, by decide +kernel⟩
theorem mi_X2_init : Cond.instanceMethod yX2_init ∈ gTs := gTs_t (tb_1 (List.mem_of_getElem? (i := 113) rfl)) rfl
theorem mt_X5_init : gMth yX5_init cX5_init 1 none 0 := ⟨gTs_t (tb_1 (List.mem_of_getElem? (i := 121) rfl)) rfl, wI_X5, by decide +kernel, by decide +kernel, by decide +kernel⟩
theorem mi_X5_init : Cond.instanceMethod yX5_init ∈ gTs := gTs_t (tb_1 (List.mem_of_getElem? (i := 120) rfl)) rfl
theorem mt_X1_init : gMth yX1_init cX1_init 2 none 1 := ⟨gTs_t (tb_1 (List.mem_of_getElem? (i := 128) rfl)) rfl, wI_X1, by decide +kernel, by decide +kernel, by decide +kernel⟩
theorem mi_X1_init : Cond.instanceMethod yX1_init ∈ gTs := gTs_t (tb_1 (List.mem_of_getElem? (i := 127) rfl)) rfl
theorem mt_X3_init : gMth yX3_init cX3_init 1 none 0 := ⟨gTs_t (tb_1 (List.mem_of_getElem? (i := 134) rfl)) rfl, wI_X3, by decide +kernel, by decide +kernel, by decide +kernel⟩
theorem mi_X3_init : Cond.instanceMethod yX3_init ∈ gTs := gTs_t (tb_1 (List.mem_of_getElem? (i := 133) rfl)) rfl
theorem mt_X10_house : gMth yX10_house cX10_house 2 (some .int) 0 := ⟨gTs_t (tb_2 (List.mem_of_getElem? (i := 2) rfl)) rfl, wI_X10, by decide +kernel, by decide +kernel, by decide +kernel⟩
theorem mi_X10_house : Cond.instanceMethod yX10_house ∈ gTs := gTs_t (tb_2 (List.mem_of_getElem? (i := 0) rfl)) rfl
theorem mm_X10_house : gMi yX10_house cX10_house 2 (some .int) 0 := ⟨mt_X10_house, mi_X10_house, gTs_t (tb_2 (List.mem_of_getElem? (i := 1) rfl)) rfl⟩
theorem mt_X1_empty : gMth yX1_empty cX1_empty 1 none 0 := ⟨gTs_t (tb_2 (List.mem_of_getElem? (i := 6) rfl)) rfl, wI_X1, by decide +kernel, by decide +kernel, by decide +kernel⟩
theorem mi_X1_empty : Cond.instanceMethod yX1_empty ∈ gTs := gTs_t (tb_2 (List.mem_of_getElem? (i := 4) rfl)) rfl
theorem mm_X1_empty : gMi yX1_empty cX1_empty 1 none 0 := ⟨mt_X1_empty, mi_X1_empty, gTs_t (tb_2 (List.mem_of_getElem? (i := 5) rfl)) rfl⟩
theorem mt_X10_guest : gMth yX10_guest cX10_guest 4 (some .int) 3 := ⟨gTs_t (tb_2 (List.mem_of_getElem? (i := 10) rfl)) rfl, wI_X10, by decide +kernel, by decide +kernel, by decide +kernel⟩
theorem mi_X10_guest : Cond.instanceMethod yX10_guest ∈ gTs := gTs_t (tb_2 (List.mem_of_getElem? (i := 8) rfl)) rfl
theorem mm_X10_guest : gMi yX10_guest cX10_guest 4 (some .int) 3 := ⟨mt_X10_guest, mi_X10_guest, gTs_t (tb_2 (List.mem_of_getElem? (i := 9) rfl)) rfl⟩
theorem mt_X10_isBelow : gMth yX10_isBelow cX10_isBelow 2 (some .boolean) 2 := ⟨gTs_t (tb_2 (List.mem_of_getElem? (i := 13) rfl)) rfl, wI_X10, by decide +kernel, by decide +kernel, by decide +kernel⟩
theorem mm_X10_isBelow : gMs yX10_isBelow cX10_isBelow 2 (some .boolean) 2 := ⟨mt_X10_isBelow, gTs_t (tb_2 (List.mem_of_getElem? (i := 12) rfl)) rfl⟩
theorem mt_X10_refuseBad : gMth yX10_refuseBad cX10_refuseBad 2 (some .int) 1 := ⟨gTs_t (tb_2 (List.mem_of_getElem? (i := 17) rfl)) rfl, wI_X10, by decide +kernel, by decide +kernel, by decide +kernel⟩
theorem mi_X10_refuseBad : Cond.instanceMethod yX10_refuseBad ∈ gTs := gTs_t (tb_2 (List.mem_of_getElem? (i := 16) rfl)) rfl
theorem mm_X10_refuseBad : gMi yX10_refuseBad cX10_refuseBad 2 (some .int) 1 := ⟨mt_X10_refuseBad, mi_X10_refuseBad, gTs_p (q := (yX10_refuseBad, 9)) (List.mem_of_getElem? (i := 0) (by decide +kernel)) (by decide +kernel)⟩
theorem mt_X10_refuseFull : gMth yX10_refuseFull cX10_refuseFull 1 (some .int) 0 := ⟨gTs_t (tb_2 (List.mem_of_getElem? (i := 21) rfl)) rfl, wI_X10, by decide +kernel, by decide +kernel, by decide +kernel⟩
theorem mi_X10_refuseFull : Cond.instanceMethod yX10_refuseFull ∈ gTs := gTs_t (tb_2 (List.mem_of_getElem? (i := 20) rfl)) rfl
theorem mm_X10_refuseFull : gMi yX10_refuseFull cX10_refuseFull 1 (some .int) 0 := ⟨mt_X10_refuseFull, mi_X10_refuseFull, gTs_p (q := (yX10_refuseFull, 9)) (List.mem_of_getElem? (i := 1) (by decide +kernel)) (by decide +kernel)⟩
theorem mt_X1_admit : gMth yX1_admit cX1_admit 5 (some .int) 3 := ⟨gTs_t (tb_2 (List.mem_of_getElem? (i := 25) rfl)) rfl, wI_X1, by decide +kernel, by decide +kernel, by decide +kernel⟩
theorem mi_X1_admit : Cond.instanceMethod yX1_admit ∈ gTs := gTs_t (tb_2 (List.mem_of_getElem? (i := 23) rfl)) rfl
theorem mm_X1_admit : gMi yX1_admit cX1_admit 5 (some .int) 3 := ⟨mt_X1_admit, mi_X1_admit, gTs_t (tb_2 (List.mem_of_getElem? (i := 24) rfl)) rfl⟩
theorem mt_X10_duty : gMth yX10_duty cX10_duty 4 (some .int) 2 := ⟨gTs_t (tb_2 (List.mem_of_getElem? (i := 29) rfl)) rfl, wI_X10, by decide +kernel, by decide +kernel, by decide +kernel⟩
theorem mi_X10_duty : Cond.instanceMethod yX10_duty ∈ gTs := gTs_t (tb_2 (List.mem_of_getElem? (i := 27) rfl)) rfl
theorem mm_X10_duty : gMi yX10_duty cX10_duty 4 (some .int) 2 := ⟨mt_X10_duty, mi_X10_duty, gTs_t (tb_2 (List.mem_of_getElem? (i := 28) rfl)) rfl⟩
theorem mt_X1_isGuest : gMth yX1_isGuest cX1_isGuest 2 (some .boolean) 1 := ⟨gTs_t (tb_2 (List.mem_of_getElem? (i := 33) rfl)) rfl, wI_X1, by decide +kernel, by decide +kernel, by decide +kernel⟩
theorem mi_X1_isGuest : Cond.instanceMethod yX1_isGuest ∈ gTs := gTs_t (tb_2 (List.mem_of_getElem? (i := 31) rfl)) rfl
theorem mm_X1_isGuest : gMi yX1_isGuest cX1_isGuest 2 (some .boolean) 1 := ⟨mt_X1_isGuest, mi_X1_isGuest, gTs_t (tb_2 (List.mem_of_getElem? (i := 32) rfl)) rfl⟩
theorem mt_X1_remember : gMth yX1_remember cX1_remember 1 none 0 := ⟨gTs_t (tb_2 (List.mem_of_getElem? (i := 37) rfl)) rfl, wI_X1, by decide +kernel, by decide +kernel, by decide +kernel⟩
theorem mi_X1_remember : Cond.instanceMethod yX1_remember ∈ gTs := gTs_t (tb_2 (List.mem_of_getElem? (i := 35) rfl)) rfl
theorem mm_X1_remember : gMi yX1_remember cX1_remember 1 none 0 := ⟨mt_X1_remember, mi_X1_remember, gTs_t (tb_2 (List.mem_of_getElem? (i := 36) rfl)) rfl⟩
theorem mt_X1_copyRow : gMth yX1_copyRow cX1_copyRow 2 none 2 := ⟨gTs_t (tb_2 (List.mem_of_getElem? (i := 40) rfl)) rfl, wI_X1, by decide +kernel, by decide +kernel, by decide +kernel⟩
theorem mm_X1_copyRow : gMs yX1_copyRow cX1_copyRow 2 none 2 := ⟨mt_X1_copyRow, gTs_t (tb_2 (List.mem_of_getElem? (i := 39) rfl)) rfl⟩
theorem mt_J9_min_7cf53 : gMth yJ9_min_7cf53 cJ9_min_7cf53 2 (some .int) 2 := ⟨gTs_t (tb_2 (List.mem_of_getElem? (i := 46) rfl)) rfl, wI_J9, by decide +kernel, by decide +kernel, by decide +kernel⟩
theorem mm_J9_min_7cf53 : gMs yJ9_min_7cf53 cJ9_min_7cf53 2 (some .int) 2 := ⟨mt_J9_min_7cf53, gTs_t (tb_2 (List.mem_of_getElem? (i := 45) rfl)) rfl⟩
theorem mt_X10_type : gMth yX10_type cX10_type 2 (some .int) 1 := ⟨gTs_t (tb_2 (List.mem_of_getElem? (i := 50) rfl)) rfl, wI_X10, by decide +kernel, by decide +kernel, by decide +kernel⟩
theorem mi_X10_type : Cond.instanceMethod yX10_type ∈ gTs := gTs_t (tb_2 (List.mem_of_getElem? (i := 48) rfl)) rfl
theorem mm_X10_type : gMi yX10_type cX10_type 2 (some .int) 1 := ⟨mt_X10_type, mi_X10_type, gTs_t (tb_2 (List.mem_of_getElem? (i := 49) rfl)) rfl⟩
theorem mt_X9_append : gMth yX9_append cX9_append 2 (some .int) 1 := ⟨gTs_t (tb_2 (List.mem_of_getElem? (i := 54) rfl)) rfl, wI_X9, by decide +kernel, by decide +kernel, by decide +kernel⟩
theorem mi_X9_append : Cond.instanceMethod yX9_append ∈ gTs := gTs_t (tb_2 (List.mem_of_getElem? (i := 52) rfl)) rfl
theorem mm_X9_append : gMi yX9_append cX9_append 2 (some .int) 1 := ⟨mt_X9_append, mi_X9_append, gTs_t (tb_2 (List.mem_of_getElem? (i := 53) rfl)) rfl⟩
theorem mt_X10_clear : gMth yX10_clear cX10_clear 2 (some .int) 0 := ⟨gTs_t (tb_2 (List.mem_of_getElem? (i := 58) rfl)) rfl, wI_X10, by decide +kernel, by decide +kernel, by decide +kernel⟩
theorem mi_X10_clear : Cond.instanceMethod yX10_clear ∈ gTs := gTs_t (tb_2 (List.mem_of_getElem? (i := 56) rfl)) rfl
theorem mm_X10_clear : gMi yX10_clear cX10_clear 2 (some .int) 0 := ⟨mt_X10_clear, mi_X10_clear, gTs_t (tb_2 (List.mem_of_getElem? (i := 57) rfl)) rfl⟩
theorem mt_X10_read : gMth yX10_read cX10_read 2 (some .int) 0 := ⟨gTs_t (tb_2 (List.mem_of_getElem? (i := 62) rfl)) rfl, wI_X10, by decide +kernel, by decide +kernel, by decide +kernel⟩
theorem mi_X10_read : Cond.instanceMethod yX10_read ∈ gTs := gTs_t (tb_2 (List.mem_of_getElem? (i := 60) rfl)) rfl
theorem mm_X10_read : gMi yX10_read cX10_read 2 (some .int) 0 := ⟨mt_X10_read, mi_X10_read, gTs_t (tb_2 (List.mem_of_getElem? (i := 61) rfl)) rfl⟩
theorem mt_X9_parse : gMth yX9_parse cX9_parse 3 (some .int) 1 := ⟨gTs_t (tb_2 (List.mem_of_getElem? (i := 66) rfl)) rfl, wI_X9, by decide +kernel, by decide +kernel, by decide +kernel⟩
theorem mi_X9_parse : Cond.instanceMethod yX9_parse ∈ gTs := gTs_t (tb_2 (List.mem_of_getElem? (i := 64) rfl)) rfl
theorem mm_X9_parse : gMi yX9_parse cX9_parse 3 (some .int) 1 := ⟨mt_X9_parse, mi_X9_parse, gTs_t (tb_2 (List.mem_of_getElem? (i := 65) rfl)) rfl⟩
theorem mt_X9_step : gMth yX9_step cX9_step 1 none 0 := ⟨gTs_t (tb_2 (List.mem_of_getElem? (i := 71) rfl)) rfl, wI_X9, by decide +kernel, by decide +kernel, by decide +kernel⟩
theorem mi_X9_step : Cond.instanceMethod yX9_step ∈ gTs := gTs_t (tb_2 (List.mem_of_getElem? (i := 70) rfl)) rfl
theorem mm_X9_step : gMi yX9_step cX9_step 1 none 0 := ⟨mt_X9_step, mi_X9_step, gTs_p (q := (yX9_step, 6)) (List.mem_of_getElem? (i := 2) (by decide +kernel)) (by decide +kernel)⟩
theorem mt_X9_endOfRun : gMth yX9_endOfRun cX9_endOfRun 5 (some .int) 3 := ⟨gTs_t (tb_2 (List.mem_of_getElem? (i := 75) rfl)) rfl, wI_X9, by decide +kernel, by decide +kernel, by decide +kernel⟩
theorem mi_X9_endOfRun : Cond.instanceMethod yX9_endOfRun ∈ gTs := gTs_t (tb_2 (List.mem_of_getElem? (i := 74) rfl)) rfl
theorem mm_X9_endOfRun : gMi yX9_endOfRun cX9_endOfRun 5 (some .int) 3 := ⟨mt_X9_endOfRun, mi_X9_endOfRun, gTs_p (q := (yX9_endOfRun, 6)) (List.mem_of_getElem? (i := 3) (by decide +kernel)) (by decide +kernel)⟩
theorem mt_X9_numberHere : gMth yX9_numberHere cX9_numberHere 3 (some .int) 0 := ⟨gTs_t (tb_2 (List.mem_of_getElem? (i := 79) rfl)) rfl, wI_X9, by decide +kernel, by decide +kernel, by decide +kernel⟩
theorem mi_X9_numberHere : Cond.instanceMethod yX9_numberHere ∈ gTs := gTs_t (tb_2 (List.mem_of_getElem? (i := 78) rfl)) rfl
theorem mm_X9_numberHere : gMi yX9_numberHere cX9_numberHere 3 (some .int) 0 := ⟨mt_X9_numberHere, mi_X9_numberHere, gTs_p (q := (yX9_numberHere, 6)) (List.mem_of_getElem? (i := 4) (by decide +kernel)) (by decide +kernel)⟩
theorem mt_X9_signHere : gMth yX9_signHere cX9_signHere 1 (some .int) 0 := ⟨gTs_t (tb_2 (List.mem_of_getElem? (i := 83) rfl)) rfl, wI_X9, by decide +kernel, by decide +kernel, by decide +kernel⟩
theorem mi_X9_signHere : Cond.instanceMethod yX9_signHere ∈ gTs := gTs_t (tb_2 (List.mem_of_getElem? (i := 82) rfl)) rfl
theorem mm_X9_signHere : gMi yX9_signHere cX9_signHere 1 (some .int) 0 := ⟨mt_X9_signHere, mi_X9_signHere, gTs_p (q := (yX9_signHere, 6)) (List.mem_of_getElem? (i := 5) (by decide +kernel)) (by decide +kernel)⟩
theorem mt_X9_isWord : gMth yX9_isWord cX9_isWord 3 (some .boolean) 1 := ⟨gTs_t (tb_2 (List.mem_of_getElem? (i := 89) rfl)) rfl, wI_X9, by decide +kernel, by decide +kernel, by decide +kernel⟩
theorem mi_X9_isWord : Cond.instanceMethod yX9_isWord ∈ gTs := gTs_t (tb_2 (List.mem_of_getElem? (i := 88) rfl)) rfl
theorem mm_X9_isWord : gMi yX9_isWord cX9_isWord 3 (some .boolean) 1 := ⟨mt_X9_isWord, mi_X9_isWord, gTs_p (q := (yX9_isWord, 6)) (List.mem_of_getElem? (i := 6) (by decide +kernel)) (by decide +kernel)⟩
theorem mt_J0_length_8abf5 : gMth yJ0_length_8abf5 cJ0_length_8abf5 1 (some .int) 0 := ⟨gTs_t (tb_2 (List.mem_of_getElem? (i := 93) rfl)) rfl, wI_J0, by decide +kernel, by decide +kernel, by decide +kernel⟩
theorem mi_J0_length_8abf5 : Cond.instanceMethod yJ0_length_8abf5 ∈ gTs := gTs_t (tb_2 (List.mem_of_getElem? (i := 91) rfl)) rfl
theorem mm_J0_length_8abf5 : gMi yJ0_length_8abf5 cJ0_length_8abf5 1 (some .int) 0 := ⟨mt_J0_length_8abf5, mi_J0_length_8abf5, gTs_t (tb_2 (List.mem_of_getElem? (i := 92) rfl)) rfl⟩
theorem mt_J0_coder_7d493 : gMth yJ0_coder_7d493 cJ0_coder_7d493 1 (some .byte) 0 := ⟨gTs_t (tb_2 (List.mem_of_getElem? (i := 97) rfl)) rfl, wI_J0, by decide +kernel, by decide +kernel, by decide +kernel⟩
theorem mi_J0_coder_7d493 : Cond.instanceMethod yJ0_coder_7d493 ∈ gTs := gTs_t (tb_2 (List.mem_of_getElem? (i := 95) rfl)) rfl
theorem mm_J0_coder_7d493 : gMi yJ0_coder_7d493 cJ0_coder_7d493 1 (some .byte) 0 := ⟨mt_J0_coder_7d493, mi_J0_coder_7d493, gTs_t (tb_2 (List.mem_of_getElem? (i := 96) rfl)) rfl⟩
theorem mt_J0_charAt_5068e : gMth yJ0_charAt_5068e cJ0_charAt_5068e 2 (some .char) 1 := ⟨gTs_t (tb_2 (List.mem_of_getElem? (i := 103) rfl)) rfl, wI_J0, by decide +kernel, by decide +kernel, by decide +kernel⟩
theorem mi_J0_charAt_5068e : Cond.instanceMethod yJ0_charAt_5068e ∈ gTs := gTs_t (tb_2 (List.mem_of_getElem? (i := 101) rfl)) rfl
theorem mm_J0_charAt_5068e : gMi yJ0_charAt_5068e cJ0_charAt_5068e 2 (some .char) 1 := ⟨mt_J0_charAt_5068e, mi_J0_charAt_5068e, gTs_t (tb_2 (List.mem_of_getElem? (i := 102) rfl)) rfl⟩
theorem mt_J0_isLatin1_aae02 : gMth yJ0_isLatin1_aae02 cJ0_isLatin1_aae02 1 (some .boolean) 0 := ⟨gTs_t (tb_2 (List.mem_of_getElem? (i := 107) rfl)) rfl, wI_J0, by decide +kernel, by decide +kernel, by decide +kernel⟩
theorem mi_J0_isLatin1_aae02 : Cond.instanceMethod yJ0_isLatin1_aae02 ∈ gTs := gTs_t (tb_2 (List.mem_of_getElem? (i := 105) rfl)) rfl
theorem mm_J0_isLatin1_aae02 : gMi yJ0_isLatin1_aae02 cJ0_isLatin1_aae02 1 (some .boolean) 0 := ⟨mt_J0_isLatin1_aae02, mi_J0_isLatin1_aae02, gTs_t (tb_2 (List.mem_of_getElem? (i := 106) rfl)) rfl⟩
theorem mt_J1_charAt_3b067 : gMth yJ1_charAt_3b067 cJ1_charAt_3b067 2 (some .char) 2 := ⟨gTs_t (tb_2 (List.mem_of_getElem? (i := 110) rfl)) rfl, wI_J1, by decide +kernel, by decide +kernel, by decide +kernel⟩
theorem mm_J1_charAt_3b067 : gMs yJ1_charAt_3b067 cJ1_charAt_3b067 2 (some .char) 2 := ⟨mt_J1_charAt_3b067, gTs_t (tb_2 (List.mem_of_getElem? (i := 109) rfl)) rfl⟩
theorem mt_J0_checkIndex_df160 : gMth yJ0_checkIndex_df160 cJ0_checkIndex_df160 2 none 2 := ⟨gTs_t (tb_2 (List.mem_of_getElem? (i := 113) rfl)) rfl, wI_J0, by decide +kernel, by decide +kernel, by decide +kernel⟩
theorem mm_J0_checkIndex_df160 : gMs yJ0_checkIndex_df160 cJ0_checkIndex_df160 2 none 2 := ⟨mt_J0_checkIndex_df160, gTs_t (tb_2 (List.mem_of_getElem? (i := 112) rfl)) rfl⟩
theorem mt_J3_checkIndex_8e157 : gMth yJ3_checkIndex_8e157 cJ3_checkIndex_8e157 3 (some .int) 3 := ⟨gTs_t (tb_2 (List.mem_of_getElem? (i := 118) rfl)) rfl, wI_J3, by decide +kernel, by decide +kernel, by decide +kernel⟩
theorem mm_J3_checkIndex_8e157 : gMs yJ3_checkIndex_8e157 cJ3_checkIndex_8e157 3 (some .int) 3 := ⟨mt_J3_checkIndex_8e157, gTs_t (tb_2 (List.mem_of_getElem? (i := 117) rfl)) rfl⟩
theorem mt_J2_charAt_3b067 : gMth yJ2_charAt_3b067 cJ2_charAt_3b067 2 (some .char) 2 := ⟨gTs_t (tb_2 (List.mem_of_getElem? (i := 121) rfl)) rfl, wI_J2, by decide +kernel, by decide +kernel, by decide +kernel⟩
theorem mm_J2_charAt_3b067 : gMs yJ2_charAt_3b067 cJ2_charAt_3b067 2 (some .char) 2 := ⟨mt_J2_charAt_3b067, gTs_t (tb_2 (List.mem_of_getElem? (i := 120) rfl)) rfl⟩
theorem mt_J2_checkIndex_2214a : gMth yJ2_checkIndex_2214a cJ2_checkIndex_2214a 2 none 2 := ⟨gTs_t (tb_2 (List.mem_of_getElem? (i := 124) rfl)) rfl, wI_J2, by decide +kernel, by decide +kernel, by decide +kernel⟩
theorem mm_J2_checkIndex_2214a : gMs yJ2_checkIndex_2214a cJ2_checkIndex_2214a 2 none 2 := ⟨mt_J2_checkIndex_2214a, gTs_t (tb_2 (List.mem_of_getElem? (i := 123) rfl)) rfl⟩
theorem mt_J2_length_9d52b : gMth yJ2_length_9d52b cJ2_length_9d52b 1 (some .int) 1 := ⟨gTs_t (tb_2 (List.mem_of_getElem? (i := 127) rfl)) rfl, wI_J2, by decide +kernel, by decide +kernel, by decide +kernel⟩
theorem mm_J2_length_9d52b : gMs yJ2_length_9d52b cJ2_length_9d52b 1 (some .int) 1 := ⟨mt_J2_length_9d52b, gTs_t (tb_2 (List.mem_of_getElem? (i := 126) rfl)) rfl⟩
theorem mt_J2_getChar_3b067 : gMth yJ2_getChar_3b067 cJ2_getChar_3b067 2 (some .char) 2 := ⟨gTs_t (tb_2 (List.mem_of_getElem? (i := 131) rfl)) rfl, wI_J2, by decide +kernel, by decide +kernel, by decide +kernel⟩
theorem mm_J2_getChar_3b067 : gMs yJ2_getChar_3b067 cJ2_getChar_3b067 2 (some .char) 2 := ⟨mt_J2_getChar_3b067, gTs_t (tb_2 (List.mem_of_getElem? (i := 130) rfl)) rfl⟩
theorem mt_X9_stepToStop : gMth yX9_stepToStop cX9_stepToStop 1 (some .boolean) 0 := ⟨gTs_t (tb_2 (List.mem_of_getElem? (i := 141) rfl)) rfl, wI_X9, by decide +kernel, by decide +kernel, by decide +kernel⟩
theorem mi_X9_stepToStop : Cond.instanceMethod yX9_stepToStop ∈ gTs := gTs_t (tb_2 (List.mem_of_getElem? (i := 140) rfl)) rfl
theorem mm_X9_stepToStop : gMi yX9_stepToStop cX9_stepToStop 1 (some .boolean) 0 := ⟨mt_X9_stepToStop, mi_X9_stepToStop, gTs_p (q := (yX9_stepToStop, 6)) (List.mem_of_getElem? (i := 7) (by decide +kernel)) (by decide +kernel)⟩
theorem mt_X9_parseItem : gMth yX9_parseItem cX9_parseItem 2 (some .boolean) 1 := ⟨gTs_t (tb_2 (List.mem_of_getElem? (i := 145) rfl)) rfl, wI_X9, by decide +kernel, by decide +kernel, by decide +kernel⟩
theorem mi_X9_parseItem : Cond.instanceMethod yX9_parseItem ∈ gTs := gTs_t (tb_2 (List.mem_of_getElem? (i := 144) rfl)) rfl
theorem mm_X9_parseItem : gMi yX9_parseItem cX9_parseItem 2 (some .boolean) 1 := ⟨mt_X9_parseItem, mi_X9_parseItem, gTs_p (q := (yX9_parseItem, 6)) (List.mem_of_getElem? (i := 8) (by decide +kernel)) (by decide +kernel)⟩
theorem mt_X9_parseGuest : gMth yX9_parseGuest cX9_parseGuest 6 (some .boolean) 1 := ⟨gTs_t (tb_2 (List.mem_of_getElem? (i := 150) rfl)) rfl, wI_X9, by decide +kernel, by decide +kernel, by decide +kernel⟩
theorem mi_X9_parseGuest : Cond.instanceMethod yX9_parseGuest ∈ gTs := gTs_t (tb_2 (List.mem_of_getElem? (i := 149) rfl)) rfl
theorem mm_X9_parseGuest : gMi yX9_parseGuest cX9_parseGuest 6 (some .boolean) 1 := ⟨mt_X9_parseGuest, mi_X9_parseGuest, gTs_p (q := (yX9_parseGuest, 6)) (List.mem_of_getElem? (i := 9) (by decide +kernel)) (by decide +kernel)⟩
theorem mt_X9_stepToNumber : gMth yX9_stepToNumber cX9_stepToNumber 2 (some .boolean) 1 := ⟨gTs_t (tb_2 (List.mem_of_getElem? (i := 154) rfl)) rfl, wI_X9, by decide +kernel, by decide +kernel, by decide +kernel⟩
theorem mi_X9_stepToNumber : Cond.instanceMethod yX9_stepToNumber ∈ gTs := gTs_t (tb_2 (List.mem_of_getElem? (i := 153) rfl)) rfl
theorem mm_X9_stepToNumber : gMi yX9_stepToNumber cX9_stepToNumber 2 (some .boolean) 1 := ⟨mt_X9_stepToNumber, mi_X9_stepToNumber, gTs_p (q := (yX9_stepToNumber, 6)) (List.mem_of_getElem? (i := 10) (by decide +kernel)) (by decide +kernel)⟩
theorem mt_X9_isNumber : gMth yX9_isNumber cX9_isNumber 2 (some .boolean) 1 := ⟨gTs_t (tb_2 (List.mem_of_getElem? (i := 158) rfl)) rfl, wI_X9, by decide +kernel, by decide +kernel, by decide +kernel⟩
theorem mi_X9_isNumber : Cond.instanceMethod yX9_isNumber ∈ gTs := gTs_t (tb_2 (List.mem_of_getElem? (i := 157) rfl)) rfl
theorem mm_X9_isNumber : gMi yX9_isNumber cX9_isNumber 2 (some .boolean) 1 := ⟨mt_X9_isNumber, mi_X9_isNumber, gTs_p (q := (yX9_isNumber, 6)) (List.mem_of_getElem? (i := 11) (by decide +kernel)) (by decide +kernel)⟩
theorem mt_X9_parseDuty : gMth yX9_parseDuty cX9_parseDuty 3 (some .boolean) 1 := ⟨gTs_t (tb_2 (List.mem_of_getElem? (i := 164) rfl)) rfl, wI_X9, by decide +kernel, by decide +kernel, by decide +kernel⟩
theorem mi_X9_parseDuty : Cond.instanceMethod yX9_parseDuty ∈ gTs := gTs_t (tb_2 (List.mem_of_getElem? (i := 163) rfl)) rfl
theorem mm_X9_parseDuty : gMi yX9_parseDuty cX9_parseDuty 3 (some .boolean) 1 := ⟨mt_X9_parseDuty, mi_X9_parseDuty, gTs_p (q := (yX9_parseDuty, 6)) (List.mem_of_getElem? (i := 12) (by decide +kernel)) (by decide +kernel)⟩
theorem mt_X1_copy : gMth yX1_copy cX1_copy 3 none 1 := ⟨gTs_t (tb_2 (List.mem_of_getElem? (i := 168) rfl)) rfl, wI_X1, by decide +kernel, by decide +kernel, by decide +kernel⟩
theorem mi_X1_copy : Cond.instanceMethod yX1_copy ∈ gTs := gTs_t (tb_2 (List.mem_of_getElem? (i := 166) rfl)) rfl
theorem mm_X1_copy : gMi yX1_copy cX1_copy 3 none 1 := ⟨mt_X1_copy, mi_X1_copy, gTs_t (tb_2 (List.mem_of_getElem? (i := 167) rfl)) rfl⟩
theorem mt_X3_copy : gMth yX3_copy cX3_copy 3 none 1 := ⟨gTs_t (tb_2 (List.mem_of_getElem? (i := 172) rfl)) rfl, wI_X3, by decide +kernel, by decide +kernel, by decide +kernel⟩
theorem mi_X3_copy : Cond.instanceMethod yX3_copy ∈ gTs := gTs_t (tb_2 (List.mem_of_getElem? (i := 170) rfl)) rfl
theorem mm_X3_copy : gMi yX3_copy cX3_copy 3 none 1 := ⟨mt_X3_copy, mi_X3_copy, gTs_t (tb_2 (List.mem_of_getElem? (i := 171) rfl)) rfl⟩
theorem mt_X10_hour : gMth yX10_hour cX10_hour 3 (some .int) 1 := ⟨gTs_t (tb_2 (List.mem_of_getElem? (i := 178) rfl)) rfl, wI_X10, by decide +kernel, by decide +kernel, by decide +kernel⟩
theorem mi_X10_hour : Cond.instanceMethod yX10_hour ∈ gTs := gTs_t (tb_2 (List.mem_of_getElem? (i := 176) rfl)) rfl
theorem mm_X10_hour : gMi yX10_hour cX10_hour 3 (some .int) 1 := ⟨mt_X10_hour, mi_X10_hour, gTs_t (tb_2 (List.mem_of_getElem? (i := 177) rfl)) rfl⟩
theorem mt_X1_passHour : gMth yX1_passHour cX1_passHour 3 none 0 := ⟨gTs_t (tb_2 (List.mem_of_getElem? (i := 182) rfl)) rfl, wI_X1, by decide +kernel, by decide +kernel, by decide +kernel⟩
theorem mi_X1_passHour : Cond.instanceMethod yX1_passHour ∈ gTs := gTs_t (tb_2 (List.mem_of_getElem? (i := 180) rfl)) rfl
theorem mm_X1_passHour : gMi yX1_passHour cX1_passHour 3 none 0 := ⟨mt_X1_passHour, mi_X1_passHour, gTs_t (tb_2 (List.mem_of_getElem? (i := 181) rfl)) rfl⟩
theorem mt_X1_contentOf : gMth yX1_contentOf cX1_contentOf 3 (some .int) 1 := ⟨gTs_t (tb_2 (List.mem_of_getElem? (i := 186) rfl)) rfl, wI_X1, by decide +kernel, by decide +kernel, by decide +kernel⟩
theorem mi_X1_contentOf : Cond.instanceMethod yX1_contentOf ∈ gTs := gTs_t (tb_2 (List.mem_of_getElem? (i := 184) rfl)) rfl
theorem mm_X1_contentOf : gMi yX1_contentOf cX1_contentOf 3 (some .int) 1 := ⟨mt_X1_contentOf, mi_X1_contentOf, gTs_t (tb_2 (List.mem_of_getElem? (i := 185) rfl)) rfl⟩
theorem mt_X1_serverOf : gMth yX1_serverOf cX1_serverOf 3 (some .int) 1 := ⟨gTs_t (tb_2 (List.mem_of_getElem? (i := 190) rfl)) rfl, wI_X1, by decide +kernel, by decide +kernel, by decide +kernel⟩
theorem mi_X1_serverOf : Cond.instanceMethod yX1_serverOf ∈ gTs := gTs_t (tb_2 (List.mem_of_getElem? (i := 188) rfl)) rfl
theorem mm_X1_serverOf : gMi yX1_serverOf cX1_serverOf 3 (some .int) 1 := ⟨mt_X1_serverOf, mi_X1_serverOf, gTs_t (tb_2 (List.mem_of_getElem? (i := 189) rfl)) rfl⟩
theorem mt_X1_doesServe : gMth yX1_doesServe cX1_doesServe 3 (some .boolean) 2 := ⟨gTs_t (tb_2 (List.mem_of_getElem? (i := 194) rfl)) rfl, wI_X1, by decide +kernel, by decide +kernel, by decide +kernel⟩
theorem mi_X1_doesServe : Cond.instanceMethod yX1_doesServe ∈ gTs := gTs_t (tb_2 (List.mem_of_getElem? (i := 193) rfl)) rfl
theorem mm_X1_doesServe : gMi yX1_doesServe cX1_doesServe 3 (some .boolean) 2 := ⟨mt_X1_doesServe, mi_X1_doesServe, gTs_p (q := (yX1_doesServe, 16)) (List.mem_of_getElem? (i := 13) (by decide +kernel)) (by decide +kernel)⟩
theorem mt_X1_canServe : gMth yX1_canServe cX1_canServe 3 (some .boolean) 2 := ⟨gTs_t (tb_2 (List.mem_of_getElem? (i := 198) rfl)) rfl, wI_X1, by decide +kernel, by decide +kernel, by decide +kernel⟩
theorem mi_X1_canServe : Cond.instanceMethod yX1_canServe ∈ gTs := gTs_t (tb_2 (List.mem_of_getElem? (i := 196) rfl)) rfl
theorem mm_X1_canServe : gMi yX1_canServe cX1_canServe 3 (some .boolean) 2 := ⟨mt_X1_canServe, mi_X1_canServe, gTs_t (tb_2 (List.mem_of_getElem? (i := 197) rfl)) rfl⟩
theorem mt_X1_contentBy : gMth yX1_contentBy cX1_contentBy 3 (some .int) 2 := ⟨gTs_t (tb_2 (List.mem_of_getElem? (i := 202) rfl)) rfl, wI_X1, by decide +kernel, by decide +kernel, by decide +kernel⟩
theorem mi_X1_contentBy : Cond.instanceMethod yX1_contentBy ∈ gTs := gTs_t (tb_2 (List.mem_of_getElem? (i := 200) rfl)) rfl
theorem mm_X1_contentBy : gMi yX1_contentBy cX1_contentBy 3 (some .int) 2 := ⟨mt_X1_contentBy, mi_X1_contentBy, gTs_t (tb_2 (List.mem_of_getElem? (i := 201) rfl)) rfl⟩
theorem mt_X4_contentBy : gMth yX4_contentBy cX4_contentBy 3 (some .int) 2 := ⟨gTs_t (tb_2 (List.mem_of_getElem? (i := 227) rfl)) rfl, wI_X4, by decide +kernel, by decide +kernel, by decide +kernel⟩
theorem mi_X4_contentBy : Cond.instanceMethod yX4_contentBy ∈ gTs := gTs_t (tb_2 (List.mem_of_getElem? (i := 204) rfl)) rfl
theorem mm_X4_contentBy : gMi yX4_contentBy cX4_contentBy 3 (some .int) 2 := ⟨mt_X4_contentBy, mi_X4_contentBy, gTs_t (tb_2 (List.mem_of_getElem? (i := 205) rfl)) rfl⟩
theorem mt_X0_contentBy : gMth yX0_contentBy cX0_contentBy 3 (some .int) 2 := ⟨gTs_t (tb_2 (List.mem_of_getElem? (i := 209) rfl)) rfl, wI_X0, by decide +kernel, by decide +kernel, by decide +kernel⟩
theorem mi_X0_contentBy : Cond.instanceMethod yX0_contentBy ∈ gTs := gTs_t (tb_2 (List.mem_of_getElem? (i := 208) rfl)) rfl
theorem mt_X2_contentBy : gMth yX2_contentBy cX2_contentBy 3 (some .int) 2 := ⟨gTs_t (tb_2 (List.mem_of_getElem? (i := 213) rfl)) rfl, wI_X2, by decide +kernel, by decide +kernel, by decide +kernel⟩
theorem mi_X2_contentBy : Cond.instanceMethod yX2_contentBy ∈ gTs := gTs_t (tb_2 (List.mem_of_getElem? (i := 212) rfl)) rfl
theorem mt_X6_contentBy : gMth yX6_contentBy cX6_contentBy 4 (some .int) 2 := ⟨gTs_t (tb_2 (List.mem_of_getElem? (i := 216) rfl)) rfl, wI_X6, by decide +kernel, by decide +kernel, by decide +kernel⟩
theorem mi_X6_contentBy : Cond.instanceMethod yX6_contentBy ∈ gTs := gTs_t (tb_2 (List.mem_of_getElem? (i := 215) rfl)) rfl
theorem mt_X5_contentBy : gMth yX5_contentBy cX5_contentBy 3 (some .int) 2 := ⟨gTs_t (tb_2 (List.mem_of_getElem? (i := 220) rfl)) rfl, wI_X5, by decide +kernel, by decide +kernel, by decide +kernel⟩
theorem mi_X5_contentBy : Cond.instanceMethod yX5_contentBy ∈ gTs := gTs_t (tb_2 (List.mem_of_getElem? (i := 219) rfl)) rfl
theorem mt_X8_contentBy : gMth yX8_contentBy cX8_contentBy 4 (some .int) 2 := ⟨gTs_t (tb_2 (List.mem_of_getElem? (i := 225) rfl)) rfl, wI_X8, by decide +kernel, by decide +kernel, by decide +kernel⟩
theorem mi_X8_contentBy : Cond.instanceMethod yX8_contentBy ∈ gTs := gTs_t (tb_2 (List.mem_of_getElem? (i := 224) rfl)) rfl
theorem mt_X10_undo : gMth yX10_undo cX10_undo 1 (some .int) 0 := ⟨gTs_t (tb_2 (List.mem_of_getElem? (i := 231) rfl)) rfl, wI_X10, by decide +kernel, by decide +kernel, by decide +kernel⟩
theorem mi_X10_undo : Cond.instanceMethod yX10_undo ∈ gTs := gTs_t (tb_2 (List.mem_of_getElem? (i := 229) rfl)) rfl
theorem mm_X10_undo : gMi yX10_undo cX10_undo 1 (some .int) 0 := ⟨mt_X10_undo, mi_X10_undo, gTs_t (tb_2 (List.mem_of_getElem? (i := 230) rfl)) rfl⟩
theorem mt_X10_refuseNo : gMth yX10_refuseNo cX10_refuseNo 1 (some .int) 0 := ⟨gTs_t (tb_2 (List.mem_of_getElem? (i := 235) rfl)) rfl, wI_X10, by decide +kernel, by decide +kernel, by decide +kernel⟩
theorem mi_X10_refuseNo : Cond.instanceMethod yX10_refuseNo ∈ gTs := gTs_t (tb_2 (List.mem_of_getElem? (i := 234) rfl)) rfl
theorem mm_X10_refuseNo : gMi yX10_refuseNo cX10_refuseNo 1 (some .int) 0 := ⟨mt_X10_refuseNo, mi_X10_refuseNo, gTs_p (q := (yX10_refuseNo, 9)) (List.mem_of_getElem? (i := 14) (by decide +kernel)) (by decide +kernel)⟩
theorem mt_X1_recall : gMth yX1_recall cX1_recall 1 none 0 := ⟨gTs_t (tb_2 (List.mem_of_getElem? (i := 239) rfl)) rfl, wI_X1, by decide +kernel, by decide +kernel, by decide +kernel⟩
theorem mi_X1_recall : Cond.instanceMethod yX1_recall ∈ gTs := gTs_t (tb_2 (List.mem_of_getElem? (i := 237) rfl)) rfl
theorem mm_X1_recall : gMi yX1_recall cX1_recall 1 none 0 := ⟨mt_X1_recall, mi_X1_recall, gTs_t (tb_2 (List.mem_of_getElem? (i := 238) rfl)) rfl⟩
theorem mt_X10_of : gMth yX10_of cX10_of 3 (some .int) 2 := ⟨gTs_t (tb_3 (List.mem_of_getElem? (i := 3) rfl)) rfl, wI_X10, by decide +kernel, by decide +kernel, by decide +kernel⟩
theorem mi_X10_of : Cond.instanceMethod yX10_of ∈ gTs := gTs_t (tb_3 (List.mem_of_getElem? (i := 1) rfl)) rfl
theorem mm_X10_of : gMi yX10_of cX10_of 3 (some .int) 2 := ⟨mt_X10_of, mi_X10_of, gTs_t (tb_3 (List.mem_of_getElem? (i := 2) rfl)) rfl⟩
theorem mt_X10_can : gMth yX10_can cX10_can 3 (some .int) 2 := ⟨gTs_t (tb_3 (List.mem_of_getElem? (i := 9) rfl)) rfl, wI_X10, by decide +kernel, by decide +kernel, by decide +kernel⟩
theorem mi_X10_can : Cond.instanceMethod yX10_can ∈ gTs := gTs_t (tb_3 (List.mem_of_getElem? (i := 7) rfl)) rfl
theorem mm_X10_can : gMi yX10_can cX10_can 3 (some .int) 2 := ⟨mt_X10_can, mi_X10_can, gTs_t (tb_3 (List.mem_of_getElem? (i := 8) rfl)) rfl⟩
theorem mt_X10_work : gMth yX10_work cX10_work 3 (some .int) 2 := ⟨gTs_t (tb_3 (List.mem_of_getElem? (i := 14) rfl)) rfl, wI_X10, by decide +kernel, by decide +kernel, by decide +kernel⟩
theorem mi_X10_work : Cond.instanceMethod yX10_work ∈ gTs := gTs_t (tb_3 (List.mem_of_getElem? (i := 12) rfl)) rfl
theorem mm_X10_work : gMi yX10_work cX10_work 3 (some .int) 2 := ⟨mt_X10_work, mi_X10_work, gTs_t (tb_3 (List.mem_of_getElem? (i := 13) rfl)) rfl⟩
theorem mt_X1_workFor : gMth yX1_workFor cX1_workFor 3 (some .int) 2 := ⟨gTs_t (tb_3 (List.mem_of_getElem? (i := 18) rfl)) rfl, wI_X1, by decide +kernel, by decide +kernel, by decide +kernel⟩
theorem mi_X1_workFor : Cond.instanceMethod yX1_workFor ∈ gTs := gTs_t (tb_3 (List.mem_of_getElem? (i := 16) rfl)) rfl
theorem mm_X1_workFor : gMi yX1_workFor cX1_workFor 3 (some .int) 2 := ⟨mt_X1_workFor, mi_X1_workFor, gTs_t (tb_3 (List.mem_of_getElem? (i := 17) rfl)) rfl⟩
theorem mt_X4_workOn : gMth yX4_workOn cX4_workOn 2 (some .int) 1 := ⟨gTs_t (tb_3 (List.mem_of_getElem? (i := 37) rfl)) rfl, wI_X4, by decide +kernel, by decide +kernel, by decide +kernel⟩
theorem mi_X4_workOn : Cond.instanceMethod yX4_workOn ∈ gTs := gTs_t (tb_3 (List.mem_of_getElem? (i := 20) rfl)) rfl
theorem mm_X4_workOn : gMi yX4_workOn cX4_workOn 2 (some .int) 1 := ⟨mt_X4_workOn, mi_X4_workOn, gTs_t (tb_3 (List.mem_of_getElem? (i := 21) rfl)) rfl⟩
theorem mt_X0_workOn : gMth yX0_workOn cX0_workOn 2 (some .int) 1 := ⟨gTs_t (tb_3 (List.mem_of_getElem? (i := 25) rfl)) rfl, wI_X0, by decide +kernel, by decide +kernel, by decide +kernel⟩
theorem mi_X0_workOn : Cond.instanceMethod yX0_workOn ∈ gTs := gTs_t (tb_3 (List.mem_of_getElem? (i := 24) rfl)) rfl
theorem mt_X6_workOn : gMth yX6_workOn cX6_workOn 2 (some .int) 1 := ⟨gTs_t (tb_3 (List.mem_of_getElem? (i := 29) rfl)) rfl, wI_X6, by decide +kernel, by decide +kernel, by decide +kernel⟩
theorem mi_X6_workOn : Cond.instanceMethod yX6_workOn ∈ gTs := gTs_t (tb_3 (List.mem_of_getElem? (i := 28) rfl)) rfl
theorem mt_X5_workOn : gMth yX5_workOn cX5_workOn 2 (some .int) 1 := ⟨gTs_t (tb_3 (List.mem_of_getElem? (i := 33) rfl)) rfl, wI_X5, by decide +kernel, by decide +kernel, by decide +kernel⟩
theorem mi_X5_workOn : Cond.instanceMethod yX5_workOn ∈ gTs := gTs_t (tb_3 (List.mem_of_getElem? (i := 32) rfl)) rfl
theorem mt_X10_all : gMth yX10_all cX10_all 2 (some .int) 1 := ⟨gTs_t (tb_3 (List.mem_of_getElem? (i := 41) rfl)) rfl, wI_X10, by decide +kernel, by decide +kernel, by decide +kernel⟩
theorem mi_X10_all : Cond.instanceMethod yX10_all ∈ gTs := gTs_t (tb_3 (List.mem_of_getElem? (i := 39) rfl)) rfl
theorem mm_X10_all : gMi yX10_all cX10_all 2 (some .int) 1 := ⟨mt_X10_all, mi_X10_all, gTs_t (tb_3 (List.mem_of_getElem? (i := 40) rfl)) rfl⟩
theorem mt_X7_gather : gMth yX7_gather cX7_gather 6 none 3 := ⟨gTs_t (tb_3 (List.mem_of_getElem? (i := 45) rfl)) rfl, wI_X7, by decide +kernel, by decide +kernel, by decide +kernel⟩
theorem mi_X7_gather : Cond.instanceMethod yX7_gather ∈ gTs := gTs_t (tb_3 (List.mem_of_getElem? (i := 43) rfl)) rfl
theorem mm_X7_gather : gMi yX7_gather cX7_gather 6 none 3 := ⟨mt_X7_gather, mi_X7_gather, gTs_t (tb_3 (List.mem_of_getElem? (i := 44) rfl)) rfl⟩
theorem mt_X7_costOf : gMth yX7_costOf cX7_costOf 4 (some .int) 4 := ⟨gTs_t (tb_3 (List.mem_of_getElem? (i := 49) rfl)) rfl, wI_X7, by decide +kernel, by decide +kernel, by decide +kernel⟩
theorem mm_X7_costOf : gMs yX7_costOf cX7_costOf 4 (some .int) 4 := ⟨mt_X7_costOf, gTs_t (tb_3 (List.mem_of_getElem? (i := 48) rfl)) rfl⟩
theorem mt_X7_ways : gMth yX7_ways cX7_ways 5 (some .int) 0 := ⟨gTs_t (tb_3 (List.mem_of_getElem? (i := 55) rfl)) rfl, wI_X7, by decide +kernel, by decide +kernel, by decide +kernel⟩
theorem mi_X7_ways : Cond.instanceMethod yX7_ways ∈ gTs := gTs_t (tb_3 (List.mem_of_getElem? (i := 53) rfl)) rfl
theorem mm_X7_ways : gMi yX7_ways cX7_ways 5 (some .int) 0 := ⟨mt_X7_ways, mi_X7_ways, gTs_t (tb_3 (List.mem_of_getElem? (i := 54) rfl)) rfl⟩
theorem mt_X7_isOpen : gMth yX7_isOpen cX7_isOpen 4 (some .boolean) 2 := ⟨gTs_t (tb_3 (List.mem_of_getElem? (i := 59) rfl)) rfl, wI_X7, by decide +kernel, by decide +kernel, by decide +kernel⟩
theorem mi_X7_isOpen : Cond.instanceMethod yX7_isOpen ∈ gTs := gTs_t (tb_3 (List.mem_of_getElem? (i := 58) rfl)) rfl
theorem mm_X7_isOpen : gMi yX7_isOpen cX7_isOpen 4 (some .boolean) 2 := ⟨mt_X7_isOpen, mi_X7_isOpen, gTs_p (q := (yX7_isOpen, 5)) (List.mem_of_getElem? (i := 15) (by decide +kernel)) (by decide +kernel)⟩
theorem mt_J6_bitCount_0f7a4 : gMth yJ6_bitCount_0f7a4 cJ6_bitCount_0f7a4 1 (some .int) 1 := ⟨gTs_t (tb_3 (List.mem_of_getElem? (i := 62) rfl)) rfl, wI_J6, by decide +kernel, by decide +kernel, by decide +kernel⟩
theorem mm_J6_bitCount_0f7a4 : gMs yJ6_bitCount_0f7a4 cJ6_bitCount_0f7a4 1 (some .int) 1 := ⟨mt_J6_bitCount_0f7a4, gTs_t (tb_3 (List.mem_of_getElem? (i := 61) rfl)) rfl⟩
theorem mt_X7_dutyInBest : gMth yX7_dutyInBest cX7_dutyInBest 5 (some .int) 1 := ⟨gTs_t (tb_3 (List.mem_of_getElem? (i := 69) rfl)) rfl, wI_X7, by decide +kernel, by decide +kernel, by decide +kernel⟩
theorem mi_X7_dutyInBest : Cond.instanceMethod yX7_dutyInBest ∈ gTs := gTs_t (tb_3 (List.mem_of_getElem? (i := 67) rfl)) rfl
theorem mm_X7_dutyInBest : gMi yX7_dutyInBest cX7_dutyInBest 5 (some .int) 1 := ⟨mt_X7_dutyInBest, mi_X7_dutyInBest, gTs_t (tb_3 (List.mem_of_getElem? (i := 68) rfl)) rfl⟩
theorem mt_X7_leastCost : gMth yX7_leastCost cX7_leastCost 5 (some .int) 0 := ⟨gTs_t (tb_3 (List.mem_of_getElem? (i := 73) rfl)) rfl, wI_X7, by decide +kernel, by decide +kernel, by decide +kernel⟩
theorem mi_X7_leastCost : Cond.instanceMethod yX7_leastCost ∈ gTs := gTs_t (tb_3 (List.mem_of_getElem? (i := 71) rfl)) rfl
theorem mm_X7_leastCost : gMi yX7_leastCost cX7_leastCost 5 (some .int) 0 := ⟨mt_X7_leastCost, mi_X7_leastCost, gTs_t (tb_3 (List.mem_of_getElem? (i := 72) rfl)) rfl⟩
theorem mt_X7_costThrough : gMth yX7_costThrough cX7_costThrough 4 (some .int) 2 := ⟨gTs_t (tb_3 (List.mem_of_getElem? (i := 78) rfl)) rfl, wI_X7, by decide +kernel, by decide +kernel, by decide +kernel⟩
theorem mi_X7_costThrough : Cond.instanceMethod yX7_costThrough ∈ gTs := gTs_t (tb_3 (List.mem_of_getElem? (i := 77) rfl)) rfl
theorem mm_X7_costThrough : gMi yX7_costThrough cX7_costThrough 4 (some .int) 2 := ⟨mt_X7_costThrough, mi_X7_costThrough, gTs_p (q := (yX7_costThrough, 5)) (List.mem_of_getElem? (i := 16) (by decide +kernel)) (by decide +kernel)⟩
theorem mt_X7_firstBest : gMth yX7_firstBest cX7_firstBest 3 (some .int) 1 := ⟨gTs_t (tb_3 (List.mem_of_getElem? (i := 83) rfl)) rfl, wI_X7, by decide +kernel, by decide +kernel, by decide +kernel⟩
theorem mi_X7_firstBest : Cond.instanceMethod yX7_firstBest ∈ gTs := gTs_t (tb_3 (List.mem_of_getElem? (i := 82) rfl)) rfl
theorem mm_X7_firstBest : gMi yX7_firstBest cX7_firstBest 3 (some .int) 1 := ⟨mt_X7_firstBest, mi_X7_firstBest, gTs_p (q := (yX7_firstBest, 5)) (List.mem_of_getElem? (i := 17) (by decide +kernel)) (by decide +kernel)⟩
theorem mt_X10_least : gMth yX10_least cX10_least 2 (some .int) 0 := ⟨gTs_t (tb_3 (List.mem_of_getElem? (i := 87) rfl)) rfl, wI_X10, by decide +kernel, by decide +kernel, by decide +kernel⟩
theorem mi_X10_least : Cond.instanceMethod yX10_least ∈ gTs := gTs_t (tb_3 (List.mem_of_getElem? (i := 85) rfl)) rfl
theorem mm_X10_least : gMi yX10_least cX10_least 2 (some .int) 0 := ⟨mt_X10_least, mi_X10_least, gTs_t (tb_3 (List.mem_of_getElem? (i := 86) rfl)) rfl⟩
theorem mt_X10_most : gMth yX10_most cX10_most 3 (some .int) 1 := ⟨gTs_t (tb_3 (List.mem_of_getElem? (i := 93) rfl)) rfl, wI_X10, by decide +kernel, by decide +kernel, by decide +kernel⟩
theorem mi_X10_most : Cond.instanceMethod yX10_most ∈ gTs := gTs_t (tb_3 (List.mem_of_getElem? (i := 91) rfl)) rfl
theorem mm_X10_most : gMi yX10_most cX10_most 3 (some .int) 1 := ⟨mt_X10_most, mi_X10_most, gTs_t (tb_3 (List.mem_of_getElem? (i := 92) rfl)) rfl⟩
theorem mt_X10_lone : gMth yX10_lone cX10_lone 3 (some .int) 0 := ⟨gTs_t (tb_3 (List.mem_of_getElem? (i := 97) rfl)) rfl, wI_X10, by decide +kernel, by decide +kernel, by decide +kernel⟩
theorem mi_X10_lone : Cond.instanceMethod yX10_lone ∈ gTs := gTs_t (tb_3 (List.mem_of_getElem? (i := 95) rfl)) rfl
theorem mm_X10_lone : gMi yX10_lone cX10_lone 3 (some .int) 0 := ⟨mt_X10_lone, mi_X10_lone, gTs_t (tb_3 (List.mem_of_getElem? (i := 96) rfl)) rfl⟩
theorem mt_X1_isServable : gMth yX1_isServable cX1_isServable 3 (some .boolean) 1 := ⟨gTs_t (tb_3 (List.mem_of_getElem? (i := 101) rfl)) rfl, wI_X1, by decide +kernel, by decide +kernel, by decide +kernel⟩
theorem mi_X1_isServable : Cond.instanceMethod yX1_isServable ∈ gTs := gTs_t (tb_3 (List.mem_of_getElem? (i := 99) rfl)) rfl
theorem mm_X1_isServable : gMi yX1_isServable cX1_isServable 3 (some .boolean) 1 := ⟨mt_X1_isServable, mi_X1_isServable, gTs_t (tb_3 (List.mem_of_getElem? (i := 100) rfl)) rfl⟩
theorem mt_X10_rings : gMth yX10_rings cX10_rings 4 (some .int) 1 := ⟨gTs_t (tb_3 (List.mem_of_getElem? (i := 105) rfl)) rfl, wI_X10, by decide +kernel, by decide +kernel, by decide +kernel⟩
theorem mi_X10_rings : Cond.instanceMethod yX10_rings ∈ gTs := gTs_t (tb_3 (List.mem_of_getElem? (i := 103) rfl)) rfl
theorem mm_X10_rings : gMi yX10_rings cX10_rings 4 (some .int) 1 := ⟨mt_X10_rings, mi_X10_rings, gTs_t (tb_3 (List.mem_of_getElem? (i := 104) rfl)) rfl⟩
theorem mt_X1_ringOf : gMth yX1_ringOf cX1_ringOf 4 (some .int) 1 := ⟨gTs_t (tb_3 (List.mem_of_getElem? (i := 109) rfl)) rfl, wI_X1, by decide +kernel, by decide +kernel, by decide +kernel⟩
theorem mi_X1_ringOf : Cond.instanceMethod yX1_ringOf ∈ gTs := gTs_t (tb_3 (List.mem_of_getElem? (i := 107) rfl)) rfl
theorem mm_X1_ringOf : gMi yX1_ringOf cX1_ringOf 4 (some .int) 1 := ⟨mt_X1_ringOf, mi_X1_ringOf, gTs_t (tb_3 (List.mem_of_getElem? (i := 108) rfl)) rfl⟩
theorem mt_X10_smallest : gMth yX10_smallest cX10_smallest 5 (some .int) 0 := ⟨gTs_t (tb_3 (List.mem_of_getElem? (i := 113) rfl)) rfl, wI_X10, by decide +kernel, by decide +kernel, by decide +kernel⟩
theorem mi_X10_smallest : Cond.instanceMethod yX10_smallest ∈ gTs := gTs_t (tb_3 (List.mem_of_getElem? (i := 111) rfl)) rfl
theorem mm_X10_smallest : gMi yX10_smallest cX10_smallest 5 (some .int) 0 := ⟨mt_X10_smallest, mi_X10_smallest, gTs_t (tb_3 (List.mem_of_getElem? (i := 112) rfl)) rfl⟩
theorem mt_X10_closes : gMth yX10_closes cX10_closes 3 (some .boolean) 2 := ⟨gTs_t (tb_3 (List.mem_of_getElem? (i := 118) rfl)) rfl, wI_X10, by decide +kernel, by decide +kernel, by decide +kernel⟩
theorem mi_X10_closes : Cond.instanceMethod yX10_closes ∈ gTs := gTs_t (tb_3 (List.mem_of_getElem? (i := 117) rfl)) rfl
theorem mm_X10_closes : gMi yX10_closes cX10_closes 3 (some .boolean) 2 := ⟨mt_X10_closes, mi_X10_closes, gTs_p (q := (yX10_closes, 9)) (List.mem_of_getElem? (i := 18) (by decide +kernel)) (by decide +kernel)⟩
theorem mt_X10_swap : gMth yX10_swap cX10_swap 5 (some .int) 1 := ⟨gTs_t (tb_3 (List.mem_of_getElem? (i := 122) rfl)) rfl, wI_X10, by decide +kernel, by decide +kernel, by decide +kernel⟩
theorem mi_X10_swap : Cond.instanceMethod yX10_swap ∈ gTs := gTs_t (tb_3 (List.mem_of_getElem? (i := 120) rfl)) rfl
theorem mm_X10_swap : gMi yX10_swap cX10_swap 5 (some .int) 1 := ⟨mt_X10_swap, mi_X10_swap, gTs_t (tb_3 (List.mem_of_getElem? (i := 121) rfl)) rfl⟩
theorem mt_X1_wouldSwap : gMth yX1_wouldSwap cX1_wouldSwap 5 (some .boolean) 2 := ⟨gTs_t (tb_3 (List.mem_of_getElem? (i := 126) rfl)) rfl, wI_X1, by decide +kernel, by decide +kernel, by decide +kernel⟩
theorem mi_X1_wouldSwap : Cond.instanceMethod yX1_wouldSwap ∈ gTs := gTs_t (tb_3 (List.mem_of_getElem? (i := 124) rfl)) rfl
theorem mm_X1_wouldSwap : gMi yX1_wouldSwap cX1_wouldSwap 5 (some .boolean) 2 := ⟨mt_X1_wouldSwap, mi_X1_wouldSwap, gTs_t (tb_3 (List.mem_of_getElem? (i := 125) rfl)) rfl⟩
theorem mt_X1_wouldRather : gMth yX1_wouldRather cX1_wouldRather 4 (some .boolean) 3 := ⟨gTs_t (tb_3 (List.mem_of_getElem? (i := 130) rfl)) rfl, wI_X1, by decide +kernel, by decide +kernel, by decide +kernel⟩
theorem mi_X1_wouldRather : Cond.instanceMethod yX1_wouldRather ∈ gTs := gTs_t (tb_3 (List.mem_of_getElem? (i := 129) rfl)) rfl
theorem mm_X1_wouldRather : gMi yX1_wouldRather cX1_wouldRather 4 (some .boolean) 3 := ⟨mt_X1_wouldRather, mi_X1_wouldRather, gTs_p (q := (yX1_wouldRather, 16)) (List.mem_of_getElem? (i := 19) (by decide +kernel)) (by decide +kernel)⟩
theorem mt_X10_takeIn : gMth yX10_takeIn cX10_takeIn 5 (some .int) 1 := ⟨gTs_t (tb_3 (List.mem_of_getElem? (i := 134) rfl)) rfl, wI_X10, by decide +kernel, by decide +kernel, by decide +kernel⟩
theorem mi_X10_takeIn : Cond.instanceMethod yX10_takeIn ∈ gTs := gTs_t (tb_3 (List.mem_of_getElem? (i := 132) rfl)) rfl
theorem mm_X10_takeIn : gMi yX10_takeIn cX10_takeIn 5 (some .int) 1 := ⟨mt_X10_takeIn, mi_X10_takeIn, gTs_t (tb_3 (List.mem_of_getElem? (i := 133) rfl)) rfl⟩
theorem mt_X10_note : gMth yX10_note cX10_note 7 (some .int) 5 := ⟨gTs_t (tb_3 (List.mem_of_getElem? (i := 138) rfl)) rfl, wI_X10, by decide +kernel, by decide +kernel, by decide +kernel⟩
theorem mi_X10_note : Cond.instanceMethod yX10_note ∈ gTs := gTs_t (tb_3 (List.mem_of_getElem? (i := 136) rfl)) rfl
theorem mm_X10_note : gMi yX10_note cX10_note 7 (some .int) 5 := ⟨mt_X10_note, mi_X10_note, gTs_t (tb_3 (List.mem_of_getElem? (i := 137) rfl)) rfl⟩
theorem mt_X3_add : gMth yX3_add cX3_add 7 (some .int) 5 := ⟨gTs_t (tb_3 (List.mem_of_getElem? (i := 142) rfl)) rfl, wI_X3, by decide +kernel, by decide +kernel, by decide +kernel⟩
theorem mi_X3_add : Cond.instanceMethod yX3_add ∈ gTs := gTs_t (tb_3 (List.mem_of_getElem? (i := 140) rfl)) rfl
theorem mm_X3_add : gMi yX3_add cX3_add 7 (some .int) 5 := ⟨mt_X3_add, mi_X3_add, gTs_t (tb_3 (List.mem_of_getElem? (i := 141) rfl)) rfl⟩
theorem mt_X10_forget : gMth yX10_forget cX10_forget 2 (some .int) 0 := ⟨gTs_t (tb_3 (List.mem_of_getElem? (i := 146) rfl)) rfl, wI_X10, by decide +kernel, by decide +kernel, by decide +kernel⟩
theorem mi_X10_forget : Cond.instanceMethod yX10_forget ∈ gTs := gTs_t (tb_3 (List.mem_of_getElem? (i := 144) rfl)) rfl
theorem mm_X10_forget : gMi yX10_forget cX10_forget 2 (some .int) 0 := ⟨mt_X10_forget, mi_X10_forget, gTs_t (tb_3 (List.mem_of_getElem? (i := 145) rfl)) rfl⟩
theorem mt_X10_wants : gMth yX10_wants cX10_wants 2 (some .int) 1 := ⟨gTs_t (tb_3 (List.mem_of_getElem? (i := 150) rfl)) rfl, wI_X10, by decide +kernel, by decide +kernel, by decide +kernel⟩
theorem mi_X10_wants : Cond.instanceMethod yX10_wants ∈ gTs := gTs_t (tb_3 (List.mem_of_getElem? (i := 148) rfl)) rfl
theorem mm_X10_wants : gMi yX10_wants cX10_wants 2 (some .int) 1 := ⟨mt_X10_wants, mi_X10_wants, gTs_t (tb_3 (List.mem_of_getElem? (i := 149) rfl)) rfl⟩
theorem mt_X1_wantsThatFit : gMth yX1_wantsThatFit cX1_wantsThatFit 3 (some .int) 2 := ⟨gTs_t (tb_3 (List.mem_of_getElem? (i := 154) rfl)) rfl, wI_X1, by decide +kernel, by decide +kernel, by decide +kernel⟩
theorem mi_X1_wantsThatFit : Cond.instanceMethod yX1_wantsThatFit ∈ gTs := gTs_t (tb_3 (List.mem_of_getElem? (i := 152) rfl)) rfl
theorem mm_X1_wantsThatFit : gMi yX1_wantsThatFit cX1_wantsThatFit 3 (some .int) 2 := ⟨mt_X1_wantsThatFit, mi_X1_wantsThatFit, gTs_t (tb_3 (List.mem_of_getElem? (i := 153) rfl)) rfl⟩
theorem mt_X3_wantsThatFit : gMth yX3_wantsThatFit cX3_wantsThatFit 5 (some .int) 2 := ⟨gTs_t (tb_3 (List.mem_of_getElem? (i := 158) rfl)) rfl, wI_X3, by decide +kernel, by decide +kernel, by decide +kernel⟩
theorem mi_X3_wantsThatFit : Cond.instanceMethod yX3_wantsThatFit ∈ gTs := gTs_t (tb_3 (List.mem_of_getElem? (i := 156) rfl)) rfl
theorem mm_X3_wantsThatFit : gMi yX3_wantsThatFit cX3_wantsThatFit 5 (some .int) 2 := ⟨mt_X3_wantsThatFit, mi_X3_wantsThatFit, gTs_t (tb_3 (List.mem_of_getElem? (i := 157) rfl)) rfl⟩
theorem mt_X3_allFit : gMth yX3_allFit cX3_allFit 7 (some .boolean) 3 := ⟨gTs_t (tb_3 (List.mem_of_getElem? (i := 162) rfl)) rfl, wI_X3, by decide +kernel, by decide +kernel, by decide +kernel⟩
theorem mi_X3_allFit : Cond.instanceMethod yX3_allFit ∈ gTs := gTs_t (tb_3 (List.mem_of_getElem? (i := 161) rfl)) rfl
theorem mm_X3_allFit : gMi yX3_allFit cX3_allFit 7 (some .boolean) 3 := ⟨mt_X3_allFit, mi_X3_allFit, gTs_p (q := (yX3_allFit, 2)) (List.mem_of_getElem? (i := 20) (by decide +kernel)) (by decide +kernel)⟩
theorem mt_X10_is : gMth yX10_is cX10_is 4 (some .int) 1 := ⟨gTs_t (tb_3 (List.mem_of_getElem? (i := 167) rfl)) rfl, wI_X10, by decide +kernel, by decide +kernel, by decide +kernel⟩
theorem mi_X10_is : Cond.instanceMethod yX10_is ∈ gTs := gTs_t (tb_3 (List.mem_of_getElem? (i := 165) rfl)) rfl
theorem mm_X10_is : gMi yX10_is cX10_is 4 (some .int) 1 := ⟨mt_X10_is, mi_X10_is, gTs_t (tb_3 (List.mem_of_getElem? (i := 166) rfl)) rfl⟩
theorem mt_X10_next : gMth yX10_next cX10_next 8 (some .int) 1 := ⟨gTs_t (tb_3 (List.mem_of_getElem? (i := 171) rfl)) rfl, wI_X10, by decide +kernel, by decide +kernel, by decide +kernel⟩
theorem mi_X10_next : Cond.instanceMethod yX10_next ∈ gTs := gTs_t (tb_3 (List.mem_of_getElem? (i := 169) rfl)) rfl
theorem mm_X10_next : gMi yX10_next cX10_next 8 (some .int) 1 := ⟨mt_X10_next, mi_X10_next, gTs_t (tb_3 (List.mem_of_getElem? (i := 170) rfl)) rfl⟩
theorem mt_J9_max_7cf53 : gMth yJ9_max_7cf53 cJ9_max_7cf53 2 (some .int) 2 := ⟨gTs_t (tb_3 (List.mem_of_getElem? (i := 174) rfl)) rfl, wI_J9, by decide +kernel, by decide +kernel, by decide +kernel⟩
theorem mm_J9_max_7cf53 : gMs yJ9_max_7cf53 cJ9_max_7cf53 2 (some .int) 2 := ⟨mt_J9_max_7cf53, gTs_t (tb_3 (List.mem_of_getElem? (i := 173) rfl)) rfl⟩
theorem mt_X10_tips : gMth yX10_tips cX10_tips 4 (some .int) 2 := ⟨gTs_t (tb_3 (List.mem_of_getElem? (i := 178) rfl)) rfl, wI_X10, by decide +kernel, by decide +kernel, by decide +kernel⟩
theorem mi_X10_tips : Cond.instanceMethod yX10_tips ∈ gTs := gTs_t (tb_3 (List.mem_of_getElem? (i := 176) rfl)) rfl
theorem mm_X10_tips : gMi yX10_tips cX10_tips 4 (some .int) 2 := ⟨mt_X10_tips, mi_X10_tips, gTs_t (tb_3 (List.mem_of_getElem? (i := 177) rfl)) rfl⟩
theorem mt_X10_moods : gMth yX10_moods cX10_moods 4 (some .int) 1 := ⟨gTs_t (tb_3 (List.mem_of_getElem? (i := 182) rfl)) rfl, wI_X10, by decide +kernel, by decide +kernel, by decide +kernel⟩
theorem mi_X10_moods : Cond.instanceMethod yX10_moods ∈ gTs := gTs_t (tb_3 (List.mem_of_getElem? (i := 180) rfl)) rfl
theorem mm_X10_moods : gMi yX10_moods cX10_moods 4 (some .int) 1 := ⟨mt_X10_moods, mi_X10_moods, gTs_t (tb_3 (List.mem_of_getElem? (i := 181) rfl)) rfl⟩
theorem mt_X1_serversOf : gMth yX1_serversOf cX1_serversOf 4 (some .int) 1 := ⟨gTs_t (tb_3 (List.mem_of_getElem? (i := 186) rfl)) rfl, wI_X1, by decide +kernel, by decide +kernel, by decide +kernel⟩
theorem mi_X1_serversOf : Cond.instanceMethod yX1_serversOf ∈ gTs := gTs_t (tb_3 (List.mem_of_getElem? (i := 184) rfl)) rfl
theorem mm_X1_serversOf : gMi yX1_serversOf cX1_serversOf 4 (some .int) 1 := ⟨mt_X1_serversOf, mi_X1_serversOf, gTs_t (tb_3 (List.mem_of_getElem? (i := 185) rfl)) rfl⟩
theorem mt_X10_oddsOfNone : gMth yX10_oddsOfNone cX10_oddsOfNone 4 (some .int) 2 := ⟨gTs_t (tb_3 (List.mem_of_getElem? (i := 189) rfl)) rfl, wI_X10, by decide +kernel, by decide +kernel, by decide +kernel⟩
theorem mm_X10_oddsOfNone : gMs yX10_oddsOfNone cX10_oddsOfNone 4 (some .int) 2 := ⟨mt_X10_oddsOfNone, gTs_t (tb_3 (List.mem_of_getElem? (i := 188) rfl)) rfl⟩
theorem mt_X10_keepFraction : gMth yX10_keepFraction cX10_keepFraction 7 none 2 := ⟨gTs_t (tb_3 (List.mem_of_getElem? (i := 193) rfl)) rfl, wI_X10, by decide +kernel, by decide +kernel, by decide +kernel⟩
theorem mi_X10_keepFraction : Cond.instanceMethod yX10_keepFraction ∈ gTs := gTs_t (tb_3 (List.mem_of_getElem? (i := 192) rfl)) rfl
theorem mm_X10_keepFraction : gMi yX10_keepFraction cX10_keepFraction 7 none 2 := ⟨mt_X10_keepFraction, mi_X10_keepFraction, gTs_p (q := (yX10_keepFraction, 9)) (List.mem_of_getElem? (i := 21) (by decide +kernel)) (by decide +kernel)⟩
theorem mt_X10_hours : gMth yX10_hours cX10_hours 8 (some .int) 2 := ⟨gTs_t (tb_3 (List.mem_of_getElem? (i := 197) rfl)) rfl, wI_X10, by decide +kernel, by decide +kernel, by decide +kernel⟩
theorem mi_X10_hours : Cond.instanceMethod yX10_hours ∈ gTs := gTs_t (tb_3 (List.mem_of_getElem? (i := 195) rfl)) rfl
theorem mm_X10_hours : gMi yX10_hours cX10_hours 8 (some .int) 2 := ⟨mt_X10_hours, mi_X10_hours, gTs_t (tb_3 (List.mem_of_getElem? (i := 196) rfl)) rfl⟩
theorem mt_X10_part : gMth yX10_part cX10_part 2 (some .long) 1 := ⟨gTs_t (tb_3 (List.mem_of_getElem? (i := 206) rfl)) rfl, wI_X10, by decide +kernel, by decide +kernel, by decide +kernel⟩
theorem mi_X10_part : Cond.instanceMethod yX10_part ∈ gTs := gTs_t (tb_3 (List.mem_of_getElem? (i := 204) rfl)) rfl
theorem mm_X10_part : gMi yX10_part cX10_part 2 (some .long) 1 := ⟨mt_X10_part, mi_X10_part, gTs_t (tb_3 (List.mem_of_getElem? (i := 205) rfl)) rfl⟩
theorem mt_X10_image : gMth yX10_image cX10_image 2 (some .int) 1 := ⟨gTs_t (tb_3 (List.mem_of_getElem? (i := 210) rfl)) rfl, wI_X10, by decide +kernel, by decide +kernel, by decide +kernel⟩
theorem mi_X10_image : Cond.instanceMethod yX10_image ∈ gTs := gTs_t (tb_3 (List.mem_of_getElem? (i := 208) rfl)) rfl
theorem mm_X10_image : gMi yX10_image cX10_image 2 (some .int) 1 := ⟨mt_X10_image, mi_X10_image, gTs_t (tb_3 (List.mem_of_getElem? (i := 209) rfl)) rfl⟩
theorem mt_X10_from : gMth yX10_from cX10_from 2 (some .int) 1 := ⟨gTs_t (tb_3 (List.mem_of_getElem? (i := 214) rfl)) rfl, wI_X10, by decide +kernel, by decide +kernel, by decide +kernel⟩
theorem mi_X10_from : Cond.instanceMethod yX10_from ∈ gTs := gTs_t (tb_3 (List.mem_of_getElem? (i := 212) rfl)) rfl
theorem mm_X10_from : gMi yX10_from cX10_from 2 (some .int) 1 := ⟨mt_X10_from, mi_X10_from, gTs_t (tb_3 (List.mem_of_getElem? (i := 213) rfl)) rfl⟩
theorem mt_X10_status : gMth yX10_status cX10_status 2 (some .int) 1 := ⟨gTs_t (tb_3 (List.mem_of_getElem? (i := 218) rfl)) rfl, wI_X10, by decide +kernel, by decide +kernel, by decide +kernel⟩
theorem mi_X10_status : Cond.instanceMethod yX10_status ∈ gTs := gTs_t (tb_3 (List.mem_of_getElem? (i := 216) rfl)) rfl
theorem mm_X10_status : gMi yX10_status cX10_status 2 (some .int) 1 := ⟨mt_X10_status, mi_X10_status, gTs_t (tb_3 (List.mem_of_getElem? (i := 217) rfl)) rfl⟩
theorem mt_X10_count : gMth yX10_count cX10_count 2 (some .int) 1 := ⟨gTs_t (tb_3 (List.mem_of_getElem? (i := 222) rfl)) rfl, wI_X10, by decide +kernel, by decide +kernel, by decide +kernel⟩
theorem mi_X10_count : Cond.instanceMethod yX10_count ∈ gTs := gTs_t (tb_3 (List.mem_of_getElem? (i := 220) rfl)) rfl
theorem mm_X10_count : gMi yX10_count cX10_count 2 (some .int) 1 := ⟨mt_X10_count, mi_X10_count, gTs_t (tb_3 (List.mem_of_getElem? (i := 221) rfl)) rfl⟩
theorem mt_X10_countOf : gMth yX10_countOf cX10_countOf 2 (some .int) 1 := ⟨gTs_t (tb_3 (List.mem_of_getElem? (i := 226) rfl)) rfl, wI_X10, by decide +kernel, by decide +kernel, by decide +kernel⟩
theorem mi_X10_countOf : Cond.instanceMethod yX10_countOf ∈ gTs := gTs_t (tb_3 (List.mem_of_getElem? (i := 225) rfl)) rfl
theorem mm_X10_countOf : gMi yX10_countOf cX10_countOf 2 (some .int) 1 := ⟨mt_X10_countOf, mi_X10_countOf, gTs_p (q := (yX10_countOf, 9)) (List.mem_of_getElem? (i := 22) (by decide +kernel)) (by decide +kernel)⟩
theorem mt_X1_servedCount : gMth yX1_servedCount cX1_servedCount 3 (some .int) 0 := ⟨gTs_t (tb_3 (List.mem_of_getElem? (i := 230) rfl)) rfl, wI_X1, by decide +kernel, by decide +kernel, by decide +kernel⟩
theorem mi_X1_servedCount : Cond.instanceMethod yX1_servedCount ∈ gTs := gTs_t (tb_3 (List.mem_of_getElem? (i := 228) rfl)) rfl
theorem mm_X1_servedCount : gMi yX1_servedCount cX1_servedCount 3 (some .int) 0 := ⟨mt_X1_servedCount, mi_X1_servedCount, gTs_t (tb_3 (List.mem_of_getElem? (i := 229) rfl)) rfl⟩
theorem mt_X10_digest : gMth yX10_digest cX10_digest 4 (some .long) 0 := ⟨gTs_t (tb_3 (List.mem_of_getElem? (i := 234) rfl)) rfl, wI_X10, by decide +kernel, by decide +kernel, by decide +kernel⟩
theorem mi_X10_digest : Cond.instanceMethod yX10_digest ∈ gTs := gTs_t (tb_3 (List.mem_of_getElem? (i := 232) rfl)) rfl
theorem mm_X10_digest : gMi yX10_digest cX10_digest 4 (some .long) 0 := ⟨mt_X10_digest, mi_X10_digest, gTs_t (tb_3 (List.mem_of_getElem? (i := 233) rfl)) rfl⟩
theorem mt_X1_addGuestsTo : gMth yX1_addGuestsTo cX1_addGuestsTo 6 (some .long) 1 := ⟨gTs_t (tb_4 (List.mem_of_getElem? (i := 0) rfl)) rfl, wI_X1, by decide +kernel, by decide +kernel, by decide +kernel⟩
theorem mi_X1_addGuestsTo : Cond.instanceMethod yX1_addGuestsTo ∈ gTs := gTs_t (tb_3 (List.mem_of_getElem? (i := 238) rfl)) rfl
theorem mm_X1_addGuestsTo : gMi yX1_addGuestsTo cX1_addGuestsTo 6 (some .long) 1 := ⟨mt_X1_addGuestsTo, mi_X1_addGuestsTo, gTs_t (tb_3 (List.mem_of_getElem? (i := 239) rfl)) rfl⟩
theorem mt_X3_addTo : gMth yX3_addTo cX3_addTo 7 (some .long) 1 := ⟨gTs_t (tb_4 (List.mem_of_getElem? (i := 5) rfl)) rfl, wI_X3, by decide +kernel, by decide +kernel, by decide +kernel⟩
theorem mi_X3_addTo : Cond.instanceMethod yX3_addTo ∈ gTs := gTs_t (tb_4 (List.mem_of_getElem? (i := 3) rfl)) rfl
theorem mm_X3_addTo : gMi yX3_addTo cX3_addTo 7 (some .long) 1 := ⟨mt_X3_addTo, mi_X3_addTo, gTs_t (tb_4 (List.mem_of_getElem? (i := 4) rfl)) rfl⟩
theorem mt_X11_init : gMth yX11_init cX11_init 1 none 0 := ⟨gTs_t (tb_4 (List.mem_of_getElem? (i := 11) rfl)) rfl, wI_X11, by decide +kernel, by decide +kernel, by decide +kernel⟩
theorem mi_X11_init : Cond.instanceMethod yX11_init ∈ gTs := gTs_t (tb_4 (List.mem_of_getElem? (i := 10) rfl)) rfl
theorem mt_X11_house : gMth yX11_house cX11_house 2 (some .int) 0 := ⟨gTs_t (tb_4 (List.mem_of_getElem? (i := 101) rfl)) rfl, wI_X11, by decide +kernel, by decide +kernel, by decide +kernel⟩
theorem mi_X11_house : Cond.instanceMethod yX11_house ∈ gTs := gTs_t (tb_4 (List.mem_of_getElem? (i := 99) rfl)) rfl
theorem mm_X11_house : gMi yX11_house cX11_house 2 (some .int) 0 := ⟨mt_X11_house, mi_X11_house, gTs_t (tb_4 (List.mem_of_getElem? (i := 100) rfl)) rfl⟩
theorem mt_X11_anew : gMth yX11_anew cX11_anew 2 none 0 := ⟨gTs_t (tb_4 (List.mem_of_getElem? (i := 105) rfl)) rfl, wI_X11, by decide +kernel, by decide +kernel, by decide +kernel⟩
theorem mi_X11_anew : Cond.instanceMethod yX11_anew ∈ gTs := gTs_t (tb_4 (List.mem_of_getElem? (i := 104) rfl)) rfl
theorem mm_X11_anew : gMi yX11_anew cX11_anew 2 none 0 := ⟨mt_X11_anew, mi_X11_anew, gTs_p (q := (yX11_anew, 28)) (List.mem_of_getElem? (i := 23) (by decide +kernel)) (by decide +kernel)⟩
theorem mt_X11_guest : gMth yX11_guest cX11_guest 4 (some .int) 3 := ⟨gTs_t (tb_4 (List.mem_of_getElem? (i := 109) rfl)) rfl, wI_X11, by decide +kernel, by decide +kernel, by decide +kernel⟩
theorem mi_X11_guest : Cond.instanceMethod yX11_guest ∈ gTs := gTs_t (tb_4 (List.mem_of_getElem? (i := 107) rfl)) rfl
theorem mm_X11_guest : gMi yX11_guest cX11_guest 4 (some .int) 3 := ⟨mt_X11_guest, mi_X11_guest, gTs_t (tb_4 (List.mem_of_getElem? (i := 108) rfl)) rfl⟩
theorem mt_X11_in : gMth yX11_in cX11_in 6 (some .boolean) 3 := ⟨gTs_t (tb_4 (List.mem_of_getElem? (i := 113) rfl)) rfl, wI_X11, by decide +kernel, by decide +kernel, by decide +kernel⟩
theorem mm_X11_in : gMs yX11_in cX11_in 6 (some .boolean) 3 := ⟨mt_X11_in, gTs_t (tb_4 (List.mem_of_getElem? (i := 112) rfl)) rfl⟩
theorem mt_X11_bad : gMth yX11_bad cX11_bad 1 (some .int) 0 := ⟨gTs_t (tb_4 (List.mem_of_getElem? (i := 119) rfl)) rfl, wI_X11, by decide +kernel, by decide +kernel, by decide +kernel⟩
theorem mi_X11_bad : Cond.instanceMethod yX11_bad ∈ gTs := gTs_t (tb_4 (List.mem_of_getElem? (i := 118) rfl)) rfl
theorem mm_X11_bad : gMi yX11_bad cX11_bad 1 (some .int) 0 := ⟨mt_X11_bad, mi_X11_bad, gTs_p (q := (yX11_bad, 28)) (List.mem_of_getElem? (i := 24) (by decide +kernel)) (by decide +kernel)⟩
theorem mt_X11_full : gMth yX11_full cX11_full 1 (some .int) 0 := ⟨gTs_t (tb_4 (List.mem_of_getElem? (i := 123) rfl)) rfl, wI_X11, by decide +kernel, by decide +kernel, by decide +kernel⟩
theorem mi_X11_full : Cond.instanceMethod yX11_full ∈ gTs := gTs_t (tb_4 (List.mem_of_getElem? (i := 122) rfl)) rfl
theorem mm_X11_full : gMi yX11_full cX11_full 1 (some .int) 0 := ⟨mt_X11_full, mi_X11_full, gTs_p (q := (yX11_full, 28)) (List.mem_of_getElem? (i := 25) (by decide +kernel)) (by decide +kernel)⟩
theorem mt_X11_add : gMth yX11_add cX11_add 5 none 3 := ⟨gTs_t (tb_4 (List.mem_of_getElem? (i := 127) rfl)) rfl, wI_X11, by decide +kernel, by decide +kernel, by decide +kernel⟩
theorem mi_X11_add : Cond.instanceMethod yX11_add ∈ gTs := gTs_t (tb_4 (List.mem_of_getElem? (i := 126) rfl)) rfl
theorem mm_X11_add : gMi yX11_add cX11_add 5 none 3 := ⟨mt_X11_add, mi_X11_add, gTs_p (q := (yX11_add, 28)) (List.mem_of_getElem? (i := 26) (by decide +kernel)) (by decide +kernel)⟩
theorem mt_X11_duty : gMth yX11_duty cX11_duty 4 (some .int) 2 := ⟨gTs_t (tb_4 (List.mem_of_getElem? (i := 131) rfl)) rfl, wI_X11, by decide +kernel, by decide +kernel, by decide +kernel⟩
theorem mi_X11_duty : Cond.instanceMethod yX11_duty ∈ gTs := gTs_t (tb_4 (List.mem_of_getElem? (i := 129) rfl)) rfl
theorem mm_X11_duty : gMi yX11_duty cX11_duty 4 (some .int) 2 := ⟨mt_X11_duty, mi_X11_duty, gTs_t (tb_4 (List.mem_of_getElem? (i := 130) rfl)) rfl⟩
theorem mt_X11_isGuest : gMth yX11_isGuest cX11_isGuest 2 (some .boolean) 1 := ⟨gTs_t (tb_4 (List.mem_of_getElem? (i := 135) rfl)) rfl, wI_X11, by decide +kernel, by decide +kernel, by decide +kernel⟩
theorem mi_X11_isGuest : Cond.instanceMethod yX11_isGuest ∈ gTs := gTs_t (tb_4 (List.mem_of_getElem? (i := 134) rfl)) rfl
theorem mm_X11_isGuest : gMi yX11_isGuest cX11_isGuest 2 (some .boolean) 1 := ⟨mt_X11_isGuest, mi_X11_isGuest, gTs_p (q := (yX11_isGuest, 28)) (List.mem_of_getElem? (i := 27) (by decide +kernel)) (by decide +kernel)⟩
theorem mt_X11_badFar : gMth yX11_badFar cX11_badFar 1 (some .int) 0 := ⟨gTs_t (tb_4 (List.mem_of_getElem? (i := 139) rfl)) rfl, wI_X11, by decide +kernel, by decide +kernel, by decide +kernel⟩
theorem mi_X11_badFar : Cond.instanceMethod yX11_badFar ∈ gTs := gTs_t (tb_4 (List.mem_of_getElem? (i := 138) rfl)) rfl
theorem mm_X11_badFar : gMi yX11_badFar cX11_badFar 1 (some .int) 0 := ⟨mt_X11_badFar, mi_X11_badFar, gTs_p (q := (yX11_badFar, 28)) (List.mem_of_getElem? (i := 28) (by decide +kernel)) (by decide +kernel)⟩
theorem mt_X11_noteStep : gMth yX11_noteStep cX11_noteStep 2 none 0 := ⟨gTs_t (tb_4 (List.mem_of_getElem? (i := 143) rfl)) rfl, wI_X11, by decide +kernel, by decide +kernel, by decide +kernel⟩
theorem mi_X11_noteStep : Cond.instanceMethod yX11_noteStep ∈ gTs := gTs_t (tb_4 (List.mem_of_getElem? (i := 142) rfl)) rfl
theorem mm_X11_noteStep : gMi yX11_noteStep cX11_noteStep 2 none 0 := ⟨mt_X11_noteStep, mi_X11_noteStep, gTs_p (q := (yX11_noteStep, 28)) (List.mem_of_getElem? (i := 29) (by decide +kernel)) (by decide +kernel)⟩
theorem mt_X11_type : gMth yX11_type cX11_type 2 (some .int) 1 := ⟨gTs_t (tb_4 (List.mem_of_getElem? (i := 147) rfl)) rfl, wI_X11, by decide +kernel, by decide +kernel, by decide +kernel⟩
theorem mi_X11_type : Cond.instanceMethod yX11_type ∈ gTs := gTs_t (tb_4 (List.mem_of_getElem? (i := 145) rfl)) rfl
theorem mm_X11_type : gMi yX11_type cX11_type 2 (some .int) 1 := ⟨mt_X11_type, mi_X11_type, gTs_t (tb_4 (List.mem_of_getElem? (i := 146) rfl)) rfl⟩
theorem mt_X11_clear : gMth yX11_clear cX11_clear 2 (some .int) 0 := ⟨gTs_t (tb_4 (List.mem_of_getElem? (i := 152) rfl)) rfl, wI_X11, by decide +kernel, by decide +kernel, by decide +kernel⟩
theorem mi_X11_clear : Cond.instanceMethod yX11_clear ∈ gTs := gTs_t (tb_4 (List.mem_of_getElem? (i := 150) rfl)) rfl
theorem mm_X11_clear : gMi yX11_clear cX11_clear 2 (some .int) 0 := ⟨mt_X11_clear, mi_X11_clear, gTs_t (tb_4 (List.mem_of_getElem? (i := 151) rfl)) rfl⟩
theorem mt_X11_read : gMth yX11_read cX11_read 1 (some .int) 0 := ⟨gTs_t (tb_4 (List.mem_of_getElem? (i := 156) rfl)) rfl, wI_X11, by decide +kernel, by decide +kernel, by decide +kernel⟩
theorem mi_X11_read : Cond.instanceMethod yX11_read ∈ gTs := gTs_t (tb_4 (List.mem_of_getElem? (i := 154) rfl)) rfl
theorem mm_X11_read : gMi yX11_read cX11_read 1 (some .int) 0 := ⟨mt_X11_read, mi_X11_read, gTs_t (tb_4 (List.mem_of_getElem? (i := 155) rfl)) rfl⟩
theorem mt_X11_readText : gMth yX11_readText cX11_readText 3 (some .int) 1 := ⟨gTs_t (tb_4 (List.mem_of_getElem? (i := 160) rfl)) rfl, wI_X11, by decide +kernel, by decide +kernel, by decide +kernel⟩
theorem mi_X11_readText : Cond.instanceMethod yX11_readText ∈ gTs := gTs_t (tb_4 (List.mem_of_getElem? (i := 159) rfl)) rfl
theorem mm_X11_readText : gMi yX11_readText cX11_readText 3 (some .int) 1 := ⟨mt_X11_readText, mi_X11_readText, gTs_p (q := (yX11_readText, 28)) (List.mem_of_getElem? (i := 30) (by decide +kernel)) (by decide +kernel)⟩
theorem mt_X11_nextToken : gMth yX11_nextToken cX11_nextToken 1 none 0 := ⟨gTs_t (tb_4 (List.mem_of_getElem? (i := 164) rfl)) rfl, wI_X11, by decide +kernel, by decide +kernel, by decide +kernel⟩
theorem mi_X11_nextToken : Cond.instanceMethod yX11_nextToken ∈ gTs := gTs_t (tb_4 (List.mem_of_getElem? (i := 163) rfl)) rfl
theorem mm_X11_nextToken : gMi yX11_nextToken cX11_nextToken 1 none 0 := ⟨mt_X11_nextToken, mi_X11_nextToken, gTs_p (q := (yX11_nextToken, 28)) (List.mem_of_getElem? (i := 31) (by decide +kernel)) (by decide +kernel)⟩
theorem mt_X11_byteAt : gMth yX11_byteAt cX11_byteAt 2 (some .int) 1 := ⟨gTs_t (tb_4 (List.mem_of_getElem? (i := 168) rfl)) rfl, wI_X11, by decide +kernel, by decide +kernel, by decide +kernel⟩
theorem mi_X11_byteAt : Cond.instanceMethod yX11_byteAt ∈ gTs := gTs_t (tb_4 (List.mem_of_getElem? (i := 167) rfl)) rfl
theorem mm_X11_byteAt : gMi yX11_byteAt cX11_byteAt 2 (some .int) 1 := ⟨mt_X11_byteAt, mi_X11_byteAt, gTs_p (q := (yX11_byteAt, 28)) (List.mem_of_getElem? (i := 32) (by decide +kernel)) (by decide +kernel)⟩
theorem mt_X11_readItem : gMth yX11_readItem cX11_readItem 4 (some .boolean) 2 := ⟨gTs_t (tb_4 (List.mem_of_getElem? (i := 176) rfl)) rfl, wI_X11, by decide +kernel, by decide +kernel, by decide +kernel⟩
theorem mi_X11_readItem : Cond.instanceMethod yX11_readItem ∈ gTs := gTs_t (tb_4 (List.mem_of_getElem? (i := 175) rfl)) rfl
theorem mm_X11_readItem : gMi yX11_readItem cX11_readItem 4 (some .boolean) 2 := ⟨mt_X11_readItem, mi_X11_readItem, gTs_p (q := (yX11_readItem, 28)) (List.mem_of_getElem? (i := 33) (by decide +kernel)) (by decide +kernel)⟩
theorem mt_X11_isWord : gMth yX11_isWord cX11_isWord 8 (some .boolean) 5 := ⟨gTs_t (tb_4 (List.mem_of_getElem? (i := 180) rfl)) rfl, wI_X11, by decide +kernel, by decide +kernel, by decide +kernel⟩
theorem mi_X11_isWord : Cond.instanceMethod yX11_isWord ∈ gTs := gTs_t (tb_4 (List.mem_of_getElem? (i := 179) rfl)) rfl
theorem mm_X11_isWord : gMi yX11_isWord cX11_isWord 8 (some .boolean) 5 := ⟨mt_X11_isWord, mi_X11_isWord, gTs_p (q := (yX11_isWord, 28)) (List.mem_of_getElem? (i := 34) (by decide +kernel)) (by decide +kernel)⟩
theorem mt_X11_reads : gMth yX11_reads cX11_reads 3 (some .boolean) 2 := ⟨gTs_t (tb_4 (List.mem_of_getElem? (i := 184) rfl)) rfl, wI_X11, by decide +kernel, by decide +kernel, by decide +kernel⟩
theorem mi_X11_reads : Cond.instanceMethod yX11_reads ∈ gTs := gTs_t (tb_4 (List.mem_of_getElem? (i := 183) rfl)) rfl
theorem mm_X11_reads : gMi yX11_reads cX11_reads 3 (some .boolean) 2 := ⟨mt_X11_reads, mi_X11_reads, gTs_p (q := (yX11_reads, 28)) (List.mem_of_getElem? (i := 35) (by decide +kernel)) (by decide +kernel)⟩
theorem mt_X11_readServices : gMth yX11_readServices cX11_readServices 1 (some .boolean) 0 := ⟨gTs_t (tb_4 (List.mem_of_getElem? (i := 188) rfl)) rfl, wI_X11, by decide +kernel, by decide +kernel, by decide +kernel⟩
theorem mi_X11_readServices : Cond.instanceMethod yX11_readServices ∈ gTs := gTs_t (tb_4 (List.mem_of_getElem? (i := 187) rfl)) rfl
theorem mm_X11_readServices : gMi yX11_readServices cX11_readServices 1 (some .boolean) 0 := ⟨mt_X11_readServices, mi_X11_readServices, gTs_p (q := (yX11_readServices, 28)) (List.mem_of_getElem? (i := 36) (by decide +kernel)) (by decide +kernel)⟩
theorem mt_X11_hour : gMth yX11_hour cX11_hour 3 (some .int) 1 := ⟨gTs_t (tb_4 (List.mem_of_getElem? (i := 192) rfl)) rfl, wI_X11, by decide +kernel, by decide +kernel, by decide +kernel⟩
theorem mi_X11_hour : Cond.instanceMethod yX11_hour ∈ gTs := gTs_t (tb_4 (List.mem_of_getElem? (i := 190) rfl)) rfl
theorem mm_X11_hour : gMi yX11_hour cX11_hour 3 (some .int) 1 := ⟨mt_X11_hour, mi_X11_hour, gTs_t (tb_4 (List.mem_of_getElem? (i := 191) rfl)) rfl⟩
theorem mt_X11_oneHour : gMth yX11_oneHour cX11_oneHour 3 none 0 := ⟨gTs_t (tb_4 (List.mem_of_getElem? (i := 197) rfl)) rfl, wI_X11, by decide +kernel, by decide +kernel, by decide +kernel⟩
theorem mi_X11_oneHour : Cond.instanceMethod yX11_oneHour ∈ gTs := gTs_t (tb_4 (List.mem_of_getElem? (i := 196) rfl)) rfl
theorem mm_X11_oneHour : gMi yX11_oneHour cX11_oneHour 3 none 0 := ⟨mt_X11_oneHour, mi_X11_oneHour, gTs_p (q := (yX11_oneHour, 28)) (List.mem_of_getElem? (i := 37) (by decide +kernel)) (by decide +kernel)⟩
theorem mt_X11_serverOf : gMth yX11_serverOf cX11_serverOf 3 (some .int) 1 := ⟨gTs_t (tb_4 (List.mem_of_getElem? (i := 201) rfl)) rfl, wI_X11, by decide +kernel, by decide +kernel, by decide +kernel⟩
theorem mi_X11_serverOf : Cond.instanceMethod yX11_serverOf ∈ gTs := gTs_t (tb_4 (List.mem_of_getElem? (i := 200) rfl)) rfl
theorem mm_X11_serverOf : gMi yX11_serverOf cX11_serverOf 3 (some .int) 1 := ⟨mt_X11_serverOf, mi_X11_serverOf, gTs_p (q := (yX11_serverOf, 28)) (List.mem_of_getElem? (i := 38) (by decide +kernel)) (by decide +kernel)⟩
theorem mt_X11_canServe : gMth yX11_canServe cX11_canServe 3 (some .boolean) 2 := ⟨gTs_t (tb_4 (List.mem_of_getElem? (i := 205) rfl)) rfl, wI_X11, by decide +kernel, by decide +kernel, by decide +kernel⟩
theorem mi_X11_canServe : Cond.instanceMethod yX11_canServe ∈ gTs := gTs_t (tb_4 (List.mem_of_getElem? (i := 204) rfl)) rfl
theorem mm_X11_canServe : gMi yX11_canServe cX11_canServe 3 (some .boolean) 2 := ⟨mt_X11_canServe, mi_X11_canServe, gTs_p (q := (yX11_canServe, 28)) (List.mem_of_getElem? (i := 39) (by decide +kernel)) (by decide +kernel)⟩
theorem mt_X11_has : gMth yX11_has cX11_has 2 (some .boolean) 2 := ⟨gTs_t (tb_4 (List.mem_of_getElem? (i := 208) rfl)) rfl, wI_X11, by decide +kernel, by decide +kernel, by decide +kernel⟩
theorem mm_X11_has : gMs yX11_has cX11_has 2 (some .boolean) 2 := ⟨mt_X11_has, gTs_t (tb_4 (List.mem_of_getElem? (i := 207) rfl)) rfl⟩
theorem mt_X11_contentOf : gMth yX11_contentOf cX11_contentOf 3 (some .int) 2 := ⟨gTs_t (tb_4 (List.mem_of_getElem? (i := 212) rfl)) rfl, wI_X11, by decide +kernel, by decide +kernel, by decide +kernel⟩
theorem mi_X11_contentOf : Cond.instanceMethod yX11_contentOf ∈ gTs := gTs_t (tb_4 (List.mem_of_getElem? (i := 211) rfl)) rfl
theorem mm_X11_contentOf : gMi yX11_contentOf cX11_contentOf 3 (some .int) 2 := ⟨mt_X11_contentOf, mi_X11_contentOf, gTs_p (q := (yX11_contentOf, 28)) (List.mem_of_getElem? (i := 40) (by decide +kernel)) (by decide +kernel)⟩
theorem mt_X11_contentBy : gMth yX11_contentBy cX11_contentBy 3 (some .int) 3 := ⟨gTs_t (tb_4 (List.mem_of_getElem? (i := 215) rfl)) rfl, wI_X11, by decide +kernel, by decide +kernel, by decide +kernel⟩
theorem mm_X11_contentBy : gMs yX11_contentBy cX11_contentBy 3 (some .int) 3 := ⟨mt_X11_contentBy, gTs_t (tb_4 (List.mem_of_getElem? (i := 214) rfl)) rfl⟩
theorem mt_X11_undo : gMth yX11_undo cX11_undo 2 (some .int) 0 := ⟨gTs_t (tb_4 (List.mem_of_getElem? (i := 219) rfl)) rfl, wI_X11, by decide +kernel, by decide +kernel, by decide +kernel⟩
theorem mi_X11_undo : Cond.instanceMethod yX11_undo ∈ gTs := gTs_t (tb_4 (List.mem_of_getElem? (i := 217) rfl)) rfl
theorem mm_X11_undo : gMi yX11_undo cX11_undo 2 (some .int) 0 := ⟨mt_X11_undo, mi_X11_undo, gTs_t (tb_4 (List.mem_of_getElem? (i := 218) rfl)) rfl⟩
theorem mt_X11_no : gMth yX11_no cX11_no 1 (some .int) 0 := ⟨gTs_t (tb_4 (List.mem_of_getElem? (i := 223) rfl)) rfl, wI_X11, by decide +kernel, by decide +kernel, by decide +kernel⟩
theorem mi_X11_no : Cond.instanceMethod yX11_no ∈ gTs := gTs_t (tb_4 (List.mem_of_getElem? (i := 222) rfl)) rfl
theorem mm_X11_no : gMi yX11_no cX11_no 1 (some .int) 0 := ⟨mt_X11_no, mi_X11_no, gTs_p (q := (yX11_no, 28)) (List.mem_of_getElem? (i := 41) (by decide +kernel)) (by decide +kernel)⟩
theorem mt_X11_of : gMth yX11_of cX11_of 3 (some .int) 2 := ⟨gTs_t (tb_4 (List.mem_of_getElem? (i := 227) rfl)) rfl, wI_X11, by decide +kernel, by decide +kernel, by decide +kernel⟩
theorem mi_X11_of : Cond.instanceMethod yX11_of ∈ gTs := gTs_t (tb_4 (List.mem_of_getElem? (i := 225) rfl)) rfl
theorem mm_X11_of : gMi yX11_of cX11_of 3 (some .int) 2 := ⟨mt_X11_of, mi_X11_of, gTs_t (tb_4 (List.mem_of_getElem? (i := 226) rfl)) rfl⟩
theorem mt_X11_can : gMth yX11_can cX11_can 3 (some .int) 2 := ⟨gTs_t (tb_4 (List.mem_of_getElem? (i := 232) rfl)) rfl, wI_X11, by decide +kernel, by decide +kernel, by decide +kernel⟩
theorem mi_X11_can : Cond.instanceMethod yX11_can ∈ gTs := gTs_t (tb_4 (List.mem_of_getElem? (i := 230) rfl)) rfl
theorem mm_X11_can : gMi yX11_can cX11_can 3 (some .int) 2 := ⟨mt_X11_can, mi_X11_can, gTs_t (tb_4 (List.mem_of_getElem? (i := 231) rfl)) rfl⟩
theorem mt_X11_work : gMth yX11_work cX11_work 3 (some .int) 2 := ⟨gTs_t (tb_4 (List.mem_of_getElem? (i := 236) rfl)) rfl, wI_X11, by decide +kernel, by decide +kernel, by decide +kernel⟩
theorem mi_X11_work : Cond.instanceMethod yX11_work ∈ gTs := gTs_t (tb_4 (List.mem_of_getElem? (i := 234) rfl)) rfl
theorem mm_X11_work : gMi yX11_work cX11_work 3 (some .int) 2 := ⟨mt_X11_work, mi_X11_work, gTs_t (tb_4 (List.mem_of_getElem? (i := 235) rfl)) rfl⟩
theorem mt_X11_workBy : gMth yX11_workBy cX11_workBy 5 (some .int) 2 := ⟨gTs_t (tb_5 (List.mem_of_getElem? (i := 0) rfl)) rfl, wI_X11, by decide +kernel, by decide +kernel, by decide +kernel⟩
theorem mi_X11_workBy : Cond.instanceMethod yX11_workBy ∈ gTs := gTs_t (tb_4 (List.mem_of_getElem? (i := 239) rfl)) rfl
theorem mm_X11_workBy : gMi yX11_workBy cX11_workBy 5 (some .int) 2 := ⟨mt_X11_workBy, mi_X11_workBy, gTs_p (q := (yX11_workBy, 28)) (List.mem_of_getElem? (i := 42) (by decide +kernel)) (by decide +kernel)⟩
theorem mt_X11_all : gMth yX11_all cX11_all 2 (some .int) 1 := ⟨gTs_t (tb_5 (List.mem_of_getElem? (i := 4) rfl)) rfl, wI_X11, by decide +kernel, by decide +kernel, by decide +kernel⟩
theorem mi_X11_all : Cond.instanceMethod yX11_all ∈ gTs := gTs_t (tb_5 (List.mem_of_getElem? (i := 2) rfl)) rfl
theorem mm_X11_all : gMi yX11_all cX11_all 2 (some .int) 1 := ⟨mt_X11_all, mi_X11_all, gTs_t (tb_5 (List.mem_of_getElem? (i := 3) rfl)) rfl⟩
theorem mt_X11_isOne : gMth yX11_isOne cX11_isOne 2 (some .boolean) 1 := ⟨gTs_t (tb_5 (List.mem_of_getElem? (i := 8) rfl)) rfl, wI_X11, by decide +kernel, by decide +kernel, by decide +kernel⟩
theorem mi_X11_isOne : Cond.instanceMethod yX11_isOne ∈ gTs := gTs_t (tb_5 (List.mem_of_getElem? (i := 7) rfl)) rfl
theorem mm_X11_isOne : gMi yX11_isOne cX11_isOne 2 (some .boolean) 1 := ⟨mt_X11_isOne, mi_X11_isOne, gTs_p (q := (yX11_isOne, 28)) (List.mem_of_getElem? (i := 43) (by decide +kernel)) (by decide +kernel)⟩
theorem mt_X11_findRows : gMth yX11_findRows cX11_findRows 6 none 0 := ⟨gTs_t (tb_5 (List.mem_of_getElem? (i := 12) rfl)) rfl, wI_X11, by decide +kernel, by decide +kernel, by decide +kernel⟩
theorem mi_X11_findRows : Cond.instanceMethod yX11_findRows ∈ gTs := gTs_t (tb_5 (List.mem_of_getElem? (i := 11) rfl)) rfl
theorem mm_X11_findRows : gMi yX11_findRows cX11_findRows 6 none 0 := ⟨mt_X11_findRows, mi_X11_findRows, gTs_p (q := (yX11_findRows, 28)) (List.mem_of_getElem? (i := 44) (by decide +kernel)) (by decide +kernel)⟩
theorem mt_X11_everybody : gMth yX11_everybody cX11_everybody 1 (some .int) 0 := ⟨gTs_t (tb_5 (List.mem_of_getElem? (i := 16) rfl)) rfl, wI_X11, by decide +kernel, by decide +kernel, by decide +kernel⟩
theorem mi_X11_everybody : Cond.instanceMethod yX11_everybody ∈ gTs := gTs_t (tb_5 (List.mem_of_getElem? (i := 15) rfl)) rfl
theorem mm_X11_everybody : gMi yX11_everybody cX11_everybody 1 (some .int) 0 := ⟨mt_X11_everybody, mi_X11_everybody, gTs_p (q := (yX11_everybody, 28)) (List.mem_of_getElem? (i := 45) (by decide +kernel)) (by decide +kernel)⟩
theorem mt_X11_takeSet : gMth yX11_takeSet cX11_takeSet 3 none 1 := ⟨gTs_t (tb_5 (List.mem_of_getElem? (i := 20) rfl)) rfl, wI_X11, by decide +kernel, by decide +kernel, by decide +kernel⟩
theorem mi_X11_takeSet : Cond.instanceMethod yX11_takeSet ∈ gTs := gTs_t (tb_5 (List.mem_of_getElem? (i := 19) rfl)) rfl
theorem mm_X11_takeSet : gMi yX11_takeSet cX11_takeSet 3 none 1 := ⟨mt_X11_takeSet, mi_X11_takeSet, gTs_p (q := (yX11_takeSet, 28)) (List.mem_of_getElem? (i := 46) (by decide +kernel)) (by decide +kernel)⟩
theorem mt_X11_factorial : gMth yX11_factorial cX11_factorial 3 (some .int) 1 := ⟨gTs_t (tb_5 (List.mem_of_getElem? (i := 23) rfl)) rfl, wI_X11, by decide +kernel, by decide +kernel, by decide +kernel⟩
theorem mm_X11_factorial : gMs yX11_factorial cX11_factorial 3 (some .int) 1 := ⟨mt_X11_factorial, gTs_t (tb_5 (List.mem_of_getElem? (i := 22) rfl)) rfl⟩
theorem mt_X11_isRow : gMth yX11_isRow cX11_isRow 10 (some .boolean) 1 := ⟨gTs_t (tb_5 (List.mem_of_getElem? (i := 27) rfl)) rfl, wI_X11, by decide +kernel, by decide +kernel, by decide +kernel⟩
theorem mi_X11_isRow : Cond.instanceMethod yX11_isRow ∈ gTs := gTs_t (tb_5 (List.mem_of_getElem? (i := 26) rfl)) rfl
theorem mm_X11_isRow : gMi yX11_isRow cX11_isRow 10 (some .boolean) 1 := ⟨mt_X11_isRow, mi_X11_isRow, gTs_p (q := (yX11_isRow, 28)) (List.mem_of_getElem? (i := 47) (by decide +kernel)) (by decide +kernel)⟩
theorem mt_X11_rowWork : gMth yX11_rowWork cX11_rowWork 3 (some .int) 0 := ⟨gTs_t (tb_5 (List.mem_of_getElem? (i := 31) rfl)) rfl, wI_X11, by decide +kernel, by decide +kernel, by decide +kernel⟩
theorem mi_X11_rowWork : Cond.instanceMethod yX11_rowWork ∈ gTs := gTs_t (tb_5 (List.mem_of_getElem? (i := 30) rfl)) rfl
theorem mm_X11_rowWork : gMi yX11_rowWork cX11_rowWork 3 (some .int) 0 := ⟨mt_X11_rowWork, mi_X11_rowWork, gTs_p (q := (yX11_rowWork, 28)) (List.mem_of_getElem? (i := 48) (by decide +kernel)) (by decide +kernel)⟩
theorem mt_X11_rowContent : gMth yX11_rowContent cX11_rowContent 3 (some .int) 0 := ⟨gTs_t (tb_5 (List.mem_of_getElem? (i := 35) rfl)) rfl, wI_X11, by decide +kernel, by decide +kernel, by decide +kernel⟩
theorem mi_X11_rowContent : Cond.instanceMethod yX11_rowContent ∈ gTs := gTs_t (tb_5 (List.mem_of_getElem? (i := 34) rfl)) rfl
theorem mm_X11_rowContent : gMi yX11_rowContent cX11_rowContent 3 (some .int) 0 := ⟨mt_X11_rowContent, mi_X11_rowContent, gTs_p (q := (yX11_rowContent, 28)) (List.mem_of_getElem? (i := 49) (by decide +kernel)) (by decide +kernel)⟩
theorem mt_X11_least : gMth yX11_least cX11_least 1 (some .int) 0 := ⟨gTs_t (tb_5 (List.mem_of_getElem? (i := 39) rfl)) rfl, wI_X11, by decide +kernel, by decide +kernel, by decide +kernel⟩
theorem mi_X11_least : Cond.instanceMethod yX11_least ∈ gTs := gTs_t (tb_5 (List.mem_of_getElem? (i := 37) rfl)) rfl
theorem mm_X11_least : gMi yX11_least cX11_least 1 (some .int) 0 := ⟨mt_X11_least, mi_X11_least, gTs_t (tb_5 (List.mem_of_getElem? (i := 38) rfl)) rfl⟩
theorem mt_X11_most : gMth yX11_most cX11_most 2 (some .int) 1 := ⟨gTs_t (tb_5 (List.mem_of_getElem? (i := 43) rfl)) rfl, wI_X11, by decide +kernel, by decide +kernel, by decide +kernel⟩
theorem mi_X11_most : Cond.instanceMethod yX11_most ∈ gTs := gTs_t (tb_5 (List.mem_of_getElem? (i := 41) rfl)) rfl
theorem mm_X11_most : gMi yX11_most cX11_most 2 (some .int) 1 := ⟨mt_X11_most, mi_X11_most, gTs_t (tb_5 (List.mem_of_getElem? (i := 42) rfl)) rfl⟩
theorem mt_X11_lone : gMth yX11_lone cX11_lone 5 (some .int) 0 := ⟨gTs_t (tb_5 (List.mem_of_getElem? (i := 47) rfl)) rfl, wI_X11, by decide +kernel, by decide +kernel, by decide +kernel⟩
theorem mi_X11_lone : Cond.instanceMethod yX11_lone ∈ gTs := gTs_t (tb_5 (List.mem_of_getElem? (i := 45) rfl)) rfl
theorem mm_X11_lone : gMi yX11_lone cX11_lone 5 (some .int) 0 := ⟨mt_X11_lone, mi_X11_lone, gTs_t (tb_5 (List.mem_of_getElem? (i := 46) rfl)) rfl⟩
theorem mt_X11_rings : gMth yX11_rings cX11_rings 4 (some .int) 1 := ⟨gTs_t (tb_5 (List.mem_of_getElem? (i := 51) rfl)) rfl, wI_X11, by decide +kernel, by decide +kernel, by decide +kernel⟩
theorem mi_X11_rings : Cond.instanceMethod yX11_rings ∈ gTs := gTs_t (tb_5 (List.mem_of_getElem? (i := 49) rfl)) rfl
theorem mm_X11_rings : gMi yX11_rings cX11_rings 4 (some .int) 1 := ⟨mt_X11_rings, mi_X11_rings, gTs_t (tb_5 (List.mem_of_getElem? (i := 50) rfl)) rfl⟩
theorem mt_X11_ringOf : gMth yX11_ringOf cX11_ringOf 4 (some .int) 1 := ⟨gTs_t (tb_5 (List.mem_of_getElem? (i := 55) rfl)) rfl, wI_X11, by decide +kernel, by decide +kernel, by decide +kernel⟩
theorem mi_X11_ringOf : Cond.instanceMethod yX11_ringOf ∈ gTs := gTs_t (tb_5 (List.mem_of_getElem? (i := 54) rfl)) rfl
theorem mm_X11_ringOf : gMi yX11_ringOf cX11_ringOf 4 (some .int) 1 := ⟨mt_X11_ringOf, mi_X11_ringOf, gTs_p (q := (yX11_ringOf, 28)) (List.mem_of_getElem? (i := 50) (by decide +kernel)) (by decide +kernel)⟩
theorem mt_X11_smallest : gMth yX11_smallest cX11_smallest 4 (some .int) 0 := ⟨gTs_t (tb_5 (List.mem_of_getElem? (i := 59) rfl)) rfl, wI_X11, by decide +kernel, by decide +kernel, by decide +kernel⟩
theorem mi_X11_smallest : Cond.instanceMethod yX11_smallest ∈ gTs := gTs_t (tb_5 (List.mem_of_getElem? (i := 57) rfl)) rfl
theorem mm_X11_smallest : gMi yX11_smallest cX11_smallest 4 (some .int) 0 := ⟨mt_X11_smallest, mi_X11_smallest, gTs_t (tb_5 (List.mem_of_getElem? (i := 58) rfl)) rfl⟩
theorem mt_X11_ones : gMth yX11_ones cX11_ones 3 (some .int) 1 := ⟨gTs_t (tb_5 (List.mem_of_getElem? (i := 62) rfl)) rfl, wI_X11, by decide +kernel, by decide +kernel, by decide +kernel⟩
theorem mm_X11_ones : gMs yX11_ones cX11_ones 3 (some .int) 1 := ⟨mt_X11_ones, gTs_t (tb_5 (List.mem_of_getElem? (i := 61) rfl)) rfl⟩
theorem mt_X11_closes : gMth yX11_closes cX11_closes 4 (some .boolean) 1 := ⟨gTs_t (tb_5 (List.mem_of_getElem? (i := 66) rfl)) rfl, wI_X11, by decide +kernel, by decide +kernel, by decide +kernel⟩
theorem mi_X11_closes : Cond.instanceMethod yX11_closes ∈ gTs := gTs_t (tb_5 (List.mem_of_getElem? (i := 65) rfl)) rfl
theorem mm_X11_closes : gMi yX11_closes cX11_closes 4 (some .boolean) 1 := ⟨mt_X11_closes, mi_X11_closes, gTs_p (q := (yX11_closes, 28)) (List.mem_of_getElem? (i := 51) (by decide +kernel)) (by decide +kernel)⟩
theorem mt_X11_swap : gMth yX11_swap cX11_swap 7 (some .int) 1 := ⟨gTs_t (tb_5 (List.mem_of_getElem? (i := 70) rfl)) rfl, wI_X11, by decide +kernel, by decide +kernel, by decide +kernel⟩
theorem mi_X11_swap : Cond.instanceMethod yX11_swap ∈ gTs := gTs_t (tb_5 (List.mem_of_getElem? (i := 68) rfl)) rfl
theorem mm_X11_swap : gMi yX11_swap cX11_swap 7 (some .int) 1 := ⟨mt_X11_swap, mi_X11_swap, gTs_t (tb_5 (List.mem_of_getElem? (i := 69) rfl)) rfl⟩
theorem mt_X11_gains : gMth yX11_gains cX11_gains 3 (some .boolean) 2 := ⟨gTs_t (tb_5 (List.mem_of_getElem? (i := 74) rfl)) rfl, wI_X11, by decide +kernel, by decide +kernel, by decide +kernel⟩
theorem mi_X11_gains : Cond.instanceMethod yX11_gains ∈ gTs := gTs_t (tb_5 (List.mem_of_getElem? (i := 73) rfl)) rfl
theorem mm_X11_gains : gMi yX11_gains cX11_gains 3 (some .boolean) 2 := ⟨mt_X11_gains, mi_X11_gains, gTs_p (q := (yX11_gains, 28)) (List.mem_of_getElem? (i := 52) (by decide +kernel)) (by decide +kernel)⟩
theorem mt_X11_takeIn : gMth yX11_takeIn cX11_takeIn 5 (some .int) 1 := ⟨gTs_t (tb_5 (List.mem_of_getElem? (i := 78) rfl)) rfl, wI_X11, by decide +kernel, by decide +kernel, by decide +kernel⟩
theorem mi_X11_takeIn : Cond.instanceMethod yX11_takeIn ∈ gTs := gTs_t (tb_5 (List.mem_of_getElem? (i := 76) rfl)) rfl
theorem mm_X11_takeIn : gMi yX11_takeIn cX11_takeIn 5 (some .int) 1 := ⟨mt_X11_takeIn, mi_X11_takeIn, gTs_t (tb_5 (List.mem_of_getElem? (i := 77) rfl)) rfl⟩
theorem mt_X11_note : gMth yX11_note cX11_note 7 (some .int) 5 := ⟨gTs_t (tb_5 (List.mem_of_getElem? (i := 82) rfl)) rfl, wI_X11, by decide +kernel, by decide +kernel, by decide +kernel⟩
theorem mi_X11_note : Cond.instanceMethod yX11_note ∈ gTs := gTs_t (tb_5 (List.mem_of_getElem? (i := 80) rfl)) rfl
theorem mm_X11_note : gMi yX11_note cX11_note 7 (some .int) 5 := ⟨mt_X11_note, mi_X11_note, gTs_t (tb_5 (List.mem_of_getElem? (i := 81) rfl)) rfl⟩
theorem mt_X11_forget : gMth yX11_forget cX11_forget 2 (some .int) 0 := ⟨gTs_t (tb_5 (List.mem_of_getElem? (i := 88) rfl)) rfl, wI_X11, by decide +kernel, by decide +kernel, by decide +kernel⟩
theorem mi_X11_forget : Cond.instanceMethod yX11_forget ∈ gTs := gTs_t (tb_5 (List.mem_of_getElem? (i := 86) rfl)) rfl
theorem mm_X11_forget : gMi yX11_forget cX11_forget 2 (some .int) 0 := ⟨mt_X11_forget, mi_X11_forget, gTs_t (tb_5 (List.mem_of_getElem? (i := 87) rfl)) rfl⟩
theorem mt_X11_wants : gMth yX11_wants cX11_wants 2 (some .int) 1 := ⟨gTs_t (tb_5 (List.mem_of_getElem? (i := 92) rfl)) rfl, wI_X11, by decide +kernel, by decide +kernel, by decide +kernel⟩
theorem mi_X11_wants : Cond.instanceMethod yX11_wants ∈ gTs := gTs_t (tb_5 (List.mem_of_getElem? (i := 90) rfl)) rfl
theorem mm_X11_wants : gMi yX11_wants cX11_wants 2 (some .int) 1 := ⟨mt_X11_wants, mi_X11_wants, gTs_t (tb_5 (List.mem_of_getElem? (i := 91) rfl)) rfl⟩
theorem mt_X11_wantsBy : gMth yX11_wantsBy cX11_wantsBy 9 (some .int) 2 := ⟨gTs_t (tb_5 (List.mem_of_getElem? (i := 96) rfl)) rfl, wI_X11, by decide +kernel, by decide +kernel, by decide +kernel⟩
theorem mi_X11_wantsBy : Cond.instanceMethod yX11_wantsBy ∈ gTs := gTs_t (tb_5 (List.mem_of_getElem? (i := 95) rfl)) rfl
theorem mm_X11_wantsBy : gMi yX11_wantsBy cX11_wantsBy 9 (some .int) 2 := ⟨mt_X11_wantsBy, mi_X11_wantsBy, gTs_p (q := (yX11_wantsBy, 28)) (List.mem_of_getElem? (i := 53) (by decide +kernel)) (by decide +kernel)⟩
theorem mt_X11_is : gMth yX11_is cX11_is 4 (some .int) 1 := ⟨gTs_t (tb_5 (List.mem_of_getElem? (i := 100) rfl)) rfl, wI_X11, by decide +kernel, by decide +kernel, by decide +kernel⟩
theorem mi_X11_is : Cond.instanceMethod yX11_is ∈ gTs := gTs_t (tb_5 (List.mem_of_getElem? (i := 98) rfl)) rfl
theorem mm_X11_is : gMi yX11_is cX11_is 4 (some .int) 1 := ⟨mt_X11_is, mi_X11_is, gTs_t (tb_5 (List.mem_of_getElem? (i := 99) rfl)) rfl⟩
theorem mt_X11_next : gMth yX11_next cX11_next 9 (some .int) 1 := ⟨gTs_t (tb_5 (List.mem_of_getElem? (i := 104) rfl)) rfl, wI_X11, by decide +kernel, by decide +kernel, by decide +kernel⟩
theorem mi_X11_next : Cond.instanceMethod yX11_next ∈ gTs := gTs_t (tb_5 (List.mem_of_getElem? (i := 102) rfl)) rfl
theorem mm_X11_next : gMi yX11_next cX11_next 9 (some .int) 1 := ⟨mt_X11_next, mi_X11_next, gTs_t (tb_5 (List.mem_of_getElem? (i := 103) rfl)) rfl⟩
theorem mt_X11_tips : gMth yX11_tips cX11_tips 4 (some .int) 2 := ⟨gTs_t (tb_5 (List.mem_of_getElem? (i := 108) rfl)) rfl, wI_X11, by decide +kernel, by decide +kernel, by decide +kernel⟩
theorem mi_X11_tips : Cond.instanceMethod yX11_tips ∈ gTs := gTs_t (tb_5 (List.mem_of_getElem? (i := 106) rfl)) rfl
theorem mm_X11_tips : gMi yX11_tips cX11_tips 4 (some .int) 2 := ⟨mt_X11_tips, mi_X11_tips, gTs_t (tb_5 (List.mem_of_getElem? (i := 107) rfl)) rfl⟩
theorem mt_X11_putAside : gMth yX11_putAside cX11_putAside 2 none 0 := ⟨gTs_t (tb_5 (List.mem_of_getElem? (i := 112) rfl)) rfl, wI_X11, by decide +kernel, by decide +kernel, by decide +kernel⟩
theorem mi_X11_putAside : Cond.instanceMethod yX11_putAside ∈ gTs := gTs_t (tb_5 (List.mem_of_getElem? (i := 111) rfl)) rfl
theorem mm_X11_putAside : gMi yX11_putAside cX11_putAside 2 none 0 := ⟨mt_X11_putAside, mi_X11_putAside, gTs_p (q := (yX11_putAside, 28)) (List.mem_of_getElem? (i := 54) (by decide +kernel)) (by decide +kernel)⟩
theorem mt_X11_takeBack : gMth yX11_takeBack cX11_takeBack 2 none 0 := ⟨gTs_t (tb_5 (List.mem_of_getElem? (i := 116) rfl)) rfl, wI_X11, by decide +kernel, by decide +kernel, by decide +kernel⟩
theorem mi_X11_takeBack : Cond.instanceMethod yX11_takeBack ∈ gTs := gTs_t (tb_5 (List.mem_of_getElem? (i := 115) rfl)) rfl
theorem mm_X11_takeBack : gMi yX11_takeBack cX11_takeBack 2 none 0 := ⟨mt_X11_takeBack, mi_X11_takeBack, gTs_p (q := (yX11_takeBack, 28)) (List.mem_of_getElem? (i := 55) (by decide +kernel)) (by decide +kernel)⟩
theorem mt_X11_moods : gMth yX11_moods cX11_moods 12 (some .int) 1 := ⟨gTs_t (tb_5 (List.mem_of_getElem? (i := 120) rfl)) rfl, wI_X11, by decide +kernel, by decide +kernel, by decide +kernel⟩
theorem mi_X11_moods : Cond.instanceMethod yX11_moods ∈ gTs := gTs_t (tb_5 (List.mem_of_getElem? (i := 118) rfl)) rfl
theorem mm_X11_moods : gMi yX11_moods cX11_moods 12 (some .int) 1 := ⟨mt_X11_moods, mi_X11_moods, gTs_t (tb_5 (List.mem_of_getElem? (i := 119) rfl)) rfl⟩
theorem mt_X11_servedMany : gMth yX11_servedMany cX11_servedMany 3 (some .int) 0 := ⟨gTs_t (tb_5 (List.mem_of_getElem? (i := 125) rfl)) rfl, wI_X11, by decide +kernel, by decide +kernel, by decide +kernel⟩
theorem mi_X11_servedMany : Cond.instanceMethod yX11_servedMany ∈ gTs := gTs_t (tb_5 (List.mem_of_getElem? (i := 124) rfl)) rfl
theorem mm_X11_servedMany : gMi yX11_servedMany cX11_servedMany 3 (some .int) 0 := ⟨mt_X11_servedMany, mi_X11_servedMany, gTs_p (q := (yX11_servedMany, 28)) (List.mem_of_getElem? (i := 56) (by decide +kernel)) (by decide +kernel)⟩
theorem mt_X11_hours : gMth yX11_hours cX11_hours 8 (some .int) 2 := ⟨gTs_t (tb_5 (List.mem_of_getElem? (i := 129) rfl)) rfl, wI_X11, by decide +kernel, by decide +kernel, by decide +kernel⟩
theorem mi_X11_hours : Cond.instanceMethod yX11_hours ∈ gTs := gTs_t (tb_5 (List.mem_of_getElem? (i := 127) rfl)) rfl
theorem mm_X11_hours : gMi yX11_hours cX11_hours 8 (some .int) 2 := ⟨mt_X11_hours, mi_X11_hours, gTs_t (tb_5 (List.mem_of_getElem? (i := 128) rfl)) rfl⟩
theorem mt_X11_part : gMth yX11_part cX11_part 2 (some .long) 1 := ⟨gTs_t (tb_5 (List.mem_of_getElem? (i := 139) rfl)) rfl, wI_X11, by decide +kernel, by decide +kernel, by decide +kernel⟩
theorem mi_X11_part : Cond.instanceMethod yX11_part ∈ gTs := gTs_t (tb_5 (List.mem_of_getElem? (i := 137) rfl)) rfl
theorem mm_X11_part : gMi yX11_part cX11_part 2 (some .long) 1 := ⟨mt_X11_part, mi_X11_part, gTs_t (tb_5 (List.mem_of_getElem? (i := 138) rfl)) rfl⟩
theorem mt_X11_image : gMth yX11_image cX11_image 3 (some .int) 1 := ⟨gTs_t (tb_5 (List.mem_of_getElem? (i := 143) rfl)) rfl, wI_X11, by decide +kernel, by decide +kernel, by decide +kernel⟩
theorem mi_X11_image : Cond.instanceMethod yX11_image ∈ gTs := gTs_t (tb_5 (List.mem_of_getElem? (i := 141) rfl)) rfl
theorem mm_X11_image : gMi yX11_image cX11_image 3 (some .int) 1 := ⟨mt_X11_image, mi_X11_image, gTs_t (tb_5 (List.mem_of_getElem? (i := 142) rfl)) rfl⟩
theorem mt_X11_from : gMth yX11_from cX11_from 3 (some .int) 1 := ⟨gTs_t (tb_5 (List.mem_of_getElem? (i := 147) rfl)) rfl, wI_X11, by decide +kernel, by decide +kernel, by decide +kernel⟩
theorem mi_X11_from : Cond.instanceMethod yX11_from ∈ gTs := gTs_t (tb_5 (List.mem_of_getElem? (i := 145) rfl)) rfl
theorem mm_X11_from : gMi yX11_from cX11_from 3 (some .int) 1 := ⟨mt_X11_from, mi_X11_from, gTs_t (tb_5 (List.mem_of_getElem? (i := 146) rfl)) rfl⟩
theorem mt_X11_status : gMth yX11_status cX11_status 2 (some .int) 1 := ⟨gTs_t (tb_5 (List.mem_of_getElem? (i := 151) rfl)) rfl, wI_X11, by decide +kernel, by decide +kernel, by decide +kernel⟩
theorem mi_X11_status : Cond.instanceMethod yX11_status ∈ gTs := gTs_t (tb_5 (List.mem_of_getElem? (i := 149) rfl)) rfl
theorem mm_X11_status : gMi yX11_status cX11_status 2 (some .int) 1 := ⟨mt_X11_status, mi_X11_status, gTs_t (tb_5 (List.mem_of_getElem? (i := 150) rfl)) rfl⟩
theorem mt_X11_count : gMth yX11_count cX11_count 2 (some .int) 1 := ⟨gTs_t (tb_5 (List.mem_of_getElem? (i := 156) rfl)) rfl, wI_X11, by decide +kernel, by decide +kernel, by decide +kernel⟩
theorem mi_X11_count : Cond.instanceMethod yX11_count ∈ gTs := gTs_t (tb_5 (List.mem_of_getElem? (i := 154) rfl)) rfl
theorem mm_X11_count : gMi yX11_count cX11_count 2 (some .int) 1 := ⟨mt_X11_count, mi_X11_count, gTs_t (tb_5 (List.mem_of_getElem? (i := 155) rfl)) rfl⟩
theorem mt_X11_countOf : gMth yX11_countOf cX11_countOf 2 (some .int) 1 := ⟨gTs_t (tb_5 (List.mem_of_getElem? (i := 160) rfl)) rfl, wI_X11, by decide +kernel, by decide +kernel, by decide +kernel⟩
theorem mi_X11_countOf : Cond.instanceMethod yX11_countOf ∈ gTs := gTs_t (tb_5 (List.mem_of_getElem? (i := 159) rfl)) rfl
theorem mm_X11_countOf : gMi yX11_countOf cX11_countOf 2 (some .int) 1 := ⟨mt_X11_countOf, mi_X11_countOf, gTs_p (q := (yX11_countOf, 28)) (List.mem_of_getElem? (i := 57) (by decide +kernel)) (by decide +kernel)⟩
theorem mt_X11_digest : gMth yX11_digest cX11_digest 4 (some .long) 0 := ⟨gTs_t (tb_5 (List.mem_of_getElem? (i := 164) rfl)) rfl, wI_X11, by decide +kernel, by decide +kernel, by decide +kernel⟩
theorem mi_X11_digest : Cond.instanceMethod yX11_digest ∈ gTs := gTs_t (tb_5 (List.mem_of_getElem? (i := 162) rfl)) rfl
theorem mm_X11_digest : gMi yX11_digest cX11_digest 4 (some .long) 0 := ⟨mt_X11_digest, mi_X11_digest, gTs_t (tb_5 (List.mem_of_getElem? (i := 163) rfl)) rfl⟩
theorem in_X0 : ∀ w ∈ u_ws RX0 TX0 0, w ∈ gTs := by decide +kernel
theorem in_X1 : ∀ w ∈ u_ws RX1 TX1 16, w ∈ gTs := by decide +kernel
theorem in_X2 : ∀ w ∈ u_ws RX2 TX2 0, w ∈ gTs := by decide +kernel
theorem in_X3 : ∀ w ∈ u_ws RX3 TX3 2, w ∈ gTs := by decide +kernel
theorem in_X4 : ∀ w ∈ u_ws RX4 TX4 0, w ∈ gTs := by decide +kernel
theorem in_X5 : ∀ w ∈ u_ws RX5 TX5 0, w ∈ gTs := by decide +kernel
theorem in_X6 : ∀ w ∈ u_ws RX6 TX6 0, w ∈ gTs := by decide +kernel
theorem in_X7 : ∀ w ∈ u_ws RX7 TX7 5, w ∈ gTs := by decide +kernel
theorem in_X8 : ∀ w ∈ u_ws RX8 TX8 0, w ∈ gTs := by decide +kernel
theorem in_X9 : ∀ w ∈ u_ws RX9 TX9 6, w ∈ gTs := by decide +kernel
theorem in_X10 : ∀ w ∈ u_ws RX10 TX10 9, w ∈ gTs := by decide +kernel
theorem in_X11 : ∀ w ∈ u_ws RX11 TX11 28, w ∈ gTs := by decide +kernel
theorem wcopy : Cond.native arraycopyName ∈ gTs ∧ Cond.static arraycopyName ∈ gTs ∧ Cond.initialized "java/lang/System" ∈ gTs := ⟨gTs_t (tb_2 (List.mem_of_getElem? (i := 43) rfl)) rfl, gTs_t (tb_2 (List.mem_of_getElem? (i := 42) rfl)) rfl, wI_J10⟩
