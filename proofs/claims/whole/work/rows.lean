section
-- ===== PART A: goes FIRST, ahead of the names: the tables' words, and 'selects' of the private methods out of them =====
/-- a private method of a class that the tables say can be made, by its rows of tables_1 -/
def lw_okq (q : MethodName × Nat) : Prop := (q.1.cls ≠ "java/lang/invoke/MethodHandle" ∧ q.1.cls ≠ "java/lang/invoke/VarHandle") ∧ Cond.instantiable q.1.cls q.2 ∈ tables_1 ∧ Cond.privateMethod q.1 ∈ tables_1 ∧ Cond.instanceMethod q.1 ∈ tables_1
theorem lw_p0 : lw_okq (⟨"GuestStaff", "refuseBad", "(I)I"⟩, 9) := ⟨⟨by decide +kernel, by decide +kernel⟩, List.mem_of_getElem? (i := 21) (by decide +kernel), List.mem_of_getElem? (i := 255) (by decide +kernel), List.mem_of_getElem? (i := 256) (by decide +kernel)⟩
theorem lw_p1 : lw_okq (⟨"GuestStaff", "refuseFull", "()I"⟩, 9) := ⟨⟨by decide +kernel, by decide +kernel⟩, List.mem_of_getElem? (i := 21) (by decide +kernel), List.mem_of_getElem? (i := 259) (by decide +kernel), List.mem_of_getElem? (i := 260) (by decide +kernel)⟩
theorem lw_p2 : lw_okq (⟨"GuestStaff$Text", "step", "()V"⟩, 6) := ⟨⟨by decide +kernel, by decide +kernel⟩, List.mem_of_getElem? (i := 29) (by decide +kernel), List.mem_of_getElem? (i := 309) (by decide +kernel), List.mem_of_getElem? (i := 310) (by decide +kernel)⟩
theorem lw_p3 : lw_okq (⟨"GuestStaff$Text", "endOfRun", "(III)I"⟩, 6) := ⟨⟨by decide +kernel, by decide +kernel⟩, List.mem_of_getElem? (i := 29) (by decide +kernel), List.mem_of_getElem? (i := 313) (by decide +kernel), List.mem_of_getElem? (i := 314) (by decide +kernel)⟩
theorem lw_p4 : lw_okq (⟨"GuestStaff$Text", "numberHere", "()I"⟩, 6) := ⟨⟨by decide +kernel, by decide +kernel⟩, List.mem_of_getElem? (i := 29) (by decide +kernel), List.mem_of_getElem? (i := 317) (by decide +kernel), List.mem_of_getElem? (i := 318) (by decide +kernel)⟩
theorem lw_p5 : lw_okq (⟨"GuestStaff$Text", "signHere", "()I"⟩, 6) := ⟨⟨by decide +kernel, by decide +kernel⟩, List.mem_of_getElem? (i := 29) (by decide +kernel), List.mem_of_getElem? (i := 321) (by decide +kernel), List.mem_of_getElem? (i := 322) (by decide +kernel)⟩
theorem lw_p6 : lw_okq (⟨"GuestStaff$Text", "isWord", "(Ljava/lang/String;)Z"⟩, 6) := ⟨⟨by decide +kernel, by decide +kernel⟩, List.mem_of_getElem? (i := 29) (by decide +kernel), List.mem_of_getElem? (i := 327) (by decide +kernel), List.mem_of_getElem? (i := 328) (by decide +kernel)⟩
theorem lw_p7 : lw_okq (⟨"GuestStaff$Text", "stepToStop", "()Z"⟩, 6) := ⟨⟨by decide +kernel, by decide +kernel⟩, List.mem_of_getElem? (i := 29) (by decide +kernel), List.mem_of_getElem? (i := 379) (by decide +kernel), List.mem_of_getElem? (i := 380) (by decide +kernel)⟩
theorem lw_p8 : lw_okq (⟨"GuestStaff$Text", "parseItem", "(LGuestStaff$House;)Z"⟩, 6) := ⟨⟨by decide +kernel, by decide +kernel⟩, List.mem_of_getElem? (i := 29) (by decide +kernel), List.mem_of_getElem? (i := 383) (by decide +kernel), List.mem_of_getElem? (i := 384) (by decide +kernel)⟩
theorem lw_p9 : lw_okq (⟨"GuestStaff$Text", "parseGuest", "(LGuestStaff$House;)Z"⟩, 6) := ⟨⟨by decide +kernel, by decide +kernel⟩, List.mem_of_getElem? (i := 29) (by decide +kernel), List.mem_of_getElem? (i := 388) (by decide +kernel), List.mem_of_getElem? (i := 389) (by decide +kernel)⟩
theorem lw_p10 : lw_okq (⟨"GuestStaff$Text", "stepToNumber", "(I)Z"⟩, 6) := ⟨⟨by decide +kernel, by decide +kernel⟩, List.mem_of_getElem? (i := 29) (by decide +kernel), List.mem_of_getElem? (i := 392) (by decide +kernel), List.mem_of_getElem? (i := 393) (by decide +kernel)⟩
theorem lw_p11 : lw_okq (⟨"GuestStaff$Text", "isNumber", "(I)Z"⟩, 6) := ⟨⟨by decide +kernel, by decide +kernel⟩, List.mem_of_getElem? (i := 29) (by decide +kernel), List.mem_of_getElem? (i := 396) (by decide +kernel), List.mem_of_getElem? (i := 397) (by decide +kernel)⟩
theorem lw_p12 : lw_okq (⟨"GuestStaff$Text", "parseDuty", "(LGuestStaff$House;)Z"⟩, 6) := ⟨⟨by decide +kernel, by decide +kernel⟩, List.mem_of_getElem? (i := 29) (by decide +kernel), List.mem_of_getElem? (i := 402) (by decide +kernel), List.mem_of_getElem? (i := 403) (by decide +kernel)⟩
theorem lw_p13 : lw_okq (⟨"GuestStaff$House", "doesServe", "(II)Z"⟩, 16) := ⟨⟨by decide +kernel, by decide +kernel⟩, List.mem_of_getElem? (i := 125) (by decide +kernel), List.mem_of_getElem? (i := 432) (by decide +kernel), List.mem_of_getElem? (i := 433) (by decide +kernel)⟩
theorem lw_p14 : lw_okq (⟨"GuestStaff", "refuseNo", "()I"⟩, 9) := ⟨⟨by decide +kernel, by decide +kernel⟩, List.mem_of_getElem? (i := 21) (by decide +kernel), List.mem_of_getElem? (i := 473) (by decide +kernel), List.mem_of_getElem? (i := 474) (by decide +kernel)⟩
theorem lw_p15 : lw_okq (⟨"GuestStaff$Rows", "isOpen", "(II)Z"⟩, 5) := ⟨⟨by decide +kernel, by decide +kernel⟩, List.mem_of_getElem? (i := 58) (by decide +kernel), List.mem_of_getElem? (i := 537) (by decide +kernel), List.mem_of_getElem? (i := 538) (by decide +kernel)⟩
def lw_privs_1 : List (MethodName × Nat) := [(⟨"GuestStaff", "refuseBad", "(I)I"⟩, 9), (⟨"GuestStaff", "refuseFull", "()I"⟩, 9), (⟨"GuestStaff$Text", "step", "()V"⟩, 6), (⟨"GuestStaff$Text", "endOfRun", "(III)I"⟩, 6), (⟨"GuestStaff$Text", "numberHere", "()I"⟩, 6), (⟨"GuestStaff$Text", "signHere", "()I"⟩, 6), (⟨"GuestStaff$Text", "isWord", "(Ljava/lang/String;)Z"⟩, 6), (⟨"GuestStaff$Text", "stepToStop", "()Z"⟩, 6), (⟨"GuestStaff$Text", "parseItem", "(LGuestStaff$House;)Z"⟩, 6), (⟨"GuestStaff$Text", "parseGuest", "(LGuestStaff$House;)Z"⟩, 6), (⟨"GuestStaff$Text", "stepToNumber", "(I)Z"⟩, 6), (⟨"GuestStaff$Text", "isNumber", "(I)Z"⟩, 6), (⟨"GuestStaff$Text", "parseDuty", "(LGuestStaff$House;)Z"⟩, 6), (⟨"GuestStaff$House", "doesServe", "(II)Z"⟩, 16), (⟨"GuestStaff", "refuseNo", "()I"⟩, 9), (⟨"GuestStaff$Rows", "isOpen", "(II)Z"⟩, 5)]
theorem lw_r1 : ∀ q ∈ lw_privs_1, lw_okq q := List.forall_mem_cons.mpr ⟨lw_p0, List.forall_mem_cons.mpr ⟨lw_p1, List.forall_mem_cons.mpr ⟨lw_p2, List.forall_mem_cons.mpr ⟨lw_p3, List.forall_mem_cons.mpr ⟨lw_p4, List.forall_mem_cons.mpr ⟨lw_p5, List.forall_mem_cons.mpr ⟨lw_p6, List.forall_mem_cons.mpr ⟨lw_p7, List.forall_mem_cons.mpr ⟨lw_p8, List.forall_mem_cons.mpr ⟨lw_p9, List.forall_mem_cons.mpr ⟨lw_p10, List.forall_mem_cons.mpr ⟨lw_p11, List.forall_mem_cons.mpr ⟨lw_p12, List.forall_mem_cons.mpr ⟨lw_p13, List.forall_mem_cons.mpr ⟨lw_p14, List.forall_mem_cons.mpr ⟨lw_p15, fun _ h => absurd h List.not_mem_nil⟩⟩⟩⟩⟩⟩⟩⟩⟩⟩⟩⟩⟩⟩⟩⟩
theorem lw_p16 : lw_okq (⟨"GuestStaff$Rows", "costThrough", "(II)I"⟩, 5) := ⟨⟨by decide +kernel, by decide +kernel⟩, List.mem_of_getElem? (i := 58) (by decide +kernel), List.mem_of_getElem? (i := 556) (by decide +kernel), List.mem_of_getElem? (i := 557) (by decide +kernel)⟩
theorem lw_p17 : lw_okq (⟨"GuestStaff$Rows", "firstBest", "(I)I"⟩, 5) := ⟨⟨by decide +kernel, by decide +kernel⟩, List.mem_of_getElem? (i := 58) (by decide +kernel), List.mem_of_getElem? (i := 561) (by decide +kernel), List.mem_of_getElem? (i := 562) (by decide +kernel)⟩
theorem lw_p18 : lw_okq (⟨"GuestStaff", "closes", "(LGuestStaff$House;I)Z"⟩, 9) := ⟨⟨by decide +kernel, by decide +kernel⟩, List.mem_of_getElem? (i := 21) (by decide +kernel), List.mem_of_getElem? (i := 596) (by decide +kernel), List.mem_of_getElem? (i := 597) (by decide +kernel)⟩
theorem lw_p19 : lw_okq (⟨"GuestStaff$House", "wouldRather", "(III)Z"⟩, 16) := ⟨⟨by decide +kernel, by decide +kernel⟩, List.mem_of_getElem? (i := 125) (by decide +kernel), List.mem_of_getElem? (i := 608) (by decide +kernel), List.mem_of_getElem? (i := 609) (by decide +kernel)⟩
theorem lw_p20 : lw_okq (⟨"GuestStaff$Notes", "allFit", "(ILGuestStaff$Plain;I)Z"⟩, 2) := ⟨⟨by decide +kernel, by decide +kernel⟩, List.mem_of_getElem? (i := 131) (by decide +kernel), List.mem_of_getElem? (i := 640) (by decide +kernel), List.mem_of_getElem? (i := 641) (by decide +kernel)⟩
theorem lw_p21 : lw_okq (⟨"GuestStaff", "keepFraction", "(II)V"⟩, 9) := ⟨⟨by decide +kernel, by decide +kernel⟩, List.mem_of_getElem? (i := 21) (by decide +kernel), List.mem_of_getElem? (i := 671) (by decide +kernel), List.mem_of_getElem? (i := 672) (by decide +kernel)⟩
theorem lw_p22 : lw_okq (⟨"GuestStaff", "countOf", "(I)I"⟩, 9) := ⟨⟨by decide +kernel, by decide +kernel⟩, List.mem_of_getElem? (i := 21) (by decide +kernel), List.mem_of_getElem? (i := 704) (by decide +kernel), List.mem_of_getElem? (i := 705) (by decide +kernel)⟩
theorem lw_p23 : lw_okq (⟨"GuestStaffModel", "anew", "()V"⟩, 28) := ⟨⟨by decide +kernel, by decide +kernel⟩, List.mem_of_getElem? (i := 728) (by decide +kernel), List.mem_of_getElem? (i := 823) (by decide +kernel), List.mem_of_getElem? (i := 824) (by decide +kernel)⟩
theorem lw_p24 : lw_okq (⟨"GuestStaffModel", "bad", "()I"⟩, 28) := ⟨⟨by decide +kernel, by decide +kernel⟩, List.mem_of_getElem? (i := 728) (by decide +kernel), List.mem_of_getElem? (i := 837) (by decide +kernel), List.mem_of_getElem? (i := 838) (by decide +kernel)⟩
theorem lw_p25 : lw_okq (⟨"GuestStaffModel", "full", "()I"⟩, 28) := ⟨⟨by decide +kernel, by decide +kernel⟩, List.mem_of_getElem? (i := 728) (by decide +kernel), List.mem_of_getElem? (i := 841) (by decide +kernel), List.mem_of_getElem? (i := 842) (by decide +kernel)⟩
theorem lw_p26 : lw_okq (⟨"GuestStaffModel", "add", "(III)V"⟩, 28) := ⟨⟨by decide +kernel, by decide +kernel⟩, List.mem_of_getElem? (i := 728) (by decide +kernel), List.mem_of_getElem? (i := 845) (by decide +kernel), List.mem_of_getElem? (i := 846) (by decide +kernel)⟩
theorem lw_p27 : lw_okq (⟨"GuestStaffModel", "isGuest", "(I)Z"⟩, 28) := ⟨⟨by decide +kernel, by decide +kernel⟩, List.mem_of_getElem? (i := 728) (by decide +kernel), List.mem_of_getElem? (i := 853) (by decide +kernel), List.mem_of_getElem? (i := 854) (by decide +kernel)⟩
theorem lw_p28 : lw_okq (⟨"GuestStaffModel", "badFar", "()I"⟩, 28) := ⟨⟨by decide +kernel, by decide +kernel⟩, List.mem_of_getElem? (i := 728) (by decide +kernel), List.mem_of_getElem? (i := 857) (by decide +kernel), List.mem_of_getElem? (i := 858) (by decide +kernel)⟩
theorem lw_p29 : lw_okq (⟨"GuestStaffModel", "noteStep", "()V"⟩, 28) := ⟨⟨by decide +kernel, by decide +kernel⟩, List.mem_of_getElem? (i := 728) (by decide +kernel), List.mem_of_getElem? (i := 861) (by decide +kernel), List.mem_of_getElem? (i := 862) (by decide +kernel)⟩
theorem lw_p30 : lw_okq (⟨"GuestStaffModel", "readText", "(Z)I"⟩, 28) := ⟨⟨by decide +kernel, by decide +kernel⟩, List.mem_of_getElem? (i := 728) (by decide +kernel), List.mem_of_getElem? (i := 878) (by decide +kernel), List.mem_of_getElem? (i := 879) (by decide +kernel)⟩
theorem lw_p31 : lw_okq (⟨"GuestStaffModel", "nextToken", "()V"⟩, 28) := ⟨⟨by decide +kernel, by decide +kernel⟩, List.mem_of_getElem? (i := 728) (by decide +kernel), List.mem_of_getElem? (i := 882) (by decide +kernel), List.mem_of_getElem? (i := 883) (by decide +kernel)⟩
def lw_privs_2 : List (MethodName × Nat) := [(⟨"GuestStaff$Rows", "costThrough", "(II)I"⟩, 5), (⟨"GuestStaff$Rows", "firstBest", "(I)I"⟩, 5), (⟨"GuestStaff", "closes", "(LGuestStaff$House;I)Z"⟩, 9), (⟨"GuestStaff$House", "wouldRather", "(III)Z"⟩, 16), (⟨"GuestStaff$Notes", "allFit", "(ILGuestStaff$Plain;I)Z"⟩, 2), (⟨"GuestStaff", "keepFraction", "(II)V"⟩, 9), (⟨"GuestStaff", "countOf", "(I)I"⟩, 9), (⟨"GuestStaffModel", "anew", "()V"⟩, 28), (⟨"GuestStaffModel", "bad", "()I"⟩, 28), (⟨"GuestStaffModel", "full", "()I"⟩, 28), (⟨"GuestStaffModel", "add", "(III)V"⟩, 28), (⟨"GuestStaffModel", "isGuest", "(I)Z"⟩, 28), (⟨"GuestStaffModel", "badFar", "()I"⟩, 28), (⟨"GuestStaffModel", "noteStep", "()V"⟩, 28), (⟨"GuestStaffModel", "readText", "(Z)I"⟩, 28), (⟨"GuestStaffModel", "nextToken", "()V"⟩, 28)]
theorem lw_r2 : ∀ q ∈ lw_privs_2, lw_okq q := List.forall_mem_cons.mpr ⟨lw_p16, List.forall_mem_cons.mpr ⟨lw_p17, List.forall_mem_cons.mpr ⟨lw_p18, List.forall_mem_cons.mpr ⟨lw_p19, List.forall_mem_cons.mpr ⟨lw_p20, List.forall_mem_cons.mpr ⟨lw_p21, List.forall_mem_cons.mpr ⟨lw_p22, List.forall_mem_cons.mpr ⟨lw_p23, List.forall_mem_cons.mpr ⟨lw_p24, List.forall_mem_cons.mpr ⟨lw_p25, List.forall_mem_cons.mpr ⟨lw_p26, List.forall_mem_cons.mpr ⟨lw_p27, List.forall_mem_cons.mpr ⟨lw_p28, List.forall_mem_cons.mpr ⟨lw_p29, List.forall_mem_cons.mpr ⟨lw_p30, List.forall_mem_cons.mpr ⟨lw_p31, fun _ h => absurd h List.not_mem_nil⟩⟩⟩⟩⟩⟩⟩⟩⟩⟩⟩⟩⟩⟩⟩⟩
theorem lw_p32 : lw_okq (⟨"GuestStaffModel", "byteAt", "(I)I"⟩, 28) := ⟨⟨by decide +kernel, by decide +kernel⟩, List.mem_of_getElem? (i := 728) (by decide +kernel), List.mem_of_getElem? (i := 886) (by decide +kernel), List.mem_of_getElem? (i := 887) (by decide +kernel)⟩
theorem lw_p33 : lw_okq (⟨"GuestStaffModel", "readItem", "(IZ)Z"⟩, 28) := ⟨⟨by decide +kernel, by decide +kernel⟩, List.mem_of_getElem? (i := 728) (by decide +kernel), List.mem_of_getElem? (i := 894) (by decide +kernel), List.mem_of_getElem? (i := 895) (by decide +kernel)⟩
theorem lw_p34 : lw_okq (⟨"GuestStaffModel", "isWord", "(IIIII)Z"⟩, 28) := ⟨⟨by decide +kernel, by decide +kernel⟩, List.mem_of_getElem? (i := 728) (by decide +kernel), List.mem_of_getElem? (i := 898) (by decide +kernel), List.mem_of_getElem? (i := 899) (by decide +kernel)⟩
theorem lw_p35 : lw_okq (⟨"GuestStaffModel", "reads", "(II)Z"⟩, 28) := ⟨⟨by decide +kernel, by decide +kernel⟩, List.mem_of_getElem? (i := 728) (by decide +kernel), List.mem_of_getElem? (i := 902) (by decide +kernel), List.mem_of_getElem? (i := 903) (by decide +kernel)⟩
theorem lw_p36 : lw_okq (⟨"GuestStaffModel", "readServices", "()Z"⟩, 28) := ⟨⟨by decide +kernel, by decide +kernel⟩, List.mem_of_getElem? (i := 728) (by decide +kernel), List.mem_of_getElem? (i := 906) (by decide +kernel), List.mem_of_getElem? (i := 907) (by decide +kernel)⟩
theorem lw_p37 : lw_okq (⟨"GuestStaffModel", "oneHour", "()V"⟩, 28) := ⟨⟨by decide +kernel, by decide +kernel⟩, List.mem_of_getElem? (i := 728) (by decide +kernel), List.mem_of_getElem? (i := 915) (by decide +kernel), List.mem_of_getElem? (i := 916) (by decide +kernel)⟩
theorem lw_p38 : lw_okq (⟨"GuestStaffModel", "serverOf", "(I)I"⟩, 28) := ⟨⟨by decide +kernel, by decide +kernel⟩, List.mem_of_getElem? (i := 728) (by decide +kernel), List.mem_of_getElem? (i := 919) (by decide +kernel), List.mem_of_getElem? (i := 920) (by decide +kernel)⟩
theorem lw_p39 : lw_okq (⟨"GuestStaffModel", "canServe", "(II)Z"⟩, 28) := ⟨⟨by decide +kernel, by decide +kernel⟩, List.mem_of_getElem? (i := 728) (by decide +kernel), List.mem_of_getElem? (i := 923) (by decide +kernel), List.mem_of_getElem? (i := 924) (by decide +kernel)⟩
theorem lw_p40 : lw_okq (⟨"GuestStaffModel", "contentOf", "(II)I"⟩, 28) := ⟨⟨by decide +kernel, by decide +kernel⟩, List.mem_of_getElem? (i := 728) (by decide +kernel), List.mem_of_getElem? (i := 930) (by decide +kernel), List.mem_of_getElem? (i := 931) (by decide +kernel)⟩
theorem lw_p41 : lw_okq (⟨"GuestStaffModel", "no", "()I"⟩, 28) := ⟨⟨by decide +kernel, by decide +kernel⟩, List.mem_of_getElem? (i := 728) (by decide +kernel), List.mem_of_getElem? (i := 941) (by decide +kernel), List.mem_of_getElem? (i := 942) (by decide +kernel)⟩
theorem lw_p42 : lw_okq (⟨"GuestStaffModel", "workBy", "(II)I"⟩, 28) := ⟨⟨by decide +kernel, by decide +kernel⟩, List.mem_of_getElem? (i := 728) (by decide +kernel), List.mem_of_getElem? (i := 958) (by decide +kernel), List.mem_of_getElem? (i := 959) (by decide +kernel)⟩
theorem lw_p43 : lw_okq (⟨"GuestStaffModel", "isOne", "(I)Z"⟩, 28) := ⟨⟨by decide +kernel, by decide +kernel⟩, List.mem_of_getElem? (i := 728) (by decide +kernel), List.mem_of_getElem? (i := 966) (by decide +kernel), List.mem_of_getElem? (i := 967) (by decide +kernel)⟩
theorem lw_p44 : lw_okq (⟨"GuestStaffModel", "findRows", "()V"⟩, 28) := ⟨⟨by decide +kernel, by decide +kernel⟩, List.mem_of_getElem? (i := 728) (by decide +kernel), List.mem_of_getElem? (i := 970) (by decide +kernel), List.mem_of_getElem? (i := 971) (by decide +kernel)⟩
theorem lw_p45 : lw_okq (⟨"GuestStaffModel", "everybody", "()I"⟩, 28) := ⟨⟨by decide +kernel, by decide +kernel⟩, List.mem_of_getElem? (i := 728) (by decide +kernel), List.mem_of_getElem? (i := 974) (by decide +kernel), List.mem_of_getElem? (i := 975) (by decide +kernel)⟩
theorem lw_p46 : lw_okq (⟨"GuestStaffModel", "takeSet", "(I)V"⟩, 28) := ⟨⟨by decide +kernel, by decide +kernel⟩, List.mem_of_getElem? (i := 728) (by decide +kernel), List.mem_of_getElem? (i := 978) (by decide +kernel), List.mem_of_getElem? (i := 979) (by decide +kernel)⟩
theorem lw_p47 : lw_okq (⟨"GuestStaffModel", "isRow", "(I)Z"⟩, 28) := ⟨⟨by decide +kernel, by decide +kernel⟩, List.mem_of_getElem? (i := 728) (by decide +kernel), List.mem_of_getElem? (i := 985) (by decide +kernel), List.mem_of_getElem? (i := 986) (by decide +kernel)⟩
def lw_privs_3 : List (MethodName × Nat) := [(⟨"GuestStaffModel", "byteAt", "(I)I"⟩, 28), (⟨"GuestStaffModel", "readItem", "(IZ)Z"⟩, 28), (⟨"GuestStaffModel", "isWord", "(IIIII)Z"⟩, 28), (⟨"GuestStaffModel", "reads", "(II)Z"⟩, 28), (⟨"GuestStaffModel", "readServices", "()Z"⟩, 28), (⟨"GuestStaffModel", "oneHour", "()V"⟩, 28), (⟨"GuestStaffModel", "serverOf", "(I)I"⟩, 28), (⟨"GuestStaffModel", "canServe", "(II)Z"⟩, 28), (⟨"GuestStaffModel", "contentOf", "(II)I"⟩, 28), (⟨"GuestStaffModel", "no", "()I"⟩, 28), (⟨"GuestStaffModel", "workBy", "(II)I"⟩, 28), (⟨"GuestStaffModel", "isOne", "(I)Z"⟩, 28), (⟨"GuestStaffModel", "findRows", "()V"⟩, 28), (⟨"GuestStaffModel", "everybody", "()I"⟩, 28), (⟨"GuestStaffModel", "takeSet", "(I)V"⟩, 28), (⟨"GuestStaffModel", "isRow", "(I)Z"⟩, 28)]
theorem lw_r3 : ∀ q ∈ lw_privs_3, lw_okq q := List.forall_mem_cons.mpr ⟨lw_p32, List.forall_mem_cons.mpr ⟨lw_p33, List.forall_mem_cons.mpr ⟨lw_p34, List.forall_mem_cons.mpr ⟨lw_p35, List.forall_mem_cons.mpr ⟨lw_p36, List.forall_mem_cons.mpr ⟨lw_p37, List.forall_mem_cons.mpr ⟨lw_p38, List.forall_mem_cons.mpr ⟨lw_p39, List.forall_mem_cons.mpr ⟨lw_p40, List.forall_mem_cons.mpr ⟨lw_p41, List.forall_mem_cons.mpr ⟨lw_p42, List.forall_mem_cons.mpr ⟨lw_p43, List.forall_mem_cons.mpr ⟨lw_p44, List.forall_mem_cons.mpr ⟨lw_p45, List.forall_mem_cons.mpr ⟨lw_p46, List.forall_mem_cons.mpr ⟨lw_p47, fun _ h => absurd h List.not_mem_nil⟩⟩⟩⟩⟩⟩⟩⟩⟩⟩⟩⟩⟩⟩⟩⟩
theorem lw_p48 : lw_okq (⟨"GuestStaffModel", "rowWork", "()I"⟩, 28) := ⟨⟨by decide +kernel, by decide +kernel⟩, List.mem_of_getElem? (i := 728) (by decide +kernel), List.mem_of_getElem? (i := 989) (by decide +kernel), List.mem_of_getElem? (i := 990) (by decide +kernel)⟩
theorem lw_p49 : lw_okq (⟨"GuestStaffModel", "rowContent", "()I"⟩, 28) := ⟨⟨by decide +kernel, by decide +kernel⟩, List.mem_of_getElem? (i := 728) (by decide +kernel), List.mem_of_getElem? (i := 993) (by decide +kernel), List.mem_of_getElem? (i := 994) (by decide +kernel)⟩
theorem lw_p50 : lw_okq (⟨"GuestStaffModel", "ringOf", "(I)I"⟩, 28) := ⟨⟨by decide +kernel, by decide +kernel⟩, List.mem_of_getElem? (i := 728) (by decide +kernel), List.mem_of_getElem? (i := 1013) (by decide +kernel), List.mem_of_getElem? (i := 1014) (by decide +kernel)⟩
theorem lw_p51 : lw_okq (⟨"GuestStaffModel", "closes", "(I)Z"⟩, 28) := ⟨⟨by decide +kernel, by decide +kernel⟩, List.mem_of_getElem? (i := 728) (by decide +kernel), List.mem_of_getElem? (i := 1024) (by decide +kernel), List.mem_of_getElem? (i := 1025) (by decide +kernel)⟩
theorem lw_p52 : lw_okq (⟨"GuestStaffModel", "gains", "(II)Z"⟩, 28) := ⟨⟨by decide +kernel, by decide +kernel⟩, List.mem_of_getElem? (i := 728) (by decide +kernel), List.mem_of_getElem? (i := 1032) (by decide +kernel), List.mem_of_getElem? (i := 1033) (by decide +kernel)⟩
theorem lw_p53 : lw_okq (⟨"GuestStaffModel", "wantsBy", "(II)I"⟩, 28) := ⟨⟨by decide +kernel, by decide +kernel⟩, List.mem_of_getElem? (i := 728) (by decide +kernel), List.mem_of_getElem? (i := 1054) (by decide +kernel), List.mem_of_getElem? (i := 1055) (by decide +kernel)⟩
theorem lw_p54 : lw_okq (⟨"GuestStaffModel", "putAside", "()V"⟩, 28) := ⟨⟨by decide +kernel, by decide +kernel⟩, List.mem_of_getElem? (i := 728) (by decide +kernel), List.mem_of_getElem? (i := 1070) (by decide +kernel), List.mem_of_getElem? (i := 1071) (by decide +kernel)⟩
theorem lw_p55 : lw_okq (⟨"GuestStaffModel", "takeBack", "()V"⟩, 28) := ⟨⟨by decide +kernel, by decide +kernel⟩, List.mem_of_getElem? (i := 728) (by decide +kernel), List.mem_of_getElem? (i := 1074) (by decide +kernel), List.mem_of_getElem? (i := 1075) (by decide +kernel)⟩
theorem lw_p56 : lw_okq (⟨"GuestStaffModel", "servedMany", "()I"⟩, 28) := ⟨⟨by decide +kernel, by decide +kernel⟩, List.mem_of_getElem? (i := 728) (by decide +kernel), List.mem_of_getElem? (i := 1083) (by decide +kernel), List.mem_of_getElem? (i := 1084) (by decide +kernel)⟩
theorem lw_p57 : lw_okq (⟨"GuestStaffModel", "countOf", "(I)I"⟩, 28) := ⟨⟨by decide +kernel, by decide +kernel⟩, List.mem_of_getElem? (i := 728) (by decide +kernel), List.mem_of_getElem? (i := 1118) (by decide +kernel), List.mem_of_getElem? (i := 1119) (by decide +kernel)⟩
def lw_privs_4 : List (MethodName × Nat) := [(⟨"GuestStaffModel", "rowWork", "()I"⟩, 28), (⟨"GuestStaffModel", "rowContent", "()I"⟩, 28), (⟨"GuestStaffModel", "ringOf", "(I)I"⟩, 28), (⟨"GuestStaffModel", "closes", "(I)Z"⟩, 28), (⟨"GuestStaffModel", "gains", "(II)Z"⟩, 28), (⟨"GuestStaffModel", "wantsBy", "(II)I"⟩, 28), (⟨"GuestStaffModel", "putAside", "()V"⟩, 28), (⟨"GuestStaffModel", "takeBack", "()V"⟩, 28), (⟨"GuestStaffModel", "servedMany", "()I"⟩, 28), (⟨"GuestStaffModel", "countOf", "(I)I"⟩, 28)]
theorem lw_r4 : ∀ q ∈ lw_privs_4, lw_okq q := List.forall_mem_cons.mpr ⟨lw_p48, List.forall_mem_cons.mpr ⟨lw_p49, List.forall_mem_cons.mpr ⟨lw_p50, List.forall_mem_cons.mpr ⟨lw_p51, List.forall_mem_cons.mpr ⟨lw_p52, List.forall_mem_cons.mpr ⟨lw_p53, List.forall_mem_cons.mpr ⟨lw_p54, List.forall_mem_cons.mpr ⟨lw_p55, List.forall_mem_cons.mpr ⟨lw_p56, List.forall_mem_cons.mpr ⟨lw_p57, fun _ h => absurd h List.not_mem_nil⟩⟩⟩⟩⟩⟩⟩⟩⟩⟩
def lw_privs : List (MethodName × Nat) := lw_privs_1 ++ (lw_privs_2 ++ (lw_privs_3 ++ (lw_privs_4)))
def lw_tbl : List Cond := k2_sels lw_privs ++ tables_1
theorem lw_privs_ok : ∀ q ∈ lw_privs, lw_okq q := by
  show ∀ q ∈ lw_privs_1 ++ (lw_privs_2 ++ (lw_privs_3 ++ (lw_privs_4))), lw_okq q
  exact List.forall_mem_append.mpr ⟨lw_r1, List.forall_mem_append.mpr ⟨lw_r2, List.forall_mem_append.mpr ⟨lw_r3, lw_r4⟩⟩⟩
end
section
def RX0 : String := "GuestStaff$Banker"
def TX0 : u_T := fun k => match k with
  | _ => ("", "", "", false)
def tyX0 : Nat → FieldType := fun k => match k with
  | _ => .int
abbrev wsX00 : List Cond := u_ws RX0 TX0 0
theorem nmX0 : ∀ a, a < 0 → ∀ b, b < 0 → a ≠ b → (TX0 a).2.1 ≠ (TX0 b).2.1 := by decide +kernel
theorem tyX0_ok : ∀ k, k < 0 → parseFieldDescriptor (TX0 k).2.2.1 = some (tyX0 k) := by decide +kernel
abbrev cX0_init : ByteArray := prog_2_method_1_code
def yX0_init : MethodName := ⟨RX0, "<init>", "()V"⟩
abbrev cX0_contentBy : ByteArray := prog_2_method_2_code
def yX0_contentBy : MethodName := ⟨RX0, "contentBy", "(II)I"⟩
abbrev cX0_workOn : ByteArray := prog_2_method_3_code
def yX0_workOn : MethodName := ⟨RX0, "workOn", "(I)I"⟩
def RX1 : String := "GuestStaff$House"
def TX1 : u_T := fun k => match k with
  | 0 => ("GuestStaff$House", "kinds", "[LGuestStaff$Plain;", true)
  | 1 => ("GuestStaff$House", "kind", "[I", true)
  | 2 => ("GuestStaff$House", "want", "[I", true)
  | 3 => ("GuestStaff$House", "can", "[I", true)
  | 4 => ("GuestStaff$House", "duty", "[I", true)
  | 5 => ("GuestStaff$House", "tips", "[I", true)
  | 6 => ("GuestStaff$House", "notes", "LGuestStaff$Notes;", true)
  | 7 => ("GuestStaff$House", "pastDuty", "[[I", true)
  | 8 => ("GuestStaff$House", "pastTips", "[[I", true)
  | 9 => ("GuestStaff$House", "pastMood", "[I", true)
  | 10 => ("GuestStaff$House", "pastHour", "[I", true)
  | 11 => ("GuestStaff$House", "slot", "I", false)
  | 12 => ("GuestStaff$House", "undoable", "I", false)
  | 13 => ("GuestStaff$House", "guests", "I", false)
  | 14 => ("GuestStaff$House", "hour", "I", false)
  | _ => ("GuestStaff$House", "mood", "I", false)
def tyX1 : Nat → FieldType := fun k => match k with
  | 0 => .array (.object "GuestStaff$Plain")
  | 1 => .array .int
  | 2 => .array .int
  | 3 => .array .int
  | 4 => .array .int
  | 5 => .array .int
  | 6 => .object "GuestStaff$Notes"
  | 7 => .array (.array .int)
  | 8 => .array (.array .int)
  | 9 => .array .int
  | 10 => .array .int
  | 11 => .int
  | 12 => .int
  | 13 => .int
  | 14 => .int
  | _ => .int
abbrev wsX10 : List Cond := u_ws RX1 TX1 16
theorem nmX1 : ∀ a, a < 16 → ∀ b, b < 16 → a ≠ b → (TX1 a).2.1 ≠ (TX1 b).2.1 := by decide +kernel
theorem tyX1_ok : ∀ k, k < 16 → parseFieldDescriptor (TX1 k).2.2.1 = some (tyX1 k) := by decide +kernel
abbrev cX1_init : ByteArray := prog_3_method_1_code
def yX1_init : MethodName := ⟨RX1, "<init>", "([LGuestStaff$Plain;)V"⟩
abbrev cX1_empty : ByteArray := prog_3_method_2_code
def yX1_empty : MethodName := ⟨RX1, "empty", "()V"⟩
abbrev cX1_copy : ByteArray := prog_3_method_3_code
def yX1_copy : MethodName := ⟨RX1, "copy", "(LGuestStaff$House;)V"⟩
abbrev cX1_copyRow : ByteArray := prog_3_method_4_code
def yX1_copyRow : MethodName := ⟨RX1, "copyRow", "([I[I)V"⟩
abbrev cX1_isGuest : ByteArray := prog_3_method_5_code
def yX1_isGuest : MethodName := ⟨RX1, "isGuest", "(I)Z"⟩
abbrev cX1_admit : ByteArray := prog_3_method_6_code
def yX1_admit : MethodName := ⟨RX1, "admit", "(III)I"⟩
abbrev cX1_canServe : ByteArray := prog_3_method_7_code
def yX1_canServe : MethodName := ⟨RX1, "canServe", "(II)Z"⟩
abbrev cX1_isServable : ByteArray := prog_3_method_8_code
def yX1_isServable : MethodName := ⟨RX1, "isServable", "(I)Z"⟩
abbrev cX1_doesServe : ByteArray := prog_3_method_9_code
def yX1_doesServe : MethodName := ⟨RX1, "doesServe", "(II)Z"⟩
abbrev cX1_serverOf : ByteArray := prog_3_method_10_code
def yX1_serverOf : MethodName := ⟨RX1, "serverOf", "(I)I"⟩
abbrev cX1_serversOf : ByteArray := prog_3_method_11_code
def yX1_serversOf : MethodName := ⟨RX1, "serversOf", "(I)I"⟩
abbrev cX1_servedCount : ByteArray := prog_3_method_12_code
def yX1_servedCount : MethodName := ⟨RX1, "servedCount", "()I"⟩
abbrev cX1_contentBy : ByteArray := prog_3_method_13_code
def yX1_contentBy : MethodName := ⟨RX1, "contentBy", "(II)I"⟩
abbrev cX1_contentOf : ByteArray := prog_3_method_14_code
def yX1_contentOf : MethodName := ⟨RX1, "contentOf", "(I)I"⟩
abbrev cX1_workFor : ByteArray := prog_3_method_15_code
def yX1_workFor : MethodName := ⟨RX1, "workFor", "(II)I"⟩
abbrev cX1_passHour : ByteArray := prog_3_method_16_code
def yX1_passHour : MethodName := ⟨RX1, "passHour", "()V"⟩
abbrev cX1_remember : ByteArray := prog_3_method_17_code
def yX1_remember : MethodName := ⟨RX1, "remember", "()V"⟩
abbrev cX1_recall : ByteArray := prog_3_method_18_code
def yX1_recall : MethodName := ⟨RX1, "recall", "()V"⟩
abbrev cX1_ringOf : ByteArray := prog_3_method_19_code
def yX1_ringOf : MethodName := ⟨RX1, "ringOf", "(I)I"⟩
abbrev cX1_wouldSwap : ByteArray := prog_3_method_20_code
def yX1_wouldSwap : MethodName := ⟨RX1, "wouldSwap", "(II)Z"⟩
abbrev cX1_wouldRather : ByteArray := prog_3_method_21_code
def yX1_wouldRather : MethodName := ⟨RX1, "wouldRather", "(III)Z"⟩
abbrev cX1_wantsThatFit : ByteArray := prog_3_method_22_code
def yX1_wantsThatFit : MethodName := ⟨RX1, "wantsThatFit", "(II)I"⟩
abbrev cX1_addGuestsTo : ByteArray := prog_3_method_23_code
def yX1_addGuestsTo : MethodName := ⟨RX1, "addGuestsTo", "(J)J"⟩
def RX2 : String := "GuestStaff$Late"
def TX2 : u_T := fun k => match k with
  | _ => ("", "", "", false)
def tyX2 : Nat → FieldType := fun k => match k with
  | _ => .int
abbrev wsX20 : List Cond := u_ws RX2 TX2 0
theorem nmX2 : ∀ a, a < 0 → ∀ b, b < 0 → a ≠ b → (TX2 a).2.1 ≠ (TX2 b).2.1 := by decide +kernel
theorem tyX2_ok : ∀ k, k < 0 → parseFieldDescriptor (TX2 k).2.2.1 = some (tyX2 k) := by decide +kernel
abbrev cX2_init : ByteArray := prog_4_method_1_code
def yX2_init : MethodName := ⟨RX2, "<init>", "()V"⟩
abbrev cX2_contentBy : ByteArray := prog_4_method_2_code
def yX2_contentBy : MethodName := ⟨RX2, "contentBy", "(II)I"⟩
def RX3 : String := "GuestStaff$Notes"
def TX3 : u_T := fun k => match k with
  | 0 => ("GuestStaff$Notes", "note", "[[I", true)
  | _ => ("GuestStaff$Notes", "size", "I", false)
def tyX3 : Nat → FieldType := fun k => match k with
  | 0 => .array (.array .int)
  | _ => .int
abbrev wsX30 : List Cond := u_ws RX3 TX3 2
theorem nmX3 : ∀ a, a < 2 → ∀ b, b < 2 → a ≠ b → (TX3 a).2.1 ≠ (TX3 b).2.1 := by decide +kernel
theorem tyX3_ok : ∀ k, k < 2 → parseFieldDescriptor (TX3 k).2.2.1 = some (tyX3 k) := by decide +kernel
abbrev cX3_init : ByteArray := prog_5_method_1_code
def yX3_init : MethodName := ⟨RX3, "<init>", "()V"⟩
abbrev cX3_add : ByteArray := prog_5_method_2_code
def yX3_add : MethodName := ⟨RX3, "add", "(IIIII)I"⟩
abbrev cX3_copy : ByteArray := prog_5_method_3_code
def yX3_copy : MethodName := ⟨RX3, "copy", "(LGuestStaff$Notes;)V"⟩
abbrev cX3_wantsThatFit : ByteArray := prog_5_method_4_code
def yX3_wantsThatFit : MethodName := ⟨RX3, "wantsThatFit", "(ILGuestStaff$Plain;)I"⟩
abbrev cX3_allFit : ByteArray := prog_5_method_5_code
def yX3_allFit : MethodName := ⟨RX3, "allFit", "(ILGuestStaff$Plain;I)Z"⟩
abbrev cX3_addTo : ByteArray := prog_5_method_6_code
def yX3_addTo : MethodName := ⟨RX3, "addTo", "(J)J"⟩
def RX4 : String := "GuestStaff$Plain"
def TX4 : u_T := fun k => match k with
  | _ => ("", "", "", false)
def tyX4 : Nat → FieldType := fun k => match k with
  | _ => .int
abbrev wsX40 : List Cond := u_ws RX4 TX4 0
theorem nmX4 : ∀ a, a < 0 → ∀ b, b < 0 → a ≠ b → (TX4 a).2.1 ≠ (TX4 b).2.1 := by decide +kernel
theorem tyX4_ok : ∀ k, k < 0 → parseFieldDescriptor (TX4 k).2.2.1 = some (tyX4 k) := by decide +kernel
abbrev cX4_init : ByteArray := prog_6_method_1_code
def yX4_init : MethodName := ⟨RX4, "<init>", "()V"⟩
abbrev cX4_contentBy : ByteArray := prog_6_method_2_code
def yX4_contentBy : MethodName := ⟨RX4, "contentBy", "(II)I"⟩
abbrev cX4_workOn : ByteArray := prog_6_method_3_code
def yX4_workOn : MethodName := ⟨RX4, "workOn", "(I)I"⟩
def RX5 : String := "GuestStaff$Polisher"
def TX5 : u_T := fun k => match k with
  | _ => ("", "", "", false)
def tyX5 : Nat → FieldType := fun k => match k with
  | _ => .int
abbrev wsX50 : List Cond := u_ws RX5 TX5 0
theorem nmX5 : ∀ a, a < 0 → ∀ b, b < 0 → a ≠ b → (TX5 a).2.1 ≠ (TX5 b).2.1 := by decide +kernel
theorem tyX5_ok : ∀ k, k < 0 → parseFieldDescriptor (TX5 k).2.2.1 = some (tyX5 k) := by decide +kernel
abbrev cX5_init : ByteArray := prog_7_method_1_code
def yX5_init : MethodName := ⟨RX5, "<init>", "()V"⟩
abbrev cX5_contentBy : ByteArray := prog_7_method_2_code
def yX5_contentBy : MethodName := ⟨RX5, "contentBy", "(II)I"⟩
abbrev cX5_workOn : ByteArray := prog_7_method_3_code
def yX5_workOn : MethodName := ⟨RX5, "workOn", "(I)I"⟩
def RX6 : String := "GuestStaff$Quiet"
def TX6 : u_T := fun k => match k with
  | _ => ("", "", "", false)
def tyX6 : Nat → FieldType := fun k => match k with
  | _ => .int
abbrev wsX60 : List Cond := u_ws RX6 TX6 0
theorem nmX6 : ∀ a, a < 0 → ∀ b, b < 0 → a ≠ b → (TX6 a).2.1 ≠ (TX6 b).2.1 := by decide +kernel
theorem tyX6_ok : ∀ k, k < 0 → parseFieldDescriptor (TX6 k).2.2.1 = some (tyX6 k) := by decide +kernel
abbrev cX6_init : ByteArray := prog_8_method_1_code
def yX6_init : MethodName := ⟨RX6, "<init>", "()V"⟩
abbrev cX6_contentBy : ByteArray := prog_8_method_2_code
def yX6_contentBy : MethodName := ⟨RX6, "contentBy", "(II)I"⟩
abbrev cX6_workOn : ByteArray := prog_8_method_3_code
def yX6_workOn : MethodName := ⟨RX6, "workOn", "(I)I"⟩
def RX7 : String := "GuestStaff$Rows"
def TX7 : u_T := fun k => match k with
  | 0 => ("GuestStaff$Rows", "member", "[I", true)
  | 1 => ("GuestStaff$Rows", "open", "[I", true)
  | 2 => ("GuestStaff$Rows", "cost", "[[I", true)
  | 3 => ("GuestStaff$Rows", "rest", "[I", true)
  | _ => ("GuestStaff$Rows", "members", "I", false)
def tyX7 : Nat → FieldType := fun k => match k with
  | 0 => .array .int
  | 1 => .array .int
  | 2 => .array (.array .int)
  | 3 => .array .int
  | _ => .int
abbrev wsX70 : List Cond := u_ws RX7 TX7 5
theorem nmX7 : ∀ a, a < 5 → ∀ b, b < 5 → a ≠ b → (TX7 a).2.1 ≠ (TX7 b).2.1 := by decide +kernel
theorem tyX7_ok : ∀ k, k < 5 → parseFieldDescriptor (TX7 k).2.2.1 = some (tyX7 k) := by decide +kernel
abbrev cX7_init : ByteArray := prog_9_method_1_code
def yX7_init : MethodName := ⟨RX7, "<init>", "()V"⟩
abbrev cX7_gather : ByteArray := prog_9_method_2_code
def yX7_gather : MethodName := ⟨RX7, "gather", "(LGuestStaff$House;II)V"⟩
abbrev cX7_costOf : ByteArray := prog_9_method_3_code
def yX7_costOf : MethodName := ⟨RX7, "costOf", "(LGuestStaff$House;III)I"⟩
abbrev cX7_isOpen : ByteArray := prog_9_method_4_code
def yX7_isOpen : MethodName := ⟨RX7, "isOpen", "(II)Z"⟩
abbrev cX7_ways : ByteArray := prog_9_method_5_code
def yX7_ways : MethodName := ⟨RX7, "ways", "()I"⟩
abbrev cX7_leastCost : ByteArray := prog_9_method_6_code
def yX7_leastCost : MethodName := ⟨RX7, "leastCost", "()I"⟩
abbrev cX7_costThrough : ByteArray := prog_9_method_7_code
def yX7_costThrough : MethodName := ⟨RX7, "costThrough", "(II)I"⟩
abbrev cX7_dutyInBest : ByteArray := prog_9_method_8_code
def yX7_dutyInBest : MethodName := ⟨RX7, "dutyInBest", "(I)I"⟩
abbrev cX7_firstBest : ByteArray := prog_9_method_9_code
def yX7_firstBest : MethodName := ⟨RX7, "firstBest", "(I)I"⟩
def RX8 : String := "GuestStaff$Shouter"
def TX8 : u_T := fun k => match k with
  | _ => ("", "", "", false)
def tyX8 : Nat → FieldType := fun k => match k with
  | _ => .int
abbrev wsX80 : List Cond := u_ws RX8 TX8 0
theorem nmX8 : ∀ a, a < 0 → ∀ b, b < 0 → a ≠ b → (TX8 a).2.1 ≠ (TX8 b).2.1 := by decide +kernel
theorem tyX8_ok : ∀ k, k < 0 → parseFieldDescriptor (TX8 k).2.2.1 = some (tyX8 k) := by decide +kernel
abbrev cX8_init : ByteArray := prog_10_method_1_code
def yX8_init : MethodName := ⟨RX8, "<init>", "()V"⟩
abbrev cX8_contentBy : ByteArray := prog_10_method_2_code
def yX8_contentBy : MethodName := ⟨RX8, "contentBy", "(II)I"⟩
def RX9 : String := "GuestStaff$Text"
def TX9 : u_T := fun k => match k with
  | 0 => ("GuestStaff$Text", "bytes", "[I", true)
  | 1 => ("GuestStaff$Text", "size", "I", false)
  | 2 => ("GuestStaff$Text", "at", "I", false)
  | 3 => ("GuestStaff$Text", "behind", "I", false)
  | 4 => ("GuestStaff$Text", "sort", "I", false)
  | _ => ("GuestStaff$Text", "number", "I", false)
def tyX9 : Nat → FieldType := fun k => match k with
  | 0 => .array .int
  | 1 => .int
  | 2 => .int
  | 3 => .int
  | 4 => .int
  | _ => .int
abbrev wsX90 : List Cond := u_ws RX9 TX9 6
theorem nmX9 : ∀ a, a < 6 → ∀ b, b < 6 → a ≠ b → (TX9 a).2.1 ≠ (TX9 b).2.1 := by decide +kernel
theorem tyX9_ok : ∀ k, k < 6 → parseFieldDescriptor (TX9 k).2.2.1 = some (tyX9 k) := by decide +kernel
abbrev cX9_init : ByteArray := prog_11_method_1_code
def yX9_init : MethodName := ⟨RX9, "<init>", "()V"⟩
abbrev cX9_append : ByteArray := prog_11_method_2_code
def yX9_append : MethodName := ⟨RX9, "append", "(I)I"⟩
abbrev cX9_parse : ByteArray := prog_11_method_3_code
def yX9_parse : MethodName := ⟨RX9, "parse", "(LGuestStaff$House;)I"⟩
abbrev cX9_parseItem : ByteArray := prog_11_method_4_code
def yX9_parseItem : MethodName := ⟨RX9, "parseItem", "(LGuestStaff$House;)Z"⟩
abbrev cX9_parseGuest : ByteArray := prog_11_method_5_code
def yX9_parseGuest : MethodName := ⟨RX9, "parseGuest", "(LGuestStaff$House;)Z"⟩
abbrev cX9_parseDuty : ByteArray := prog_11_method_6_code
def yX9_parseDuty : MethodName := ⟨RX9, "parseDuty", "(LGuestStaff$House;)Z"⟩
abbrev cX9_stepToStop : ByteArray := prog_11_method_7_code
def yX9_stepToStop : MethodName := ⟨RX9, "stepToStop", "()Z"⟩
abbrev cX9_stepToNumber : ByteArray := prog_11_method_8_code
def yX9_stepToNumber : MethodName := ⟨RX9, "stepToNumber", "(I)Z"⟩
abbrev cX9_isNumber : ByteArray := prog_11_method_9_code
def yX9_isNumber : MethodName := ⟨RX9, "isNumber", "(I)Z"⟩
abbrev cX9_isWord : ByteArray := prog_11_method_10_code
def yX9_isWord : MethodName := ⟨RX9, "isWord", "(Ljava/lang/String;)Z"⟩
abbrev cX9_step : ByteArray := prog_11_method_11_code
def yX9_step : MethodName := ⟨RX9, "step", "()V"⟩
abbrev cX9_endOfRun : ByteArray := prog_11_method_12_code
def yX9_endOfRun : MethodName := ⟨RX9, "endOfRun", "(III)I"⟩
abbrev cX9_numberHere : ByteArray := prog_11_method_13_code
def yX9_numberHere : MethodName := ⟨RX9, "numberHere", "()I"⟩
abbrev cX9_signHere : ByteArray := prog_11_method_14_code
def yX9_signHere : MethodName := ⟨RX9, "signHere", "()I"⟩
def RX10 : String := "GuestStaff"
def TX10 : u_T := fun k => match k with
  | 0 => ("GuestStaff", "now", "LGuestStaff$House;", true)
  | 1 => ("GuestStaff", "trial", "LGuestStaff$House;", true)
  | 2 => ("GuestStaff", "images", "[LGuestStaff$House;", true)
  | 3 => ("GuestStaff", "kept", "[Z", true)
  | 4 => ("GuestStaff", "text", "LGuestStaff$Text;", true)
  | 5 => ("GuestStaff", "rows", "LGuestStaff$Rows;", true)
  | 6 => ("GuestStaff", "refused", "[I", true)
  | 7 => ("GuestStaff", "above", "J", false)
  | _ => ("GuestStaff", "below", "J", false)
def tyX10 : Nat → FieldType := fun k => match k with
  | 0 => .object "GuestStaff$House"
  | 1 => .object "GuestStaff$House"
  | 2 => .array (.object "GuestStaff$House")
  | 3 => .array .boolean
  | 4 => .object "GuestStaff$Text"
  | 5 => .object "GuestStaff$Rows"
  | 6 => .array .int
  | 7 => .long
  | _ => .long
abbrev wsX100 : List Cond := u_ws RX10 TX10 9
theorem nmX10 : ∀ a, a < 9 → ∀ b, b < 9 → a ≠ b → (TX10 a).2.1 ≠ (TX10 b).2.1 := by decide +kernel
theorem tyX10_ok : ∀ k, k < 9 → parseFieldDescriptor (TX10 k).2.2.1 = some (tyX10 k) := by decide +kernel
abbrev cX10_init : ByteArray := prog_1_method_1_code
def yX10_init : MethodName := ⟨RX10, "<init>", "()V"⟩
abbrev cX10_house : ByteArray := prog_1_method_2_code
def yX10_house : MethodName := ⟨RX10, "house", "()I"⟩
abbrev cX10_guest : ByteArray := prog_1_method_3_code
def yX10_guest : MethodName := ⟨RX10, "guest", "(III)I"⟩
abbrev cX10_duty : ByteArray := prog_1_method_4_code
def yX10_duty : MethodName := ⟨RX10, "duty", "(II)I"⟩
abbrev cX10_type : ByteArray := prog_1_method_5_code
def yX10_type : MethodName := ⟨RX10, "type", "(I)I"⟩
abbrev cX10_clear : ByteArray := prog_1_method_6_code
def yX10_clear : MethodName := ⟨RX10, "clear", "()I"⟩
abbrev cX10_read : ByteArray := prog_1_method_7_code
def yX10_read : MethodName := ⟨RX10, "read", "()I"⟩
abbrev cX10_hour : ByteArray := prog_1_method_8_code
def yX10_hour : MethodName := ⟨RX10, "hour", "(I)I"⟩
abbrev cX10_undo : ByteArray := prog_1_method_9_code
def yX10_undo : MethodName := ⟨RX10, "undo", "()I"⟩
abbrev cX10_of : ByteArray := prog_1_method_10_code
def yX10_of : MethodName := ⟨RX10, "of", "(II)I"⟩
abbrev cX10_can : ByteArray := prog_1_method_11_code
def yX10_can : MethodName := ⟨RX10, "can", "(II)I"⟩
abbrev cX10_work : ByteArray := prog_1_method_12_code
def yX10_work : MethodName := ⟨RX10, "work", "(II)I"⟩
abbrev cX10_all : ByteArray := prog_1_method_13_code
def yX10_all : MethodName := ⟨RX10, "all", "(I)I"⟩
abbrev cX10_least : ByteArray := prog_1_method_14_code
def yX10_least : MethodName := ⟨RX10, "least", "()I"⟩
abbrev cX10_most : ByteArray := prog_1_method_15_code
def yX10_most : MethodName := ⟨RX10, "most", "(I)I"⟩
abbrev cX10_lone : ByteArray := prog_1_method_16_code
def yX10_lone : MethodName := ⟨RX10, "lone", "()I"⟩
abbrev cX10_rings : ByteArray := prog_1_method_17_code
def yX10_rings : MethodName := ⟨RX10, "rings", "(I)I"⟩
abbrev cX10_smallest : ByteArray := prog_1_method_18_code
def yX10_smallest : MethodName := ⟨RX10, "smallest", "()I"⟩
abbrev cX10_swap : ByteArray := prog_1_method_19_code
def yX10_swap : MethodName := ⟨RX10, "swap", "(I)I"⟩
abbrev cX10_takeIn : ByteArray := prog_1_method_20_code
def yX10_takeIn : MethodName := ⟨RX10, "takeIn", "(I)I"⟩
abbrev cX10_note : ByteArray := prog_1_method_21_code
def yX10_note : MethodName := ⟨RX10, "note", "(IIIII)I"⟩
abbrev cX10_forget : ByteArray := prog_1_method_22_code
def yX10_forget : MethodName := ⟨RX10, "forget", "()I"⟩
abbrev cX10_wants : ByteArray := prog_1_method_23_code
def yX10_wants : MethodName := ⟨RX10, "wants", "(I)I"⟩
abbrev cX10_is : ByteArray := prog_1_method_24_code
def yX10_is : MethodName := ⟨RX10, "is", "(I)I"⟩
abbrev cX10_next : ByteArray := prog_1_method_25_code
def yX10_next : MethodName := ⟨RX10, "next", "(I)I"⟩
abbrev cX10_tips : ByteArray := prog_1_method_26_code
def yX10_tips : MethodName := ⟨RX10, "tips", "(II)I"⟩
abbrev cX10_moods : ByteArray := prog_1_method_27_code
def yX10_moods : MethodName := ⟨RX10, "moods", "(I)I"⟩
abbrev cX10_hours : ByteArray := prog_1_method_28_code
def yX10_hours : MethodName := ⟨RX10, "hours", "(II)I"⟩
abbrev cX10_part : ByteArray := prog_1_method_29_code
def yX10_part : MethodName := ⟨RX10, "part", "(I)J"⟩
abbrev cX10_image : ByteArray := prog_1_method_30_code
def yX10_image : MethodName := ⟨RX10, "image", "(I)I"⟩
abbrev cX10_from : ByteArray := prog_1_method_31_code
def yX10_from : MethodName := ⟨RX10, "from", "(I)I"⟩
abbrev cX10_status : ByteArray := prog_1_method_32_code
def yX10_status : MethodName := ⟨RX10, "status", "(I)I"⟩
abbrev cX10_count : ByteArray := prog_1_method_33_code
def yX10_count : MethodName := ⟨RX10, "count", "(I)I"⟩
abbrev cX10_digest : ByteArray := prog_1_method_34_code
def yX10_digest : MethodName := ⟨RX10, "digest", "()J"⟩
abbrev cX10_isBelow : ByteArray := prog_1_method_35_code
def yX10_isBelow : MethodName := ⟨RX10, "isBelow", "(II)Z"⟩
abbrev cX10_refuseBad : ByteArray := prog_1_method_36_code
def yX10_refuseBad : MethodName := ⟨RX10, "refuseBad", "(I)I"⟩
abbrev cX10_refuseNo : ByteArray := prog_1_method_37_code
def yX10_refuseNo : MethodName := ⟨RX10, "refuseNo", "()I"⟩
abbrev cX10_refuseFull : ByteArray := prog_1_method_38_code
def yX10_refuseFull : MethodName := ⟨RX10, "refuseFull", "()I"⟩
abbrev cX10_closes : ByteArray := prog_1_method_39_code
def yX10_closes : MethodName := ⟨RX10, "closes", "(LGuestStaff$House;I)Z"⟩
abbrev cX10_countOf : ByteArray := prog_1_method_40_code
def yX10_countOf : MethodName := ⟨RX10, "countOf", "(I)I"⟩
abbrev cX10_oddsOfNone : ByteArray := prog_1_method_41_code
def yX10_oddsOfNone : MethodName := ⟨RX10, "oddsOfNone", "(II)I"⟩
abbrev cX10_keepFraction : ByteArray := prog_1_method_42_code
def yX10_keepFraction : MethodName := ⟨RX10, "keepFraction", "(II)V"⟩
def RX11 : String := "GuestStaffModel"
def TX11 : u_T := fun k => match k with
  | 0 => ("GuestStaffModel", "st", "[I", true)
  | 1 => ("GuestStaffModel", "above", "J", false)
  | 2 => ("GuestStaffModel", "below", "J", false)
  | 3 => ("GuestStaffModel", "refused", "[I", true)
  | 4 => ("GuestStaffModel", "text", "[I", true)
  | 5 => ("GuestStaffModel", "bytes", "I", false)
  | 6 => ("GuestStaffModel", "place", "I", false)
  | 7 => ("GuestStaffModel", "token", "I", false)
  | 8 => ("GuestStaffModel", "value", "I", false)
  | 9 => ("GuestStaffModel", "begins", "I", false)
  | 10 => ("GuestStaffModel", "row", "[I", true)
  | 11 => ("GuestStaffModel", "services", "I", false)
  | 12 => ("GuestStaffModel", "toldGuests", "I", false)
  | 13 => ("GuestStaffModel", "ahead", "[I", true)
  | 14 => ("GuestStaffModel", "undoMany", "I", false)
  | 15 => ("GuestStaffModel", "who", "[I", true)
  | 16 => ("GuestStaffModel", "many", "I", false)
  | 17 => ("GuestStaffModel", "duties", "[I", true)
  | 18 => ("GuestStaffModel", "firstRow", "[I", true)
  | 19 => ("GuestStaffModel", "rowMany", "I", false)
  | 20 => ("GuestStaffModel", "leastWork", "I", false)
  | 21 => ("GuestStaffModel", "mostContent", "I", false)
  | 22 => ("GuestStaffModel", "bestRow", "[I", true)
  | 23 => ("GuestStaffModel", "aside", "[I", true)
  | 24 => ("GuestStaffModel", "isKept", "[Z", true)
  | 25 => ("GuestStaffModel", "kept", "[I", true)
  | 26 => ("GuestStaffModel", "keptAhead", "[I", true)
  | _ => ("GuestStaffModel", "keptMany", "[I", true)
def tyX11 : Nat → FieldType := fun k => match k with
  | 0 => .array .int
  | 1 => .long
  | 2 => .long
  | 3 => .array .int
  | 4 => .array .int
  | 5 => .int
  | 6 => .int
  | 7 => .int
  | 8 => .int
  | 9 => .int
  | 10 => .array .int
  | 11 => .int
  | 12 => .int
  | 13 => .array .int
  | 14 => .int
  | 15 => .array .int
  | 16 => .int
  | 17 => .array .int
  | 18 => .array .int
  | 19 => .int
  | 20 => .int
  | 21 => .int
  | 22 => .array .int
  | 23 => .array .int
  | 24 => .array .boolean
  | 25 => .array .int
  | 26 => .array .int
  | _ => .array .int
abbrev wsX110 : List Cond := u_ws RX11 TX11 28
theorem nmX11 : ∀ a, a < 28 → ∀ b, b < 28 → a ≠ b → (TX11 a).2.1 ≠ (TX11 b).2.1 := by decide +kernel
theorem tyX11_ok : ∀ k, k < 28 → parseFieldDescriptor (TX11 k).2.2.1 = some (tyX11 k) := by decide +kernel
abbrev cX11_init : ByteArray := prog_13_method_1_code
def yX11_init : MethodName := ⟨RX11, "<init>", "()V"⟩
abbrev cX11_in : ByteArray := prog_13_method_2_code
def yX11_in : MethodName := ⟨RX11, "in", "(JJJ)Z"⟩
abbrev cX11_has : ByteArray := prog_13_method_3_code
def yX11_has : MethodName := ⟨RX11, "has", "(II)Z"⟩
abbrev cX11_ones : ByteArray := prog_13_method_4_code
def yX11_ones : MethodName := ⟨RX11, "ones", "(I)I"⟩
abbrev cX11_bad : ByteArray := prog_13_method_5_code
def yX11_bad : MethodName := ⟨RX11, "bad", "()I"⟩
abbrev cX11_badFar : ByteArray := prog_13_method_6_code
def yX11_badFar : MethodName := ⟨RX11, "badFar", "()I"⟩
abbrev cX11_no : ByteArray := prog_13_method_7_code
def yX11_no : MethodName := ⟨RX11, "no", "()I"⟩
abbrev cX11_full : ByteArray := prog_13_method_8_code
def yX11_full : MethodName := ⟨RX11, "full", "()I"⟩
abbrev cX11_isGuest : ByteArray := prog_13_method_9_code
def yX11_isGuest : MethodName := ⟨RX11, "isGuest", "(I)Z"⟩
abbrev cX11_everybody : ByteArray := prog_13_method_10_code
def yX11_everybody : MethodName := ⟨RX11, "everybody", "()I"⟩
abbrev cX11_anew : ByteArray := prog_13_method_11_code
def yX11_anew : MethodName := ⟨RX11, "anew", "()V"⟩
abbrev cX11_house : ByteArray := prog_13_method_12_code
def yX11_house : MethodName := ⟨RX11, "house", "()I"⟩
abbrev cX11_add : ByteArray := prog_13_method_13_code
def yX11_add : MethodName := ⟨RX11, "add", "(III)V"⟩
abbrev cX11_guest : ByteArray := prog_13_method_14_code
def yX11_guest : MethodName := ⟨RX11, "guest", "(III)I"⟩
abbrev cX11_duty : ByteArray := prog_13_method_15_code
def yX11_duty : MethodName := ⟨RX11, "duty", "(II)I"⟩
abbrev cX11_type : ByteArray := prog_13_method_16_code
def yX11_type : MethodName := ⟨RX11, "type", "(I)I"⟩
abbrev cX11_clear : ByteArray := prog_13_method_17_code
def yX11_clear : MethodName := ⟨RX11, "clear", "()I"⟩
abbrev cX11_byteAt : ByteArray := prog_13_method_18_code
def yX11_byteAt : MethodName := ⟨RX11, "byteAt", "(I)I"⟩
abbrev cX11_nextToken : ByteArray := prog_13_method_19_code
def yX11_nextToken : MethodName := ⟨RX11, "nextToken", "()V"⟩
abbrev cX11_isWord : ByteArray := prog_13_method_20_code
def yX11_isWord : MethodName := ⟨RX11, "isWord", "(IIIII)Z"⟩
abbrev cX11_reads : ByteArray := prog_13_method_21_code
def yX11_reads : MethodName := ⟨RX11, "reads", "(II)Z"⟩
abbrev cX11_readServices : ByteArray := prog_13_method_22_code
def yX11_readServices : MethodName := ⟨RX11, "readServices", "()Z"⟩
abbrev cX11_readItem : ByteArray := prog_13_method_23_code
def yX11_readItem : MethodName := ⟨RX11, "readItem", "(IZ)Z"⟩
abbrev cX11_readText : ByteArray := prog_13_method_24_code
def yX11_readText : MethodName := ⟨RX11, "readText", "(Z)I"⟩
abbrev cX11_read : ByteArray := prog_13_method_25_code
def yX11_read : MethodName := ⟨RX11, "read", "()I"⟩
abbrev cX11_canServe : ByteArray := prog_13_method_26_code
def yX11_canServe : MethodName := ⟨RX11, "canServe", "(II)Z"⟩
abbrev cX11_contentBy : ByteArray := prog_13_method_27_code
def yX11_contentBy : MethodName := ⟨RX11, "contentBy", "(III)I"⟩
abbrev cX11_workBy : ByteArray := prog_13_method_28_code
def yX11_workBy : MethodName := ⟨RX11, "workBy", "(II)I"⟩
abbrev cX11_serverOf : ByteArray := prog_13_method_29_code
def yX11_serverOf : MethodName := ⟨RX11, "serverOf", "(I)I"⟩
abbrev cX11_contentOf : ByteArray := prog_13_method_30_code
def yX11_contentOf : MethodName := ⟨RX11, "contentOf", "(II)I"⟩
abbrev cX11_servedMany : ByteArray := prog_13_method_31_code
def yX11_servedMany : MethodName := ⟨RX11, "servedMany", "()I"⟩
abbrev cX11_noteStep : ByteArray := prog_13_method_32_code
def yX11_noteStep : MethodName := ⟨RX11, "noteStep", "()V"⟩
abbrev cX11_oneHour : ByteArray := prog_13_method_33_code
def yX11_oneHour : MethodName := ⟨RX11, "oneHour", "()V"⟩
abbrev cX11_hour : ByteArray := prog_13_method_34_code
def yX11_hour : MethodName := ⟨RX11, "hour", "(I)I"⟩
abbrev cX11_undo : ByteArray := prog_13_method_35_code
def yX11_undo : MethodName := ⟨RX11, "undo", "()I"⟩
abbrev cX11_of : ByteArray := prog_13_method_36_code
def yX11_of : MethodName := ⟨RX11, "of", "(II)I"⟩
abbrev cX11_can : ByteArray := prog_13_method_37_code
def yX11_can : MethodName := ⟨RX11, "can", "(II)I"⟩
abbrev cX11_work : ByteArray := prog_13_method_38_code
def yX11_work : MethodName := ⟨RX11, "work", "(II)I"⟩
abbrev cX11_factorial : ByteArray := prog_13_method_39_code
def yX11_factorial : MethodName := ⟨RX11, "factorial", "(I)I"⟩
abbrev cX11_takeSet : ByteArray := prog_13_method_40_code
def yX11_takeSet : MethodName := ⟨RX11, "takeSet", "(I)V"⟩
abbrev cX11_isRow : ByteArray := prog_13_method_41_code
def yX11_isRow : MethodName := ⟨RX11, "isRow", "(I)Z"⟩
abbrev cX11_rowWork : ByteArray := prog_13_method_42_code
def yX11_rowWork : MethodName := ⟨RX11, "rowWork", "()I"⟩
abbrev cX11_rowContent : ByteArray := prog_13_method_43_code
def yX11_rowContent : MethodName := ⟨RX11, "rowContent", "()I"⟩
abbrev cX11_findRows : ByteArray := prog_13_method_44_code
def yX11_findRows : MethodName := ⟨RX11, "findRows", "()V"⟩
abbrev cX11_isOne : ByteArray := prog_13_method_45_code
def yX11_isOne : MethodName := ⟨RX11, "isOne", "(I)Z"⟩
abbrev cX11_all : ByteArray := prog_13_method_46_code
def yX11_all : MethodName := ⟨RX11, "all", "(I)I"⟩
abbrev cX11_least : ByteArray := prog_13_method_47_code
def yX11_least : MethodName := ⟨RX11, "least", "()I"⟩
abbrev cX11_most : ByteArray := prog_13_method_48_code
def yX11_most : MethodName := ⟨RX11, "most", "(I)I"⟩
abbrev cX11_lone : ByteArray := prog_13_method_49_code
def yX11_lone : MethodName := ⟨RX11, "lone", "()I"⟩
abbrev cX11_ringOf : ByteArray := prog_13_method_50_code
def yX11_ringOf : MethodName := ⟨RX11, "ringOf", "(I)I"⟩
abbrev cX11_rings : ByteArray := prog_13_method_51_code
def yX11_rings : MethodName := ⟨RX11, "rings", "(I)I"⟩
abbrev cX11_closes : ByteArray := prog_13_method_52_code
def yX11_closes : MethodName := ⟨RX11, "closes", "(I)Z"⟩
abbrev cX11_smallest : ByteArray := prog_13_method_53_code
def yX11_smallest : MethodName := ⟨RX11, "smallest", "()I"⟩
abbrev cX11_gains : ByteArray := prog_13_method_54_code
def yX11_gains : MethodName := ⟨RX11, "gains", "(II)Z"⟩
abbrev cX11_swap : ByteArray := prog_13_method_55_code
def yX11_swap : MethodName := ⟨RX11, "swap", "(I)I"⟩
abbrev cX11_takeIn : ByteArray := prog_13_method_56_code
def yX11_takeIn : MethodName := ⟨RX11, "takeIn", "(I)I"⟩
abbrev cX11_note : ByteArray := prog_13_method_57_code
def yX11_note : MethodName := ⟨RX11, "note", "(IIIII)I"⟩
abbrev cX11_forget : ByteArray := prog_13_method_58_code
def yX11_forget : MethodName := ⟨RX11, "forget", "()I"⟩
abbrev cX11_wantsBy : ByteArray := prog_13_method_59_code
def yX11_wantsBy : MethodName := ⟨RX11, "wantsBy", "(II)I"⟩
abbrev cX11_wants : ByteArray := prog_13_method_60_code
def yX11_wants : MethodName := ⟨RX11, "wants", "(I)I"⟩
abbrev cX11_is : ByteArray := prog_13_method_61_code
def yX11_is : MethodName := ⟨RX11, "is", "(I)I"⟩
abbrev cX11_next : ByteArray := prog_13_method_62_code
def yX11_next : MethodName := ⟨RX11, "next", "(I)I"⟩
abbrev cX11_putAside : ByteArray := prog_13_method_63_code
def yX11_putAside : MethodName := ⟨RX11, "putAside", "()V"⟩
abbrev cX11_takeBack : ByteArray := prog_13_method_64_code
def yX11_takeBack : MethodName := ⟨RX11, "takeBack", "()V"⟩
abbrev cX11_tips : ByteArray := prog_13_method_65_code
def yX11_tips : MethodName := ⟨RX11, "tips", "(II)I"⟩
abbrev cX11_moods : ByteArray := prog_13_method_66_code
def yX11_moods : MethodName := ⟨RX11, "moods", "(I)I"⟩
abbrev cX11_hours : ByteArray := prog_13_method_67_code
def yX11_hours : MethodName := ⟨RX11, "hours", "(II)I"⟩
abbrev cX11_part : ByteArray := prog_13_method_68_code
def yX11_part : MethodName := ⟨RX11, "part", "(I)J"⟩
abbrev cX11_image : ByteArray := prog_13_method_69_code
def yX11_image : MethodName := ⟨RX11, "image", "(I)I"⟩
abbrev cX11_from : ByteArray := prog_13_method_70_code
def yX11_from : MethodName := ⟨RX11, "from", "(I)I"⟩
abbrev cX11_status : ByteArray := prog_13_method_71_code
def yX11_status : MethodName := ⟨RX11, "status", "(I)I"⟩
abbrev cX11_countOf : ByteArray := prog_13_method_72_code
def yX11_countOf : MethodName := ⟨RX11, "countOf", "(I)I"⟩
abbrev cX11_count : ByteArray := prog_13_method_73_code
def yX11_count : MethodName := ⟨RX11, "count", "(I)I"⟩
abbrev cX11_digest : ByteArray := prog_13_method_74_code
def yX11_digest : MethodName := ⟨RX11, "digest", "()J"⟩
def RJ6 : String := "java/lang/Integer"
def TJ6 : u_T := fun k => match k with
  | _ => ("", "", "", false)
def tyJ6 : Nat → FieldType := fun k => match k with
  | _ => .int
abbrev wsJ60 : List Cond := u_ws RJ6 TJ6 0
theorem nmJ6 : ∀ a, a < 0 → ∀ b, b < 0 → a ≠ b → (TJ6 a).2.1 ≠ (TJ6 b).2.1 := by decide +kernel
theorem tyJ6_ok : ∀ k, k < 0 → parseFieldDescriptor (TJ6 k).2.2.1 = some (tyJ6 k) := by decide +kernel
abbrev cJ6_bitCount_0f7a4 : ByteArray := prog_14_method_49_code
def yJ6_bitCount_0f7a4 : MethodName := ⟨RJ6, "bitCount", "(I)I"⟩
def RJ9 : String := "java/lang/Math"
def TJ9 : u_T := fun k => match k with
  | _ => ("", "", "", false)
def tyJ9 : Nat → FieldType := fun k => match k with
  | _ => .int
abbrev wsJ90 : List Cond := u_ws RJ9 TJ9 0
theorem nmJ9 : ∀ a, a < 0 → ∀ b, b < 0 → a ≠ b → (TJ9 a).2.1 ≠ (TJ9 b).2.1 := by decide +kernel
theorem tyJ9_ok : ∀ k, k < 0 → parseFieldDescriptor (TJ9 k).2.2.1 = some (tyJ9 k) := by decide +kernel
abbrev cJ9_max_7cf53 : ByteArray := prog_15_method_65_code
def yJ9_max_7cf53 : MethodName := ⟨RJ9, "max", "(II)I"⟩
abbrev cJ9_min_7cf53 : ByteArray := prog_15_method_69_code
def yJ9_min_7cf53 : MethodName := ⟨RJ9, "min", "(II)I"⟩
def RJ0 : String := "java/lang/String"
def TJ0 : u_T := fun k => match k with
  | _ => ("", "", "", false)
def tyJ0 : Nat → FieldType := fun k => match k with
  | _ => .int
abbrev wsJ00 : List Cond := u_ws RJ0 TJ0 0
theorem nmJ0 : ∀ a, a < 0 → ∀ b, b < 0 → a ≠ b → (TJ0 a).2.1 ≠ (TJ0 b).2.1 := by decide +kernel
theorem tyJ0_ok : ∀ k, k < 0 → parseFieldDescriptor (TJ0 k).2.2.1 = some (tyJ0 k) := by decide +kernel
abbrev cJ0_length_8abf5 : ByteArray := prog_16_method_54_code
def yJ0_length_8abf5 : MethodName := ⟨RJ0, "length", "()I"⟩
abbrev cJ0_charAt_5068e : ByteArray := prog_16_method_56_code
def yJ0_charAt_5068e : MethodName := ⟨RJ0, "charAt", "(I)C"⟩
abbrev cJ0_coder_7d493 : ByteArray := prog_16_method_152_code
def yJ0_coder_7d493 : MethodName := ⟨RJ0, "coder", "()B"⟩
abbrev cJ0_isLatin1_aae02 : ByteArray := prog_16_method_154_code
def yJ0_isLatin1_aae02 : MethodName := ⟨RJ0, "isLatin1", "()Z"⟩
abbrev cJ0_checkIndex_df160 : ByteArray := prog_16_method_155_code
def yJ0_checkIndex_df160 : MethodName := ⟨RJ0, "checkIndex", "(II)V"⟩
def RJ1 : String := "java/lang/StringLatin1"
def TJ1 : u_T := fun k => match k with
  | _ => ("", "", "", false)
def tyJ1 : Nat → FieldType := fun k => match k with
  | _ => .int
abbrev wsJ10 : List Cond := u_ws RJ1 TJ1 0
theorem nmJ1 : ∀ a, a < 0 → ∀ b, b < 0 → a ≠ b → (TJ1 a).2.1 ≠ (TJ1 b).2.1 := by decide +kernel
theorem tyJ1_ok : ∀ k, k < 0 → parseFieldDescriptor (TJ1 k).2.2.1 = some (tyJ1 k) := by decide +kernel
abbrev cJ1_charAt_3b067 : ByteArray := prog_17_method_2_code
def yJ1_charAt_3b067 : MethodName := ⟨RJ1, "charAt", "([BI)C"⟩
def RJ2 : String := "java/lang/StringUTF16"
def TJ2 : u_T := fun k => match k with
  | _ => ("", "", "", false)
def tyJ2 : Nat → FieldType := fun k => match k with
  | _ => .int
abbrev wsJ20 : List Cond := u_ws RJ2 TJ2 0
theorem nmJ2 : ∀ a, a < 0 → ∀ b, b < 0 → a ≠ b → (TJ2 a).2.1 ≠ (TJ2 b).2.1 := by decide +kernel
theorem tyJ2_ok : ∀ k, k < 0 → parseFieldDescriptor (TJ2 k).2.2.1 = some (tyJ2 k) := by decide +kernel
abbrev cJ2_getChar_3b067 : ByteArray := prog_18_method_5_code
def yJ2_getChar_3b067 : MethodName := ⟨RJ2, "getChar", "([BI)C"⟩
abbrev cJ2_length_9d52b : ByteArray := prog_18_method_6_code
def yJ2_length_9d52b : MethodName := ⟨RJ2, "length", "([B)I"⟩
abbrev cJ2_charAt_3b067 : ByteArray := prog_18_method_83_code
def yJ2_charAt_3b067 : MethodName := ⟨RJ2, "charAt", "([BI)C"⟩
abbrev cJ2_checkIndex_2214a : ByteArray := prog_18_method_91_code
def yJ2_checkIndex_2214a : MethodName := ⟨RJ2, "checkIndex", "(I[B)V"⟩
def RJ10 : String := "java/lang/System"
def TJ10 : u_T := fun k => match k with
  | _ => ("", "", "", false)
def tyJ10 : Nat → FieldType := fun k => match k with
  | _ => .int
abbrev wsJ100 : List Cond := u_ws RJ10 TJ10 0
theorem nmJ10 : ∀ a, a < 0 → ∀ b, b < 0 → a ≠ b → (TJ10 a).2.1 ≠ (TJ10 b).2.1 := by decide +kernel
theorem tyJ10_ok : ∀ k, k < 0 → parseFieldDescriptor (TJ10 k).2.2.1 = some (tyJ10 k) := by decide +kernel
def RJ3 : String := "jdk/internal/util/Preconditions"
def TJ3 : u_T := fun k => match k with
  | _ => ("", "", "", false)
def tyJ3 : Nat → FieldType := fun k => match k with
  | _ => .int
abbrev wsJ30 : List Cond := u_ws RJ3 TJ3 0
theorem nmJ3 : ∀ a, a < 0 → ∀ b, b < 0 → a ≠ b → (TJ3 a).2.1 ≠ (TJ3 b).2.1 := by decide +kernel
theorem tyJ3_ok : ∀ k, k < 0 → parseFieldDescriptor (TJ3 k).2.2.1 = some (tyJ3 k) := by decide +kernel
abbrev cJ3_checkIndex_8e157 : ByteArray := prog_20_method_11_code
def yJ3_checkIndex_8e157 : MethodName := ⟨RJ3, "checkIndex", "(IILjava/util/function/BiFunction;)I"⟩
def RL : String := "GuestStaffLaw"
abbrev cL_law : ByteArray := code
def yL_law : MethodName := ⟨RL, "law", "([I)Z"⟩
abbrev vwCl : List vw_C := [(RX0, TX0, 0), (RX1, TX1, 16), (RX2, TX2, 0), (RX3, TX3, 2), (RX4, TX4, 0), (RX5, TX5, 0), (RX6, TX6, 0), (RX7, TX7, 5), (RX8, TX8, 0), (RX9, TX9, 6), (RX10, TX10, 9), (RX11, TX11, 28)]
end
section
/-! the memory of the whole system: a cell is (c, o); c is the house's number for o < 34, and 0 else; what a cell holds is M.1 c o (ints: fields by slot, elements by index) and M.2 o (longs by slot) -/
abbrev gMem : Type := (Nat → Nat → Nat → Int32) × (Nat → Nat → Int64)
def gup (M : gMem) (c o : Nat) (g : Nat → Int32) : gMem := (fun c' o' => if c' = c ∧ o' = o then g else M.1 c' o', M.2)
def gwr (M : gMem) (c o j : Nat) (v : Int32) : gMem := gup M c o (upd (M.1 c o) j v)
def gwl (M : gMem) (o k : Nat) (v : Int64) : gMem := (M.1, fun o' k' => if o' = o ∧ k' = k then v else M.2 o' k')
abbrev gY : Type := va_G × (Nat → Nat → Nat) × (Nat → ClassId) × (Nat → Nat) × (Nat → Nat)
abbrev gad (Y : gY) (c o : Nat) : Nat := Y.2.1 c o
abbrev gca (Y : gY) (k : Nat) : ClassId := Y.2.2.1 k
/-- lengths of the int arrays by their places; 0: no int array -/
def gtab : List Nat := [0, 7, 7, 7, 7, 7, 0, 0, 5, 5, 5, 5, 5, 5, 0, 7, 7, 7, 7, 7, 7, 7, 7, 0, 7, 7, 7, 7, 7, 7, 7, 7, 8, 8, 0, 0, 0, 150, 0, 7, 7, 0, 7, 7, 7, 7, 7, 7, 7, 128, 3, 0, 0, 0, 0, 0, 0, 0, 0, 0, 70, 3, 150, 2, 128, 7, 7, 7, 7, 16, 0, 140, 256, 2]
def glen (o : Nat) : Nat := gtab.getD o 0
def grow (Y : gY) (c b n : Nat) : Nat → Option Nat := fun i => if i < n then some (gad Y c (b + i)) else none
def gimg (Y : gY) : Nat → Option Nat := fun i => if i < 2 then some (gad Y (2 + i) 0) else none
def gob (Y : gY) (f : Nat → Int32) (g : Nat → Int64) (c o : Nat) : va_E := match o with
  | 0 => .inr (1, [.ref (gad Y 0 51), .ref (gad Y c 1), .ref (gad Y c 2), .ref (gad Y c 3), .ref (gad Y c 4), .ref (gad Y c 5), .ref (gad Y c 6), .ref (gad Y c 14), .ref (gad Y c 23), .ref (gad Y c 32), .ref (gad Y c 33), .int (f 11), .int (f 12), .int (f 13), .int (f 14), .int (f 15)])
  | 6 => .inr (3, [.ref (gad Y c 7), .int (f 1)])
  | 7 => .inl (gca Y 4, 6, .inr (.inr (.inr (.inr (grow Y c 8 6)))))
  | 14 => .inl (gca Y 4, 8, .inr (.inr (.inr (.inr (grow Y c 15 8)))))
  | 23 => .inl (gca Y 4, 8, .inr (.inr (.inr (.inr (grow Y c 24 8)))))
  | 34 => .inr (10, [.ref (gad Y 0 0), .ref (gad Y 1 0), .ref (gad Y 0 58), .ref (gad Y 0 35), .ref (gad Y 0 36), .ref (gad Y 0 38), .ref (gad Y 0 50), .long (g 7), .long (g 8)])
  | 35 => .inl (gca Y 1, 2, .inl f)
  | 36 => .inr (9, [.ref (gad Y 0 37), .int (f 1), .int (f 2), .int (f 3), .int (f 4), .int (f 5)])
  | 38 => .inr (7, [.ref (gad Y 0 39), .ref (gad Y 0 40), .ref (gad Y 0 41), .ref (gad Y 0 49), .int (f 4)])
  | 41 => .inl (gca Y 4, 7, .inr (.inr (.inr (.inr (grow Y 0 42 7)))))
  | 51 => .inl (gca Y 2, 6, .inr (.inr (.inr (.inr (grow Y 0 52 6)))))
  | 52 => .inr (4, [])
  | 53 => .inr (6, [])
  | 54 => .inr (0, [])
  | 55 => .inr (8, [])
  | 56 => .inr (2, [])
  | 57 => .inr (5, [])
  | 58 => .inl (gca Y 3, 2, .inr (.inr (.inr (.inr (gimg Y)))))
  | 59 => .inr (11, [.ref (gad Y 0 60), .long (g 1), .long (g 2), .ref (gad Y 0 61), .ref (gad Y 0 62), .int (f 5), .int (f 6), .int (f 7), .int (f 8), .int (f 9), .ref (gad Y 0 63), .int (f 11), .int (f 12), .ref (gad Y 0 64), .int (f 14), .ref (gad Y 0 65), .int (f 16), .ref (gad Y 0 66), .ref (gad Y 0 67), .int (f 19), .int (f 20), .int (f 21), .ref (gad Y 0 68), .ref (gad Y 0 69), .ref (gad Y 0 70), .ref (gad Y 0 71), .ref (gad Y 0 72), .ref (gad Y 0 73)])
  | _ => .inl (gca Y 1, 2, .inl f)
def gce (Y : gY) (f : Nat → Int32) (g : Nat → Int64) (c o : Nat) : va_E := if glen o = 0 then gob Y f g c o else .inl (gca Y 0, glen o, .inl f)
def gcel (Y : gY) (M : gMem) (c o : Nat) : va_E := gce Y (M.1 c o) (M.2 o) c o
def gPL : List (Nat × Nat) := (List.range 136).map (fun k => (k / 34, k % 34)) ++ (List.range 40).map (fun k => (0, 34 + k))
def gV (c o : Nat) : Prop := (o < 34 ∧ c < 4) ∨ (34 ≤ o ∧ o < 74 ∧ c = 0)
theorem gV_h {c o : Nat} (hc : c < 4) (ho : o < 34) : gV c o := Or.inl ⟨ho, hc⟩
theorem gV_t {o : Nat} (h1 : 34 ≤ o) (h2 : o < 74) : gV 0 o := Or.inr ⟨h1, h2, rfl⟩
theorem gV_in {c o : Nat} (h : gV c o) : (c, o) ∈ gPL := by
  rcases h with ⟨h1, h2⟩ | ⟨h1, h2, rfl⟩
  · refine List.mem_append_left _ (List.mem_map.mpr ⟨34 * c + o, List.mem_range.mpr (by omega), ?_⟩)
    rw [show (34 * c + o) / 34 = c by omega, show (34 * c + o) % 34 = o by omega]
  · exact List.mem_append_right _ (List.mem_map.mpr ⟨o - 34, List.mem_range.mpr (by omega), by rw [show 34 + (o - 34) = o by omega]⟩)
def gW (Y : gY) (M : gMem) : va_W := gPL.map (fun q => (gad Y q.1 q.2, gcel Y M q.1 q.2))
def gA (Y : gY) : Nat → Prop := fun q => ∃ p ∈ gPL, q = gad Y p.1 p.2
def gTys (Y : gY) : List (ClassId × FieldType) := [(gca Y 0, .int), (gca Y 1, .boolean), (gca Y 2, .object "GuestStaff$Plain"), (gca Y 3, .object "GuestStaff$House"), (gca Y 4, .array .int)]
def gTs : List Cond := lw_tbl.filter goodWord
def gNst (w : Cond) : Bool := match w with
  | .fieldLinkNest .. => true
  | .methodLinkNest .. => true
  | _ => false
def gNW : List Cond := tables_1.filter gNst
def gStr (Y : gY) (U : State) : Prop :=
  vk_S 3 [5, 5, 4] [[104, 111, 117, 115, 101], [103, 117, 101, 115, 116], [100, 117, 116, 121]] Y.2.2.2.1 Y.2.2.2.2 (gA Y) U U.heap ∧ (vk_R "GuestStaff$Text" 39 "house" (Y.2.2.2.1 0) U ∧ vk_R "GuestStaff$Text" 53 "guest" (Y.2.2.2.1 1) U ∧ vk_R "GuestStaff$Text" 61 "duty" (Y.2.2.2.1 2) U) ∧ va_Z "java/lang/String" "COMPACT_STRINGS" "Z" (.int 1) (gA Y) U U.heap
def gS0 (Y : gY) (M : gMem) (U : State) : Prop := va_P Y.1 vwCl (gW Y M) U.heap ∧ va_D (gA Y) (gW Y M) ∧ va_K Y.1 vwCl (gTys Y) U ∧ (∀ w ∈ gNW, va_Nw w U) ∧ gStr Y U
def gSt (s : State) (Y : gY) (M : gMem) (H : Heap) (locs : List Loc) : Prop := va_P Y.1 vwCl (gW Y M) H ∧ va_D (gA Y) (gW Y M) ∧ va_S (gA Y) s.heap H locs
abbrev gX : Type := Program × Launch × Env × Room × State × MethodId × Array Value × List Frame × Method × Code × (State → Prop)
abbrev gxs (X : gX) : State := X.2.2.2.2.1
abbrev gxR (X : gX) : Room := X.2.2.2.1
abbrev gxm (X : gX) : MethodId := X.2.2.2.2.2.1
abbrev gxa (X : gX) : Array Value := X.2.2.2.2.2.2.1
abbrev gxb (X : gX) : List Frame := X.2.2.2.2.2.2.2.1
abbrev gxM (X : gX) : Method := X.2.2.2.2.2.2.2.2.1
abbrev gxc (X : gX) : Code := X.2.2.2.2.2.2.2.2.2.1
abbrev gxQ (X : gX) : State → Prop := X.2.2.2.2.2.2.2.2.2.2
def gWW (X : gX) (Y : gY) (nL pc : Nat) (lv : List (Nat × Value)) (st : List Value) (M : gMem) : Prop :=
  ∀ (H : Heap) (locs : List Loc) (ls : Array Slot), gSt (gxs X) Y M H locs → lv_has ls nL lv → W X.1 X.2.1 X.2.2.1 (gxR X) (gxs X) (gxm X) (gxa X) (gxb X) (gxM X) (gxc X) H locs 0 0 (gxQ X) (F0 (gxm X) pc ls st)
def gC (X : gX) (Y : gY) (cc : ByteArray) (own : String) (nL fr lo : Nat) : Prop :=
  X.1.tables.exec = Jvm.exec ∧ (gxc X).code = cc ∧ (gxc X).maxLocals = nL ∧ (gxs X).vm.findClass own = some (gxm X).cls ∧ (∀ w ∈ gTs, w.before (gxa X) (gxs X) = true) ∧ va_K Y.1 vwCl (gTys Y) (gxs X) ∧ (∀ w ∈ gNW, va_Nw w (gxs X)) ∧ gStr Y (gxs X) ∧ (gxR X).frames = fr ∧ (gxR X).locals = lo ∧ (gxM X).locks = false
theorem gStr.kept {Y : gY} {s U : State} {H : Heap} {locs : List Loc} (h : gStr Y s) (hS : va_S (gA Y) s.heap H locs) (hU : U.heap = H) (hW : s.WarmedH U.vm) : gStr Y U := by
  obtain ⟨h1, ⟨h2, h3, h4⟩, h5⟩ := h
  exact ⟨by rw [hU]; exact (h1.kept hS.2.1).moved hW.alike, ⟨h2.warm hW, h3.warm hW, h4.warm hW⟩, by rw [hU]; exact (h5.kept hS.2.1).moved hW.alike⟩
theorem gNW.kept {s U : State} (h : ∀ w ∈ gNW, va_Nw w s) (hW : s.WarmedH U.vm) : ∀ w ∈ gNW, va_Nw w U := by
  intro w hw
  have h1 := h w hw
  have h2 := (List.mem_filter.mp hw).2
  cases w <;> first | (cases h2; done) | exact h1.warmF hW | exact h1.warmM hW
theorem gS0.blind {Y : gY} {M : gMem} (av : List Value) : FrameBlind (va_Pc av (gS0 Y M)) := by
  intro a U g mk q
  obtain ⟨q0, qP, qD, qK, qN, q1, ⟨q2, q3, q4⟩, q5⟩ := q
  exact ⟨q0, qP, qD, va_K.moved (u := U) (U := U.calling g mk a) (Vm.Alike.refl U.vm) qK, fun w hw => va_Nw.same (u := U) (U := U.calling g mk a) (by
    have h2 := (List.mem_filter.mp hw).2
    cases w <;> first | (cases h2; done) | rfl) rfl (qN w hw), vk_S.moved (u := U) (U := U.calling g mk a) (Vm.Alike.refl U.vm) q1, ⟨vk_R.same (u := U) rfl q2, vk_R.same (u := U) rfl q3, vk_R.same (u := U) rfl q4⟩, va_Z.moved (u := U) (U := U.calling g mk a) (Vm.Alike.refl U.vm) q5⟩
section GC
variable {X : gX} {Y : gY} {cc : ByteArray} {own : String} {nL fr lo : Nat}
theorem gC.s0 {M : gMem} {H : Heap} {locs : List Loc} {U : State} (hC : gC X Y cc own nL fr lo) (hS : gSt (gxs X) Y M H locs) (hU : U.heap = H) (hW : (gxs X).WarmedH U.vm) : gS0 Y M U := by
  obtain ⟨-, -, -, -, -, hK, hN, hZ, -⟩ := hC
  exact ⟨by rw [hU]; exact hS.1, hS.2.1, va_K.moved hW.alike hK, gNW.kept hN hW, hZ.kept hS.2.2 hU hW⟩
end GC
end
section
/-! rows at the level of gWW: an instruction, a row -/
def gd {α : Type} (p : Prop) [Decidable p] (x : Option α) : Option α := if p then x else none
theorem gd_e {α : Type} {p : Prop} [Decidable p] {x : Option α} {r : α} (h : gd p x = some r) : p ∧ x = some r := by
  unfold gd at h
  by_cases hp : p
  · rw [if_pos hp] at h; exact ⟨hp, h⟩
  · rw [if_neg hp] at h; cases h
theorem gd_i {α : Type} {p : Prop} [Decidable p] {x : Option α} (h : p) : gd p x = x := if_pos h
theorem gb_e {α β : Type} {x : Option α} {f : α → Option β} {r : β} (h : x.bind f = some r) : ∃ a, x = some a ∧ f a = some r := by
  cases x with
  | none => cases h
  | some a => exact ⟨a, rfl, h⟩
theorem gi_p {α : Type} {p : Prop} [Decidable p] {a b : Option α} {r : α} (hp : p) (h : (if p then a else b) = some r) : a = some r := by rw [if_pos hp] at h; exact h
theorem gi_n {α : Type} {p : Prop} [Decidable p] {a b : Option α} {r : α} (hp : ¬ p) (h : (if p then a else b) = some r) : b = some r := by rw [if_neg hp] at h; exact h
/-- a loop: 'inl' goes on, 'inr' leaves -/
def itr {σ ρ : Type} : Nat → (σ → Option (σ ⊕ ρ)) → σ → Option ρ
  | 0, _, _ => none
  | F + 1, step, s => (step s).bind fun o => match o with
    | .inl s' => itr F step s'
    | .inr r => some r
theorem itr_w {σ ρ : Type} {step : σ → Option (σ ⊕ ρ)} {e : ρ} (P : σ → Prop) (h : ∀ s o, step s = some o → (∀ s', o = .inl s' → P s') → (∀ r, o = .inr r → r = e) → P s) : ∀ (F : Nat) (s : σ), itr F step s = some e → P s
  | 0, s, hx => by cases hx
  | F + 1, s, hx => by
    obtain ⟨o, h1, h2⟩ := gb_e hx
    refine h s o h1 (fun s' ho => ?_) (fun r ho => ?_)
    · subst ho
      exact itr_w P h F s' h2
    · subst ho
      exact Option.some.inj h2
def FU : Nat := 1000000
theorem FU_ge : 1000000 ≤ FU := Nat.le_refl _
section GR
variable {X : gX} {Y : gY} {cc : ByteArray} {own : String} {nL fr lo pc : Nat} {lv : List (Nat × Value)} {st : List Value} {M : gMem}
theorem q_sub {lv' : List (Nat × Value)} (ks : List Nat) (hl : lv_pick lv ks = lv') (k : gWW X Y nL pc lv' st M) : gWW X Y nL pc lv st M := fun H locs ls hS h => k H locs ls hS (lv_sub h ks hl)
theorem q_eq {st' : List Value} (h : st = st') (k : gWW X Y nL pc lv st' M) : gWW X Y nL pc lv st M := h ▸ k
theorem q_iconst (hC : gC X Y cc own nL fr lo) {n : Int} (v : Int32) (hd : decode cc pc = .ok (.iconst n, 1)) (hv : Int32.ofInt n = v) (k : gWW X Y nL (pc + 1) lv (.int v :: st) M) : gWW X Y nL pc lv st M := fun H locs ls hS h => lv_iconst hC.1 hC.2.1 hd hv (k H locs ls hS h)
theorem q_bipush (hC : gC X Y cc own nL fr lo) {n : Int} (v : Int32) (hd : decode cc pc = .ok (.bipush n, 2)) (hv : (Int8.ofInt n).toInt32 = v) (k : gWW X Y nL (pc + 2) lv (.int v :: st) M) : gWW X Y nL pc lv st M := fun H locs ls hS h => lv_bipush hC.1 hC.2.1 hd hv (k H locs ls hS h)
theorem q_sipush (hC : gC X Y cc own nL fr lo) {n : Int} (v : Int32) (hd : decode cc pc = .ok (.sipush n, 3)) (hv : (Int16.ofInt n).toInt32 = v) (k : gWW X Y nL (pc + 3) lv (.int v :: st) M) : gWW X Y nL pc lv st M := fun H locs ls hS h => lv_sipush hC.1 hC.2.1 hd hv (k H locs ls hS h)
theorem q_ldc (hC : gC X Y cc own nL fr lo) {idx : Nat} (v : Int32) (hd : decode cc pc = .ok (.ldc idx, 2)) (hw : Cond.constant own idx v ∈ gTs) (k : gWW X Y nL (pc + 2) lv (.int v :: st) M) : gWW X Y nL pc lv st M := fun H locs ls hS h => lv_ldc hC.1 hC.2.1 hC.2.2.2.1 (hC.2.2.2.2.1 _ hw) hd (k H locs ls hS h)
theorem q_ldcw (hC : gC X Y cc own nL fr lo) {idx : Nat} (v : Int32) (hd : decode cc pc = .ok (.ldc_w idx, 3)) (hw : Cond.constant own idx v ∈ gTs) (k : gWW X Y nL (pc + 3) lv (.int v :: st) M) : gWW X Y nL pc lv st M := fun H locs ls hS h => lv_ldcw hC.1 hC.2.1 hC.2.2.2.1 (hC.2.2.2.2.1 _ hw) hd (k H locs ls hS h)
theorem q_ldc2 (hC : gC X Y cc own nL fr lo) {idx : Nat} (v : Int64) (hd : decode cc pc = .ok (.ldc2_w idx, 3)) (hw : Cond.constantLong own idx v ∈ gTs) (k : gWW X Y nL (pc + 3) lv (.long v :: st) M) : gWW X Y nL pc lv st M := fun H locs ls hS h => lv_ldc2 hC.1 hC.2.1 hC.2.2.2.1 (hC.2.2.2.2.1 _ hw) hd (k H locs ls hS h)
theorem q_lconst (hC : gC X Y cc own nL fr lo) {n : Fin 2} (v : Int64) (hd : decode cc pc = .ok (.lconst n, 1)) (hv : Int64.ofNat (n : Nat) = v) (k : gWW X Y nL (pc + 1) lv (.long v :: st) M) : gWW X Y nL pc lv st M := fun H locs ls hS h => lv_lconst hC.1 hC.2.1 hd hv (k H locs ls hS h)
theorem q_iload_n (hC : gC X Y cc own nL fr lo) {k : Fin 4} {i : Nat} (q : Nat) {x : Int32} (hd : decode cc pc = .ok (.iload_n k, 1)) (hi : (k : Nat) = i) (hq : lv[q]? = some (i, .int x)) (k : gWW X Y nL (pc + 1) lv (.int x :: st) M) : gWW X Y nL pc lv st M := fun H locs ls hS h => lv_iload_n hC.1 hC.2.1 hd hi (lv_at h q hq) (k H locs ls hS h)
theorem q_iload (hC : gC X Y cc own nL fr lo) {i : Nat} (q : Nat) {x : Int32} (hd : decode cc pc = .ok (.iload i, 2)) (hq : lv[q]? = some (i, .int x)) (k : gWW X Y nL (pc + 2) lv (.int x :: st) M) : gWW X Y nL pc lv st M := fun H locs ls hS h => lv_iload hC.1 hC.2.1 hd (lv_at h q hq) (k H locs ls hS h)
theorem q_lload_n (hC : gC X Y cc own nL fr lo) {k : Fin 4} {i : Nat} (q : Nat) {x : Int64} (hd : decode cc pc = .ok (.lload_n k, 1)) (hi : (k : Nat) = i) (hq : lv[q]? = some (i, .long x)) (k : gWW X Y nL (pc + 1) lv (.long x :: st) M) : gWW X Y nL pc lv st M := fun H locs ls hS h => lv_lload_n hC.1 hC.2.1 hd hi (lv_at h q hq) (k H locs ls hS h)
theorem q_lload (hC : gC X Y cc own nL fr lo) {i : Nat} (q : Nat) {x : Int64} (hd : decode cc pc = .ok (.lload i, 2)) (hq : lv[q]? = some (i, .long x)) (k : gWW X Y nL (pc + 2) lv (.long x :: st) M) : gWW X Y nL pc lv st M := fun H locs ls hS h => lv_lload hC.1 hC.2.1 hd (lv_at h q hq) (k H locs ls hS h)
theorem q_aload_n (hC : gC X Y cc own nL fr lo) {k : Fin 4} {i : Nat} (q : Nat) {x : Nat} (hd : decode cc pc = .ok (.aload_n k, 1)) (hi : (k : Nat) = i) (hq : lv[q]? = some (i, .ref x)) (k : gWW X Y nL (pc + 1) lv (.ref x :: st) M) : gWW X Y nL pc lv st M := fun H locs ls hS h => lv_aload_n hC.1 hC.2.1 hd hi (lv_at h q hq) (k H locs ls hS h)
theorem q_aload (hC : gC X Y cc own nL fr lo) {i : Nat} (q : Nat) {x : Nat} (hd : decode cc pc = .ok (.aload i, 2)) (hq : lv[q]? = some (i, .ref x)) (k : gWW X Y nL (pc + 2) lv (.ref x :: st) M) : gWW X Y nL pc lv st M := fun H locs ls hS h => lv_aload hC.1 hC.2.1 hd (lv_at h q hq) (k H locs ls hS h)
theorem q_istore_n (hC : gC X Y cc own nL fr lo) {k : Fin 4} {i : Nat} {x : Int32} (lv' : List (Nat × Value)) (hd : decode cc pc = .ok (.istore_n k, 1)) (hi : (k : Nat) = i) (hn : i < nL) (hl : (i, Value.int x) :: lv.filter (fun q => !(q.1 == i) && !(q.1 + 1 == i && q.2.category == 2)) = lv') (k : gWW X Y nL (pc + 1) lv' st M) : gWW X Y nL pc lv (.int x :: st) M := fun H locs ls hS h => lv_istore_n hC.1 hC.2.1 hd hi h hn hl (fun ls h => k H locs ls hS h)
theorem q_istore (hC : gC X Y cc own nL fr lo) {i : Nat} {x : Int32} (lv' : List (Nat × Value)) (hd : decode cc pc = .ok (.istore i, 2)) (hn : i < nL) (hl : (i, Value.int x) :: lv.filter (fun q => !(q.1 == i) && !(q.1 + 1 == i && q.2.category == 2)) = lv') (k : gWW X Y nL (pc + 2) lv' st M) : gWW X Y nL pc lv (.int x :: st) M := fun H locs ls hS h => lv_istore hC.1 hC.2.1 hd h hn hl (fun ls h => k H locs ls hS h)
theorem q_lstore_n (hC : gC X Y cc own nL fr lo) {k : Fin 4} {i : Nat} {x : Int64} (lv' : List (Nat × Value)) (hd : decode cc pc = .ok (.lstore_n k, 1)) (hi : (k : Nat) = i) (hn : i + 1 < nL) (hl : (i, Value.long x) :: lv.filter (fun q => !(q.1 == i) && (!(q.1 == i + 1) && !(q.1 + 1 == i && q.2.category == 2))) = lv') (k : gWW X Y nL (pc + 1) lv' st M) : gWW X Y nL pc lv (.long x :: st) M := fun H locs ls hS h => lv_lstore_n hC.1 hC.2.1 hd hi h hn hl (fun ls h => k H locs ls hS h)
theorem q_lstore (hC : gC X Y cc own nL fr lo) {i : Nat} {x : Int64} (lv' : List (Nat × Value)) (hd : decode cc pc = .ok (.lstore i, 2)) (hn : i + 1 < nL) (hl : (i, Value.long x) :: lv.filter (fun q => !(q.1 == i) && (!(q.1 == i + 1) && !(q.1 + 1 == i && q.2.category == 2))) = lv') (k : gWW X Y nL (pc + 2) lv' st M) : gWW X Y nL pc lv (.long x :: st) M := fun H locs ls hS h => lv_lstore hC.1 hC.2.1 hd h hn hl (fun ls h => k H locs ls hS h)
theorem q_astore_n (hC : gC X Y cc own nL fr lo) {k : Fin 4} {i : Nat} {x : Nat} (lv' : List (Nat × Value)) (hd : decode cc pc = .ok (.astore_n k, 1)) (hi : (k : Nat) = i) (hn : i < nL) (hl : (i, Value.ref x) :: lv.filter (fun q => !(q.1 == i) && !(q.1 + 1 == i && q.2.category == 2)) = lv') (k : gWW X Y nL (pc + 1) lv' st M) : gWW X Y nL pc lv (.ref x :: st) M := fun H locs ls hS h => lv_astore_n hC.1 hC.2.1 hd hi h hn hl (fun ls h => k H locs ls hS h)
theorem q_astore (hC : gC X Y cc own nL fr lo) {i : Nat} {x : Nat} (lv' : List (Nat × Value)) (hd : decode cc pc = .ok (.astore i, 2)) (hn : i < nL) (hl : (i, Value.ref x) :: lv.filter (fun q => !(q.1 == i) && !(q.1 + 1 == i && q.2.category == 2)) = lv') (k : gWW X Y nL (pc + 2) lv' st M) : gWW X Y nL pc lv (.ref x :: st) M := fun H locs ls hS h => lv_astore hC.1 hC.2.1 hd h hn hl (fun ls h => k H locs ls hS h)
theorem q_iinc (hC : gC X Y cc own nL fr lo) {i : Nat} {n : Int} {x : Int32} (q : Nat) (d : Int32) (lv' : List (Nat × Value)) (hd : decode cc pc = .ok (.iinc i n, 3)) (hq : lv[q]? = some (i, .int x)) (hv : Int32.ofInt n = d) (hn : i < nL) (hl : (i, Value.int (x + d)) :: lv.filter (fun q => !(q.1 == i) && !(q.1 + 1 == i && q.2.category == 2)) = lv') (k : gWW X Y nL (pc + 3) lv' st M) : gWW X Y nL pc lv st M := fun H locs ls hS h => lv_iinc hC.1 hC.2.1 hd h hq (by rw [hv]) hn hl (fun ls h => k H locs ls hS h)
theorem q_iadd (hC : gC X Y cc own nL fr lo) {x y : Int32} (hd : decode cc pc = .ok (.iadd, 1)) (k : gWW X Y nL (pc + 1) lv (.int (x + y) :: st) M) : gWW X Y nL pc lv (.int y :: .int x :: st) M := fun H locs ls hS h => lv_iadd hC.1 hC.2.1 hd (k H locs ls hS h)
theorem q_isub (hC : gC X Y cc own nL fr lo) {x y : Int32} (hd : decode cc pc = .ok (.isub, 1)) (k : gWW X Y nL (pc + 1) lv (.int (x - y) :: st) M) : gWW X Y nL pc lv (.int y :: .int x :: st) M := fun H locs ls hS h => lv_isub hC.1 hC.2.1 hd (k H locs ls hS h)
theorem q_imul (hC : gC X Y cc own nL fr lo) {x y : Int32} (hd : decode cc pc = .ok (.imul, 1)) (k : gWW X Y nL (pc + 1) lv (.int (x * y) :: st) M) : gWW X Y nL pc lv (.int y :: .int x :: st) M := fun H locs ls hS h => lv_imul hC.1 hC.2.1 hd (k H locs ls hS h)
theorem q_iand (hC : gC X Y cc own nL fr lo) {x y : Int32} (hd : decode cc pc = .ok (.iand, 1)) (k : gWW X Y nL (pc + 1) lv (.int (x &&& y) :: st) M) : gWW X Y nL pc lv (.int y :: .int x :: st) M := fun H locs ls hS h => lv_iand hC.1 hC.2.1 hd (k H locs ls hS h)
theorem q_ior (hC : gC X Y cc own nL fr lo) {x y : Int32} (hd : decode cc pc = .ok (.ior, 1)) (k : gWW X Y nL (pc + 1) lv (.int (x ||| y) :: st) M) : gWW X Y nL pc lv (.int y :: .int x :: st) M := fun H locs ls hS h => lv_ior hC.1 hC.2.1 hd (k H locs ls hS h)
theorem q_ixor (hC : gC X Y cc own nL fr lo) {x y : Int32} (hd : decode cc pc = .ok (.ixor, 1)) (k : gWW X Y nL (pc + 1) lv (.int (x ^^^ y) :: st) M) : gWW X Y nL pc lv (.int y :: .int x :: st) M := fun H locs ls hS h => lv_ixor hC.1 hC.2.1 hd (k H locs ls hS h)
theorem q_idiv (hC : gC X Y cc own nL fr lo) {x y : Int32} (hd : decode cc pc = .ok (.idiv, 1)) (hne : ¬ y = 0) (k : gWW X Y nL (pc + 1) lv (.int (x / y) :: st) M) : gWW X Y nL pc lv (.int y :: .int x :: st) M := fun H locs ls hS h => lv_idiv hC.1 hC.2.1 hd hne (k H locs ls hS h)
theorem q_irem (hC : gC X Y cc own nL fr lo) {x y : Int32} (hd : decode cc pc = .ok (.irem, 1)) (hne : ¬ y = 0) (k : gWW X Y nL (pc + 1) lv (.int (x - x / y * y) :: st) M) : gWW X Y nL pc lv (.int y :: .int x :: st) M := fun H locs ls hS h => lv_irem hC.1 hC.2.1 hd hne (k H locs ls hS h)
theorem q_ishl (hC : gC X Y cc own nL fr lo) {x y : Int32} (hd : decode cc pc = .ok (.ishl, 1)) (k : gWW X Y nL (pc + 1) lv (.int (x <<< (y &&& 31)) :: st) M) : gWW X Y nL pc lv (.int y :: .int x :: st) M := fun H locs ls hS h => lv_ishl hC.1 hC.2.1 hd (k H locs ls hS h)
theorem q_ishr (hC : gC X Y cc own nL fr lo) {x y : Int32} (hd : decode cc pc = .ok (.ishr, 1)) (k : gWW X Y nL (pc + 1) lv (.int (x >>> (y &&& 31)) :: st) M) : gWW X Y nL pc lv (.int y :: .int x :: st) M := fun H locs ls hS h => lv_ishr hC.1 hC.2.1 hd (k H locs ls hS h)
theorem q_ladd (hC : gC X Y cc own nL fr lo) {x y : Int64} (hd : decode cc pc = .ok (.ladd, 1)) (k : gWW X Y nL (pc + 1) lv (.long (x + y) :: st) M) : gWW X Y nL pc lv (.long y :: .long x :: st) M := fun H locs ls hS h => lv_ladd hC.1 hC.2.1 hd (k H locs ls hS h)
theorem q_lmul (hC : gC X Y cc own nL fr lo) {x y : Int64} (hd : decode cc pc = .ok (.lmul, 1)) (k : gWW X Y nL (pc + 1) lv (.long (x * y) :: st) M) : gWW X Y nL pc lv (.long y :: .long x :: st) M := fun H locs ls hS h => lv_lmul hC.1 hC.2.1 hd (k H locs ls hS h)
theorem q_ldiv (hC : gC X Y cc own nL fr lo) {x y : Int64} (hd : decode cc pc = .ok (.ldiv, 1)) (hne : ¬ y = 0) (k : gWW X Y nL (pc + 1) lv (.long (x / y) :: st) M) : gWW X Y nL pc lv (.long y :: .long x :: st) M := fun H locs ls hS h => lv_ldiv hC.1 hC.2.1 hd hne (k H locs ls hS h)
theorem q_lrem (hC : gC X Y cc own nL fr lo) {x y : Int64} (hd : decode cc pc = .ok (.lrem, 1)) (hne : ¬ y = 0) (k : gWW X Y nL (pc + 1) lv (.long (x - x / y * y) :: st) M) : gWW X Y nL pc lv (.long y :: .long x :: st) M := fun H locs ls hS h => lv_lrem hC.1 hC.2.1 hd hne (k H locs ls hS h)
theorem q_iushr (hC : gC X Y cc own nL fr lo) {x y : Int32} (hd : decode cc pc = .ok (.iushr, 1)) (k : gWW X Y nL (pc + 1) lv (.int ((x.toUInt32 >>> (y.toUInt32 &&& Int32.toUInt32 31)).toInt32) :: st) M) : gWW X Y nL pc lv (.int y :: .int x :: st) M := fun H locs ls hS h => lv_iushr hC.1 hC.2.1 hd rfl (k H locs ls hS h)
theorem q_ineg (hC : gC X Y cc own nL fr lo) {x : Int32} (hd : decode cc pc = .ok (.ineg, 1)) (k : gWW X Y nL (pc + 1) lv (.int (-x) :: st) M) : gWW X Y nL pc lv (.int x :: st) M := fun H locs ls hS h => lv_ineg hC.1 hC.2.1 hd (k H locs ls hS h)
theorem q_i2l (hC : gC X Y cc own nL fr lo) {x : Int32} (hd : decode cc pc = .ok (.i2l, 1)) (k : gWW X Y nL (pc + 1) lv (.long x.toInt64 :: st) M) : gWW X Y nL pc lv (.int x :: st) M := fun H locs ls hS h => lv_i2l hC.1 hC.2.1 hd rfl (k H locs ls hS h)
theorem q_l2i (hC : gC X Y cc own nL fr lo) {x : Int64} (hd : decode cc pc = .ok (.l2i, 1)) (k : gWW X Y nL (pc + 1) lv (.int x.toInt32 :: st) M) : gWW X Y nL pc lv (.long x :: st) M := fun H locs ls hS h => lv_l2i hC.1 hC.2.1 hd rfl (k H locs ls hS h)
theorem q_i2c (hC : gC X Y cc own nL fr lo) {x : Int32} (hd : decode cc pc = .ok (.i2c, 1)) (k : gWW X Y nL (pc + 1) lv (.int (x.toUInt32 % 65536).toInt32 :: st) M) : gWW X Y nL pc lv (.int x :: st) M := fun H locs ls hS h => lv_i2c hC.1 hC.2.1 hd rfl (k H locs ls hS h)
theorem q_lcmp (hC : gC X Y cc own nL fr lo) {x y : Int64} (hd : decode cc pc = .ok (.lcmp, 1)) (k : gWW X Y nL (pc + 1) lv (.int (lg_cmp x y) :: st) M) : gWW X Y nL pc lv (.long y :: .long x :: st) M := fun H locs ls hS h => W.lcmp hC.1 hC.2.1 hd (k H locs ls hS h)
theorem q_dup (hC : gC X Y cc own nL fr lo) {v : Value} (hd : decode cc pc = .ok (.dup, 1)) (hv : v.category = 1) (k : gWW X Y nL (pc + 1) lv (v :: v :: st) M) : gWW X Y nL pc lv (v :: st) M := fun H locs ls hS h => lv_dup hC.1 hC.2.1 hd hv (k H locs ls hS h)
theorem q_dup2 (hC : gC X Y cc own nL fr lo) {v w : Value} (hd : decode cc pc = .ok (.dup2, 1)) (hv : v.category = 1) (hw : w.category = 1) (k : gWW X Y nL (pc + 1) lv (v :: w :: v :: w :: st) M) : gWW X Y nL pc lv (v :: w :: st) M := fun H locs ls hS h => lv_dup2_11 hC.1 hC.2.1 hd hv hw (k H locs ls hS h)
theorem q_pop (hC : gC X Y cc own nL fr lo) {v : Value} (hd : decode cc pc = .ok (.pop, 1)) (hv : v.category = 1) (k : gWW X Y nL (pc + 1) lv st M) : gWW X Y nL pc lv (v :: st) M := fun H locs ls hS h => lv_pop hC.1 hC.2.1 hd hv (k H locs ls hS h)
theorem q_goto (hC : gC X Y cc own nL fr lo) {off : Int} (tgt : Nat) (hd : decode cc pc = .ok (.goto off, 3)) (ht : (pc : Int) + off = (tgt : Int)) (k : gWW X Y nL tgt lv st M) : gWW X Y nL pc lv st M := fun H locs ls hS h => lv_goto hC.1 hC.2.1 hd ht (k H locs ls hS h)
theorem q_if_eq (hC : gC X Y cc own nL fr lo) {x : Int32} {off : Int} (tgt : Nat) (hd : decode cc pc = .ok (.ifCond .eq off, 3)) (ht : (pc : Int) + off = (tgt : Int)) (kt : x = 0 → gWW X Y nL tgt lv st M) (kf : ¬ x = 0 → gWW X Y nL (pc + 3) lv st M) : gWW X Y nL pc lv (.int x :: st) M := fun H locs ls hS h => lv_if_eq hC.1 hC.2.1 hd ht (fun q => kt q H locs ls hS h) (fun q => kf q H locs ls hS h)
theorem q_if_ne (hC : gC X Y cc own nL fr lo) {x : Int32} {off : Int} (tgt : Nat) (hd : decode cc pc = .ok (.ifCond .ne off, 3)) (ht : (pc : Int) + off = (tgt : Int)) (kt : ¬ x = 0 → gWW X Y nL tgt lv st M) (kf : x = 0 → gWW X Y nL (pc + 3) lv st M) : gWW X Y nL pc lv (.int x :: st) M := fun H locs ls hS h => lv_if_ne hC.1 hC.2.1 hd ht (fun q => kt q H locs ls hS h) (fun q => kf q H locs ls hS h)
theorem q_if_lt (hC : gC X Y cc own nL fr lo) {x : Int32} {off : Int} (tgt : Nat) (hd : decode cc pc = .ok (.ifCond .lt off, 3)) (ht : (pc : Int) + off = (tgt : Int)) (kt : x < 0 → gWW X Y nL tgt lv st M) (kf : ¬ x < 0 → gWW X Y nL (pc + 3) lv st M) : gWW X Y nL pc lv (.int x :: st) M := fun H locs ls hS h => lv_if_lt hC.1 hC.2.1 hd ht (fun q => kt q H locs ls hS h) (fun q => kf q H locs ls hS h)
theorem q_if_ge (hC : gC X Y cc own nL fr lo) {x : Int32} {off : Int} (tgt : Nat) (hd : decode cc pc = .ok (.ifCond .ge off, 3)) (ht : (pc : Int) + off = (tgt : Int)) (kt : 0 ≤ x → gWW X Y nL tgt lv st M) (kf : ¬ 0 ≤ x → gWW X Y nL (pc + 3) lv st M) : gWW X Y nL pc lv (.int x :: st) M := fun H locs ls hS h => lv_if_ge hC.1 hC.2.1 hd ht (fun q => kt q H locs ls hS h) (fun q => kf q H locs ls hS h)
theorem q_if_gt (hC : gC X Y cc own nL fr lo) {x : Int32} {off : Int} (tgt : Nat) (hd : decode cc pc = .ok (.ifCond .gt off, 3)) (ht : (pc : Int) + off = (tgt : Int)) (kt : 0 < x → gWW X Y nL tgt lv st M) (kf : ¬ 0 < x → gWW X Y nL (pc + 3) lv st M) : gWW X Y nL pc lv (.int x :: st) M := fun H locs ls hS h => lv_if_gt hC.1 hC.2.1 hd ht (fun q => kt q H locs ls hS h) (fun q => kf q H locs ls hS h)
theorem q_if_le (hC : gC X Y cc own nL fr lo) {x : Int32} {off : Int} (tgt : Nat) (hd : decode cc pc = .ok (.ifCond .le off, 3)) (ht : (pc : Int) + off = (tgt : Int)) (kt : x ≤ 0 → gWW X Y nL tgt lv st M) (kf : ¬ x ≤ 0 → gWW X Y nL (pc + 3) lv st M) : gWW X Y nL pc lv (.int x :: st) M := fun H locs ls hS h => lv_if_le hC.1 hC.2.1 hd ht (fun q => kt q H locs ls hS h) (fun q => kf q H locs ls hS h)
theorem q_ic_eq (hC : gC X Y cc own nL fr lo) {x y : Int32} {off : Int} (tgt : Nat) (hd : decode cc pc = .ok (.if_icmp .eq off, 3)) (ht : (pc : Int) + off = (tgt : Int)) (kt : x = y → gWW X Y nL tgt lv st M) (kf : ¬ x = y → gWW X Y nL (pc + 3) lv st M) : gWW X Y nL pc lv (.int y :: .int x :: st) M := fun H locs ls hS h => lv_icmp_eq hC.1 hC.2.1 hd ht (fun q => kt q H locs ls hS h) (fun q => kf q H locs ls hS h)
theorem q_ic_ne (hC : gC X Y cc own nL fr lo) {x y : Int32} {off : Int} (tgt : Nat) (hd : decode cc pc = .ok (.if_icmp .ne off, 3)) (ht : (pc : Int) + off = (tgt : Int)) (kt : ¬ x = y → gWW X Y nL tgt lv st M) (kf : x = y → gWW X Y nL (pc + 3) lv st M) : gWW X Y nL pc lv (.int y :: .int x :: st) M := fun H locs ls hS h => lv_icmp_ne hC.1 hC.2.1 hd ht (fun q => kt q H locs ls hS h) (fun q => kf q H locs ls hS h)
theorem q_ic_lt (hC : gC X Y cc own nL fr lo) {x y : Int32} {off : Int} (tgt : Nat) (hd : decode cc pc = .ok (.if_icmp .lt off, 3)) (ht : (pc : Int) + off = (tgt : Int)) (kt : x < y → gWW X Y nL tgt lv st M) (kf : ¬ x < y → gWW X Y nL (pc + 3) lv st M) : gWW X Y nL pc lv (.int y :: .int x :: st) M := fun H locs ls hS h => lv_icmp_lt hC.1 hC.2.1 hd ht (fun q => kt q H locs ls hS h) (fun q => kf q H locs ls hS h)
theorem q_ic_ge (hC : gC X Y cc own nL fr lo) {x y : Int32} {off : Int} (tgt : Nat) (hd : decode cc pc = .ok (.if_icmp .ge off, 3)) (ht : (pc : Int) + off = (tgt : Int)) (kt : y ≤ x → gWW X Y nL tgt lv st M) (kf : ¬ y ≤ x → gWW X Y nL (pc + 3) lv st M) : gWW X Y nL pc lv (.int y :: .int x :: st) M := fun H locs ls hS h => lv_icmp_ge hC.1 hC.2.1 hd ht (fun q => kt q H locs ls hS h) (fun q => kf q H locs ls hS h)
theorem q_ic_gt (hC : gC X Y cc own nL fr lo) {x y : Int32} {off : Int} (tgt : Nat) (hd : decode cc pc = .ok (.if_icmp .gt off, 3)) (ht : (pc : Int) + off = (tgt : Int)) (kt : y < x → gWW X Y nL tgt lv st M) (kf : ¬ y < x → gWW X Y nL (pc + 3) lv st M) : gWW X Y nL pc lv (.int y :: .int x :: st) M := fun H locs ls hS h => lv_icmp_gt hC.1 hC.2.1 hd ht (fun q => kt q H locs ls hS h) (fun q => kf q H locs ls hS h)
theorem q_ic_le (hC : gC X Y cc own nL fr lo) {x y : Int32} {off : Int} (tgt : Nat) (hd : decode cc pc = .ok (.if_icmp .le off, 3)) (ht : (pc : Int) + off = (tgt : Int)) (kt : x ≤ y → gWW X Y nL tgt lv st M) (kf : ¬ x ≤ y → gWW X Y nL (pc + 3) lv st M) : gWW X Y nL pc lv (.int y :: .int x :: st) M := fun H locs ls hS h => lv_icmp_le hC.1 hC.2.1 hd ht (fun q => kt q H locs ls hS h) (fun q => kf q H locs ls hS h)
end GR
end
section
/-! memory rows, methods, calls -/
theorem gPL_V {c o : Nat} (h : (c, o) ∈ gPL) : gV c o := by
  rcases List.mem_append.mp h with h | h
  · obtain ⟨k, hk, e⟩ := List.mem_map.mp h
    have hk := List.mem_range.mp hk
    cases e
    exact Or.inl ⟨by omega, by omega⟩
  · obtain ⟨k, hk, e⟩ := List.mem_map.mp h
    have hk := List.mem_range.mp hk
    cases e
    exact Or.inr ⟨by omega, by omega, rfl⟩
theorem gW_at {Y : gY} {M : gMem} {c o : Nat} (hV : gV c o) : ∃ k : Nat, (gW Y M)[k]? = some (gad Y c o, gcel Y M c o) ∧ gPL[k]? = some (c, o) := by
  obtain ⟨k, hk⟩ := List.getElem?_of_mem (gV_in hV)
  exact ⟨k, by unfold gW; rw [List.getElem?_map, hk]; rfl, hk⟩
theorem gW_set {Y : gY} {M M' : gMem} {A : Nat → Prop} {c o k : Nat} {e : va_E} (hD : va_D A (gW Y M)) (hk : gPL[k]? = some (c, o)) (he : gcel Y M' c o = e) (hne : ∀ c' o', gV c' o' → ¬ (c' = c ∧ o' = o) → gcel Y M' c' o' = gcel Y M c' o') : (gW Y M).set k (gad Y c o, e) = gW Y M' := by
  have hW : (gW Y M)[k]? = some (gad Y c o, gcel Y M c o) := by unfold gW; rw [List.getElem?_map, hk]; rfl
  have hl := (List.getElem?_eq_some_iff.mp hW).1
  apply List.ext_getElem?
  intro j
  by_cases hj : j = k
  · subst hj
    rw [List.getElem?_set_self hl]
    unfold gW
    rw [List.getElem?_map, hk]
    show _ = some (gad Y c o, gcel Y M' c o)
    rw [he]
  · rw [List.getElem?_set_ne (Ne.symm hj)]
    unfold gW
    rw [List.getElem?_map, List.getElem?_map]
    cases hb : gPL[j]? with
    | none => rfl
    | some b =>
      obtain ⟨c', o'⟩ := b
      have h2 : ¬ (c' = c ∧ o' = o) := by
        rintro ⟨rfl, rfl⟩
        have h3 : (gW Y M)[j]? = some (gad Y c' o', gcel Y M c' o') := by unfold gW; rw [List.getElem?_map, hb]; rfl
        exact hj (hD.1 j k _ _ h3 hW rfl)
      show some (gad Y c' o', gcel Y M c' o') = some (gad Y c' o', gcel Y M' c' o')
      rw [hne c' o' (gPL_V (List.mem_of_getElem? hb)) h2]
theorem gup_ne {Y : gY} {M : gMem} {c o : Nat} {g : Nat → Int32} : ∀ c' o', gV c' o' → ¬ (c' = c ∧ o' = o) → gcel Y (gup M c o g) c' o' = gcel Y M c' o' := by
  intro c' o' _ h
  unfold gcel gup
  dsimp only
  rw [if_neg h]
theorem gup_at (M : gMem) (c o : Nat) (g : Nat → Int32) : (gup M c o g).1 c o = g := by
  unfold gup
  dsimp only
  rw [if_pos ⟨rfl, rfl⟩]
theorem gwl_ne {Y : gY} {M : gMem} {o k : Nat} {x : Int64} (ho : 34 ≤ o) : ∀ c' o', gV c' o' → ¬ (c' = 0 ∧ o' = o) → gcel Y (gwl M o k x) c' o' = gcel Y M c' o' := by
  intro c' o' hV h
  have h2 : o' ≠ o := by
    rcases hV with ⟨h1, h2⟩ | ⟨h1, h2, h3⟩
    · omega
    · exact fun q => h ⟨h3, q⟩
  unfold gcel gwl
  dsimp only
  congr 1
  funext k'
  rw [if_neg (fun q => h2 q.1)]
theorem gce_a {Y : gY} {M : gMem} {c o : Nat} (n : Nat) (hn : glen o = n + 1) : gcel Y M c o = .inl (gca Y 0, n + 1, .inl (M.1 c o)) := by
  unfold gcel gce
  rw [hn, if_neg (by omega)]
section GM
variable {X : gX} {Y : gY} {cc : ByteArray} {own : String} {nL fr lo pc : Nat} {lv : List (Nat × Value)} {st : List Value} {M : gMem}
theorem q_get (hC : gC X Y cc own nL fr lo) {c o ci k idx N : Nat} {C : String} {T : u_T} {fs : List Value} {v : Value} (hV : gV c o) (he : gcel Y M c o = .inr (ci, fs)) (hc : vwCl[ci]? = some (C, T, N)) (hin : ∀ w ∈ u_ws C T N, w ∈ gTs) (hk : k < N) (hl : Cond.fieldLink own idx (T k).1 (T k).2.1 (T k).2.2.1 ∈ gTs) (hv : fs[k]? = some v) (hd : decode cc pc = .ok (.getfield idx, 3)) (kk : gWW X Y nL (pc + 3) lv (v :: st) M) : gWW X Y nL pc lv (.ref (gad Y c o) :: st) M := by
  intro H locs ls hS h
  obtain ⟨q, hq, -⟩ := gW_at (Y := Y) (M := M) hV
  rw [he] at hq
  exact va_get (D := Y.1) (ref := (T k).1) hC.1 hC.2.1 hC.2.2.2.2.1 hin hC.2.2.2.1 hC.2.2.2.2.2.1 hS.1 q hq hc k hk (hC.2.2.2.2.1 _ hl) (fun _ h9 => h9) hv hd (kk H locs ls hS h)
theorem q_getN (hC : gC X Y cc own nL fr lo) {c o ci k idx N : Nat} {C host : String} {T : u_T} {fs : List Value} {v : Value} (hV : gV c o) (he : gcel Y M c o = .inr (ci, fs)) (hc : vwCl[ci]? = some (C, T, N)) (hin : ∀ w ∈ u_ws C T N, w ∈ gTs) (hk : k < N) (hl : Cond.fieldLinkNest own idx (T k).1 (T k).2.1 (T k).2.2.1 host ∈ gNW) (hv : fs[k]? = some v) (hd : decode cc pc = .ok (.getfield idx, 3)) (kk : gWW X Y nL (pc + 3) lv (v :: st) M) : gWW X Y nL pc lv (.ref (gad Y c o) :: st) M := by
  intro H locs ls hS h
  obtain ⟨q, hq, -⟩ := gW_at (Y := Y) (M := M) hV
  rw [he] at hq
  exact va_getN (D := Y.1) (ref := (T k).1) (host := host) hC.1 hC.2.1 hC.2.2.2.2.1 hin hC.2.2.2.1 hC.2.2.2.2.2.1 hS.1 q hq hc k hk ((hC.2.2.2.2.2.2.1 _ hl).use rfl) (fun _ h9 => h9) hv hd (kk H locs ls hS h)
theorem q_put (hC : gC X Y cc own nL fr lo) {c o ci k idx N : Nat} {C : String} {T : u_T} {fs : List Value} {v : Value} {ty : FieldType} {ty0 : Nat → FieldType} (M' : gMem) (hV : gV c o) (he : gcel Y M c o = .inr (ci, fs)) (hc : vwCl[ci]? = some (C, T, N)) (hin : ∀ w ∈ u_ws C T N, w ∈ gTs) (hty : ∀ k, k < N → parseFieldDescriptor (T k).2.2.1 = some (ty0 k)) (hnm : ∀ a, a < N → ∀ b, b < N → a ≠ b → (T a).2.1 ≠ (T b).2.1) (hk : k < N) (hl : Cond.fieldLink own idx (T k).1 (T k).2.1 (T k).2.2.1 ∈ gTs) (hfin : (T k).2.2.2 = false) (hdd : parseFieldDescriptor (T k).2.2.1 = some ty) (hn : narrow ty v = v) (hf : fits ty v = true) (hlen : k < fs.length) (he' : gcel Y M' c o = .inr (ci, fs.set k v)) (hne : ∀ c' o', gV c' o' → ¬ (c' = c ∧ o' = o) → gcel Y M' c' o' = gcel Y M c' o') (hd : decode cc pc = .ok (.putfield idx, 3)) (kk : gWW X Y nL (pc + 3) lv st M') : gWW X Y nL pc lv (v :: .ref (gad Y c o) :: st) M := by
  intro H locs ls hS h
  obtain ⟨q, hq, hq2⟩ := gW_at (Y := Y) (M := M) hV
  rw [he] at hq
  refine va_put (D := Y.1) (ref := (T k).1) (A := gA Y) hC.1 hC.2.1 hC.2.2.2.2.1 hin ty0 hty hnm hC.2.2.2.1 hC.2.2.2.2.2.1 hS.1 hS.2.1 hS.2.2 q hq hc k hk (hC.2.2.2.2.1 _ hl) (fun _ h9 => h9) hfin hdd hn hf hlen hd (fun H1 locs1 g1 g2 g3 => ?_)
  rw [gW_set hS.2.1 hq2 he' hne] at g1 g2
  exact kk H1 locs1 ls ⟨g1, g2, g3⟩ h
theorem q_putN (hC : gC X Y cc own nL fr lo) {c o ci k idx N : Nat} {C host : String} {T : u_T} {fs : List Value} {v : Value} {ty : FieldType} {ty0 : Nat → FieldType} (M' : gMem) (hV : gV c o) (he : gcel Y M c o = .inr (ci, fs)) (hc : vwCl[ci]? = some (C, T, N)) (hin : ∀ w ∈ u_ws C T N, w ∈ gTs) (hty : ∀ k, k < N → parseFieldDescriptor (T k).2.2.1 = some (ty0 k)) (hnm : ∀ a, a < N → ∀ b, b < N → a ≠ b → (T a).2.1 ≠ (T b).2.1) (hk : k < N) (hl : Cond.fieldLinkNest own idx (T k).1 (T k).2.1 (T k).2.2.1 host ∈ gNW) (hfin : (T k).2.2.2 = false) (hdd : parseFieldDescriptor (T k).2.2.1 = some ty) (hn : narrow ty v = v) (hf : fits ty v = true) (hlen : k < fs.length) (he' : gcel Y M' c o = .inr (ci, fs.set k v)) (hne : ∀ c' o', gV c' o' → ¬ (c' = c ∧ o' = o) → gcel Y M' c' o' = gcel Y M c' o') (hd : decode cc pc = .ok (.putfield idx, 3)) (kk : gWW X Y nL (pc + 3) lv st M') : gWW X Y nL pc lv (v :: .ref (gad Y c o) :: st) M := by
  intro H locs ls hS h
  obtain ⟨q, hq, hq2⟩ := gW_at (Y := Y) (M := M) hV
  rw [he] at hq
  refine va_putN (D := Y.1) (ref := (T k).1) (host := host) (A := gA Y) hC.1 hC.2.1 hC.2.2.2.2.1 hin ty0 hty hnm hC.2.2.2.1 hC.2.2.2.2.2.1 hS.1 hS.2.1 hS.2.2 q hq hc k hk ((hC.2.2.2.2.2.2.1 _ hl).use rfl) (fun _ h9 => h9) hfin hdd hn hf hlen hd (fun H1 locs1 g1 g2 g3 => ?_)
  rw [gW_set hS.2.1 hq2 he' hne] at g1 g2
  exact kk H1 locs1 ls ⟨g1, g2, g3⟩ h
theorem q_iald (hC : gC X Y cc own nL fr lo) {c o : Nat} {i : Int32} (n : Nat) (hV : gV c o) (hn : glen o = n + 1) (hi : vp_in i (n + 1)) (hd : decode cc pc = .ok (.iaload, 1)) (kk : gWW X Y nL (pc + 1) lv (.int (M.1 c o i.toNatClampNeg) :: st) M) : gWW X Y nL pc lv (.int i :: .ref (gad Y c o) :: st) M := by
  intro H locs ls hS h
  obtain ⟨q, hq, -⟩ := gW_at (Y := Y) (M := M) hV
  rw [gce_a n hn] at hq
  exact va_iald (D := Y.1) hC.1 hC.2.1 hC.2.2.2.2.2.1 hS.1 q 0 hq rfl hi hd (kk H locs ls hS h)
theorem q_iast (hC : gC X Y cc own nL fr lo) {c o : Nat} {i x : Int32} (n : Nat) (hV : gV c o) (hn : glen o = n + 1) (hi : vp_in i (n + 1)) (hd : decode cc pc = .ok (.iastore, 1)) (kk : gWW X Y nL (pc + 1) lv st (gwr M c o i.toNatClampNeg x)) : gWW X Y nL pc lv (.int x :: .int i :: .ref (gad Y c o) :: st) M := by
  intro H locs ls hS h
  obtain ⟨q, hq, hq2⟩ := gW_at (Y := Y) (M := M) hV
  rw [gce_a n hn] at hq
  refine va_iast (D := Y.1) (A := gA Y) hC.1 hC.2.1 hC.2.2.2.2.2.1 hS.1 hS.2.1 hS.2.2 q 0 hq rfl hi hd (fun H1 locs1 g1 g2 g3 => ?_)
  rw [gW_set (M' := gwr M c o i.toNatClampNeg x) hS.2.1 hq2 (by rw [gce_a n hn]; unfold gwr; rw [gup_at]) gup_ne] at g1 g2
  exact kk H1 locs1 ls ⟨g1, g2, g3⟩ h
theorem q_zald (hC : gC X Y cc own nL fr lo) {c o : Nat} {i : Int32} (hV : gV c o) (he : gcel Y M c o = .inl (gca Y 1, 2, .inl (M.1 c o))) (hi : vp_in i 2) (hd : decode cc pc = .ok (.baload, 1)) (kk : gWW X Y nL (pc + 1) lv (.int (M.1 c o i.toNatClampNeg) :: st) M) : gWW X Y nL pc lv (.int i :: .ref (gad Y c o) :: st) M := by
  intro H locs ls hS h
  obtain ⟨q, hq, -⟩ := gW_at (Y := Y) (M := M) hV
  rw [he] at hq
  exact va_zald (D := Y.1) hC.1 hC.2.1 hC.2.2.2.2.2.1 hS.1 q 1 hq rfl hi hd (kk H locs ls hS h)
theorem q_zast (hC : gC X Y cc own nL fr lo) {c o : Nat} {i x : Int32} (hV : gV c o) (he : ∀ M : gMem, gcel Y M c o = .inl (gca Y 1, 2, .inl (M.1 c o))) (hi : vp_in i 2) (hx : vp_nar .boolean x = x) (hd : decode cc pc = .ok (.bastore, 1)) (kk : gWW X Y nL (pc + 1) lv st (gwr M c o i.toNatClampNeg x)) : gWW X Y nL pc lv (.int x :: .int i :: .ref (gad Y c o) :: st) M := by
  intro H locs ls hS h
  obtain ⟨q, hq, hq2⟩ := gW_at (Y := Y) (M := M) hV
  rw [he] at hq
  refine va_zast (D := Y.1) (A := gA Y) hC.1 hC.2.1 hC.2.2.2.2.2.1 hS.1 hS.2.1 hS.2.2 q 1 hq rfl hi hd (fun H1 locs1 g1 g2 g3 => ?_)
  rw [hx] at g1 g2
  rw [gW_set (M' := gwr M c o i.toNatClampNeg x) hS.2.1 hq2 (by rw [he]; unfold gwr; rw [gup_at]) gup_ne] at g1 g2
  exact kk H1 locs1 ls ⟨g1, g2, g3⟩ h
theorem q_aald (hC : gC X Y cc own nL fr lo) {c o n b t0 : Nat} {i : Int32} {cA : ClassId} {ty : FieldType} {f : Nat → Option Nat} (hV : gV c o) (he : gcel Y M c o = .inl (cA, n, .inr (.inr (.inr (.inr f))))) (ht : (gTys Y)[t0]? = some (cA, ty)) (hty : ty.isReference = true) (hi : vp_in i n) (hf : f i.toNatClampNeg = some b) (hd : decode cc pc = .ok (.aaload, 1)) (kk : gWW X Y nL (pc + 1) lv (.ref b :: st) M) : gWW X Y nL pc lv (.int i :: .ref (gad Y c o) :: st) M := by
  intro H locs ls hS h
  obtain ⟨q, hq, -⟩ := gW_at (Y := Y) (M := M) hV
  rw [he] at hq
  have hlt : i.toNatClampNeg < n := Nat.not_le.mp fun q => hi (Or.inr q)
  refine W.aald (v := .ref b) (ty := ty) hC.1 hC.2.1 (hS.1 q _ hq) ((hC.2.2.2.2.2.1.2 t0 _ ht).1 n (fun j => va_rf (f j))) hty (fun q => by cases q) (by show ¬ (i < 0 ∨ (arrV _ _ _).slots.size ≤ _); rw [arrV_size]; exact hi) (by show (arrV _ _ _).slots[_]? = _; rw [arrV_read _ _ hlt, hf]; rfl) rfl rfl hd (kk H locs ls hS h)
theorem q_alen (hC : gC X Y cc own nL fr lo) {c o : Nat} (n : Nat) (v : Int32) (hV : gV c o) (hn : glen o = n + 1) (hv : Int32.ofNat (n + 1) = v) (hd : decode cc pc = .ok (.arraylength, 1)) (kk : gWW X Y nL (pc + 1) lv (.int v :: st) M) : gWW X Y nL pc lv (.ref (gad Y c o) :: st) M := by
  intro H locs ls hS h
  obtain ⟨q, hq, -⟩ := gW_at (Y := Y) (M := M) hV
  rw [gce_a n hn] at hq
  exact va_alen (D := Y.1) hC.1 hC.2.1 hC.2.2.2.2.2.1 hS.1 q 0 hq rfl hv hd (kk H locs ls hS h)
/-- System.arraycopy over int rows -/
theorem q_copy (hC : gC X Y cc own nL fr lo) {c0 o0 c1 o1 idx : Nat} {sp dp n : Int32} (n0 n1 : Nat) (hV0 : gV c0 o0) (hV1 : gV c1 o1) (hn0 : glen o0 = n0 + 1) (hn1 : glen o1 = n1 + 1) (hl : Cond.methodLink own idx arraycopyName ∈ gTs) (hg : (¬ sp < 0 ∧ ¬ dp < 0 ∧ ¬ n < 0) ∧ sp.toNatClampNeg + n.toNatClampNeg ≤ n0 + 1 ∧ dp.toNatClampNeg + n.toNatClampNeg ≤ n1 + 1) (hw : Cond.native arraycopyName ∈ gTs ∧ Cond.static arraycopyName ∈ gTs ∧ Cond.initialized "java/lang/System" ∈ gTs) (hfr : 1 ≤ fr) (hlo : (st.map fun v => v.category).sum + (nativeFrameWords "java/lang/System" "arraycopy" 5 + 11) ≤ lo) (hd : decode cc pc = .ok (.invokestatic idx, 3)) (kk : gWW X Y nL (pc + 3) lv st (gup M c1 o1 (va_cpy (M.1 c0 o0) (M.1 c1 o1) sp.toNatClampNeg dp.toNatClampNeg n.toNatClampNeg))) : gWW X Y nL pc lv (.int n :: .int dp :: .ref (gad Y c1 o1) :: .int sp :: .ref (gad Y c0 o0) :: st) M := by
  intro H locs ls hS h
  obtain ⟨q0, hq0, -⟩ := gW_at (Y := Y) (M := M) hV0
  obtain ⟨q1, hq1, hq2⟩ := gW_at (Y := Y) (M := M) hV1
  rw [gce_a n0 hn0] at hq0
  rw [gce_a n1 hn1] at hq1
  have hts := hC.2.2.2.2.1
  have hR := hC.2.2.2.2.2.2.2.2
  refine va_copyi (D := Y.1) (A := gA Y) hC.1 hC.2.1 (hC.2.2.1.trans h.1.symm) hC.2.2.2.1 (hts _ hl) (hts _ hw.1) (hts _ hw.2.1) (hts _ hw.2.2) hC.2.2.2.2.2.1 hS.1 hS.2.1 hS.2.2 q0 q1 0 0 hq0 hq1 rfl rfl rfl hg.1.1 hg.1.2.1 hg.1.2.2 hg.2.1 hg.2.2 (fun _ _ => rfl) (by rw [hR.1]; exact hfr) (by rw [hR.2.1]; exact hlo) hd (fun H1 locs1 g1 g2 g3 => ?_)
  rw [gW_set (M' := gup M c1 o1 (va_cpy (M.1 c0 o0) (M.1 c1 o1) sp.toNatClampNeg dp.toNatClampNeg n.toNatClampNeg)) hS.2.1 hq2 (by rw [gce_a n1 hn1, gup_at]) gup_ne] at g1 g2
  exact kk H1 locs1 ls ⟨g1, g2, g3⟩ h
end GM
end
section
/-! methods and calls -/
def gws (y : MethodName) (cc : ByteArray) (maxL : Nat) (ret : Option FieldType) : List Cond := Cond.code y cc maxL ret :: gTs
def gQi (Y : gY) (r : Int32 × gMem) : Array Value → State → Outcome → State → Prop := va_Qi (fun (v : Int32) (_ : Unit) => v = r.1) (fun _ t => gS0 Y r.2 t) (gA Y)
def gQz (Y : gY) (r : Int32 × gMem) : Array Value → State → Outcome → State → Prop := va_Qi (fun (v : Int32) (_ : Unit) => v = r.1 ∧ (v = 0 ∨ v = 1)) (fun _ t => gS0 Y r.2 t) (gA Y)
def gQl (Y : gY) (r : Int64 × gMem) : Array Value → State → Outcome → State → Prop := va_Ql (fun (v : Int64) (_ : Unit) => v = r.1) (fun _ t => gS0 Y r.2 t) (gA Y)
def gQv (Y : gY) (r : gMem) : Array Value → State → Outcome → State → Prop := va_Qv (fun (_ : Unit) => True) (fun _ t => gS0 Y r t) (gA Y)
/-- the method's end: what it must answer -/
def gF (X : gX) (Y : gY) (ret : Option FieldType) (Qc : Array Value → State → Outcome → State → Prop) : Prop := (gxM X).sig.returnType = ret ∧ gxQ X = MQ (gxb X) Qc (gxa X) (gxs X) 0 0 (gA Y)
theorem gmet {l : Launch} {y : MethodName} {cc : ByteArray} {nL : Nat} {ret : Option FieldType} {rm : Room} {Y : gY} {M : gMem} {av : List Value} {lv : List (Nat × Value)} {Qc : Array Value → State → Outcome → State → Prop} (own : String) (hy : plainName y.cls = true) (hown : y.cls = own) (hlen : (lg_sl av).length ≤ nL) (hlv : lv_args 0 av = lv)
    (body : ∀ X : gX, gC X Y cc own nL rm.frames rm.locals → gF X Y ret Qc → gWW X Y nL 0 lv [] M) : Met l y (gws y cc nL ret) rm (va_Pc av (gS0 Y M)) Qc 0 0 (gA Y) := by
  refine Met.ofW (cc := cc) (maxL := nL) (ret := ret) hy rfl ?_
  intro p e s m args below meth c s₁ B hml hv
  obtain ⟨rfl, hP, hD, hK, hN, hZ⟩ := hv
  have hts := atoms_spec (ws := gws y cc nL ret) B.pre
  have ho : s.vm.findClass y.cls = some m.cls := findClass_of_methodNamed B.named
  have hl := lv_entry av (n := nL) hlen
  rw [lg_entry_eq]
  rw [hlv] at hl
  exact body (p, l, e, rm, s, m, av.toArray, below, meth, c, MQ below Qc av.toArray s 0 0 (gA Y)) ⟨B.exec, B.bytes, hml, by rw [← hown]; exact ho, fun w hw => hts w (List.mem_cons_of_mem _ hw), hK, hN, hZ, rfl, rfl, B.notSynchronized⟩ ⟨B.returns, rfl⟩ s.heap [] _ ⟨hP, hD, va_S.rf⟩ hl
def gMth (y : MethodName) (cc : ByteArray) (maxL : Nat) (ret : Option FieldType) (n : Nat) : Prop := Cond.code y cc maxL ret ∈ gTs ∧ Cond.initialized y.cls ∈ gTs ∧ y.cls ≠ "java/lang/invoke/MethodHandle" ∧ y.cls ≠ "java/lang/invoke/VarHandle" ∧ (parseMethodDescriptor y.desc).map (fun d => d.parameters.length) = some n
def gMi (y : MethodName) (cc : ByteArray) (maxL : Nat) (ret : Option FieldType) (n : Nat) : Prop := gMth y cc maxL ret n ∧ Cond.instanceMethod y ∈ gTs ∧ Cond.selects y.cls y y ∈ gTs
def gMs (y : MethodName) (cc : ByteArray) (maxL : Nat) (ret : Option FieldType) (n : Nat) : Prop := gMth y cc maxL ret n ∧ Cond.static y ∈ gTs
theorem gws_good {y : MethodName} {cc : ByteArray} {maxL : Nat} {ret : Option FieldType} (h : Cond.code y cc maxL ret ∈ gTs) : GoodIn gTs (gws y cc maxL ret) := by
  intro w hw
  have h1 : w ∈ gTs := by
    rcases List.mem_cons.mp hw with rfl | hw
    · exact h
    · exact hw
  exact ⟨h1, good_of_word (List.mem_filter.mp h1).2⟩
section GK
variable {X : gX} {Y : gY} {cc : ByteArray} {own : String} {nL fr lo pc : Nat} {lv : List (Nat × Value)} {st : List Value} {M : gMem}
def gRun (X : gX) (Y : gY) (nL pc : Nat) (lv : List (Nat × Value)) (st rest : List Value) (M : gMem) (Qa : State → Outcome → State → Prop) : Prop :=
  ∀ (H : Heap) (locs : List Loc) (ls : Array Slot), gSt (gxs X) Y M H locs → lv_has ls nL lv → va_Run X.1 X.2.1 X.2.2.1 (gxR X) (gxs X) (gxm X) (gxa X) (gxb X) (gxM X) (gxc X) H locs 0 0 0 0 (F0 (gxm X) pc ls st) rest Qa (gA Y)
theorem gCf (hC : gC X Y cc own nL fr lo) : CallFix X.1 (gxm X) (gxc X) cc nL (gxs X) (gxa X) gTs own := ⟨hC.1, hC.2.1, hC.2.2.1, hC.2.2.2.1, hC.2.2.2.2.1⟩
theorem gCb (hC : gC X Y cc own nL fr lo) {y : MethodName} {bytes : ByteArray} {maxL n idx : Nat} {ret : Option FieldType} {rm : Room} (hm : gMth y bytes maxL ret n) (hl : Cond.methodLink own idx y ∈ gTs) (hR : rm.cells = 0 ∧ rm.slots = 0 ∧ rm.frames + 1 ≤ fr ∧ 8 + (maxL + 11) + rm.locals ≤ lo) : CallB (gxR X) (gxs X) (gxa X) own idx y bytes maxL ret (gws y bytes maxL ret) rm 0 0 n := by
  have hts := hC.2.2.2.2.1
  have h9 := hC.2.2.2.2.2.2.2.2
  exact callB_of n hts (gws_good hm.1) rfl hR.1 hR.2.1 (hts _ hm.2.1) (hts _ hl) hm.2.2 ⟨by rw [h9.1]; exact hR.2.2.1, by rw [h9.2.1]; exact hR.2.2.2⟩
theorem q_rV (hC : gC X Y cc own nL fr lo) {y : MethodName} {bytes : ByteArray} {maxL n idx c o ci N : Nat} {ret : Option FieldType} {rm : Room} {As rest fs : List Value} {T : u_T} {Qc : Array Value → State → Outcome → State → Prop} (hm : gMi y bytes maxL ret n) (hl : Cond.methodLink own idx y ∈ gTs)
    (hM : Met X.2.1 y (gws y bytes maxL ret) rm (va_Pc (.ref (gad Y c o) :: As) (gS0 Y M)) Qc 0 0 (gA Y)) (hR : rm.cells = 0 ∧ rm.slots = 0 ∧ rm.frames + 1 ≤ fr ∧ 8 + (maxL + 11) + rm.locals ≤ lo) (hV : gV c o) (he : gcel Y M c o = .inr (ci, fs)) (hc : vwCl[ci]? = some (y.cls, T, N)) (hn : As.length = n) (hst : st = As.reverse ++ .ref (gad Y c o) :: rest) (hrest : (rest.map fun v => v.category).sum ≤ 8) (hd : decode cc pc = .ok (.invokevirtual idx, 3)) :
    gRun X Y nL pc lv st rest M (Qc (Value.ref (gad Y c o) :: As).toArray) := by
  intro H locs ls hS h
  subst hst
  obtain ⟨q, hq, -⟩ := gW_at (Y := Y) (M := M) hV
  rw [he] at hq
  have hts := hC.2.2.2.2.1
  exact va_runV (gCf hC) hM ⟨gCb hC hm.1 hl hR, hts _ hm.2.1, hts _ hm.2.2⟩ ⟨gS0.blind _, va_recv hC.2.2.2.2.2.1 hS.1 (ci := ci) (q0 := q) hc hq, fun U hU hW => ⟨rfl, hC.s0 hS hU hW⟩⟩ rfl hn h.1 rfl (lv_room hrest) hd ⟨Nat.zero_le _, Nat.zero_le _⟩
theorem q_rS (hC : gC X Y cc own nL fr lo) {y : MethodName} {bytes : ByteArray} {maxL n idx : Nat} {ret : Option FieldType} {rm : Room} {As rest : List Value} {Qc : Array Value → State → Outcome → State → Prop} (hm : gMs y bytes maxL ret n) (hl : Cond.methodLink own idx y ∈ gTs)
    (hM : Met X.2.1 y (gws y bytes maxL ret) rm (va_Pc As (gS0 Y M)) Qc 0 0 (gA Y)) (hR : rm.cells = 0 ∧ rm.slots = 0 ∧ rm.frames + 1 ≤ fr ∧ 8 + (maxL + 11) + rm.locals ≤ lo) (hn : As.length = n) (hst : st = As.reverse ++ rest) (hrest : (rest.map fun v => v.category).sum ≤ 8) (hd : decode cc pc = .ok (.invokestatic idx, 3)) :
    gRun X Y nL pc lv st rest M (Qc As.toArray) := by
  intro H locs ls hS h
  subst hst
  have hts := hC.2.2.2.2.1
  exact va_runS (gCf hC) hM ⟨gCb hC hm.1 hl hR, hts _ hm.2⟩ ⟨gS0.blind _, fun U hU hW => ⟨rfl, hC.s0 hS hU hW⟩⟩ rfl hn h.1 rfl (lv_room hrest) hd ⟨Nat.zero_le _, Nat.zero_le _⟩
/-- super.m(..) -/
theorem q_rU (hC : gC X Y cc own nL fr lo) {y : MethodName} {bytes : ByteArray} {maxL n idx c o ci N : Nat} {ret : Option FieldType} {rm : Room} {As rest fs : List Value} {T : u_T} {C : String} {Qc : Array Value → State → Outcome → State → Prop} (hm : gMth y bytes maxL ret n) (hi : Cond.instanceMethod y ∈ gTs) (hl : Cond.methodLink own idx y ∈ gTs) (hsm : Cond.sameMethod y.cls y.cls y.name y.desc ∈ gTs) (hsu : Cond.superclass own y.cls ∈ gTs) (hno : y.name ≠ "<init>")
    (hM : Met X.2.1 y (gws y bytes maxL ret) rm (va_Pc (.ref (gad Y c o) :: As) (gS0 Y M)) Qc 0 0 (gA Y)) (hR : rm.cells = 0 ∧ rm.slots = 0 ∧ rm.frames + 1 ≤ fr ∧ 8 + (maxL + 11) + rm.locals ≤ lo) (hV : gV c o) (he : gcel Y M c o = .inr (ci, fs)) (hc : vwCl[ci]? = some (C, T, N)) (hn : As.length = n) (hst : st = As.reverse ++ .ref (gad Y c o) :: rest) (hrest : (rest.map fun v => v.category).sum ≤ 8) (hd : decode cc pc = .ok (.invokespecial idx, 3)) :
    gRun X Y nL pc lv st rest M (Qc (Value.ref (gad Y c o) :: As).toArray) := by
  intro H locs ls hS h
  subst hst
  obtain ⟨q, hq, -⟩ := gW_at (Y := Y) (M := M) hV
  rw [he] at hq
  have hts := hC.2.2.2.2.1
  obtain ⟨b1, b2, b3, b4, b5, b6, b7, b8, b9, b10, b11⟩ := gCb hC hm hl hR
  exact va_runSU (hC.2.2.2.2.2.1.1 ci _ hc).2 (gCf hC) hM ⟨⟨b1, b2, b3, b4, b5, b6⟩, b11, hts _ hsm, hts _ hsu, hts _ hi, b8, b7, hno, b10⟩ ⟨gS0.blind _, va_recv hC.2.2.2.2.2.1 hS.1 (ci := ci) (q0 := q) hc hq, fun U hU hW => ⟨rfl, hC.s0 hS hU hW⟩⟩ rfl hn h.1 rfl (lv_room hrest) hd ⟨Nat.zero_le _, Nat.zero_le _⟩
/-- a method named x, chosen as y by the receiver's class C -/
theorem q_rD (hC : gC X Y cc own nL fr lo) {x y : MethodName} {bytes : ByteArray} {maxL n idx c o ci N : Nat} {ret : Option FieldType} {rm : Room} {As rest fs : List Value} {T : u_T} {C : String} {Qc : Array Value → State → Outcome → State → Prop} (hm : gMth y bytes maxL ret n) (hi : Cond.instanceMethod y ∈ gTs) (hix : Cond.instanceMethod x ∈ gTs) (hmx : x.cls ≠ "java/lang/invoke/MethodHandle" ∧ x.cls ≠ "java/lang/invoke/VarHandle" ∧ y.desc = x.desc) (hl : Cond.methodLink own idx x ∈ gTs) (hsm : Cond.sameMethod x.cls x.cls x.name x.desc ∈ gTs) (hse : Cond.selects C x y ∈ gTs)
    (hcx : ∃ b mx rx, Cond.code x b mx rx ∈ gTs)
    (hM : Met X.2.1 y (gws y bytes maxL ret) rm (va_Pc (.ref (gad Y c o) :: As) (gS0 Y M)) Qc 0 0 (gA Y)) (hR : rm.cells = 0 ∧ rm.slots = 0 ∧ rm.frames + 1 ≤ fr ∧ 8 + (maxL + 11) + rm.locals ≤ lo) (hV : gV c o) (he : gcel Y M c o = .inr (ci, fs)) (hc : vwCl[ci]? = some (C, T, N)) (hn : As.length = n) (hst : st = As.reverse ++ .ref (gad Y c o) :: rest) (hrest : (rest.map fun v => v.category).sum ≤ 8) (hd : decode cc pc = .ok (.invokevirtual idx, 3)) :
    gRun X Y nL pc lv st rest M (Qc (Value.ref (gad Y c o) :: As).toArray) := by
  intro H locs ls hS h
  subst hst
  obtain ⟨q, hq, -⟩ := gW_at (Y := Y) (M := M) hV
  rw [he] at hq
  have hts := hC.2.2.2.2.1
  have h9 := hC.2.2.2.2.2.2.2.2
  have hG := gws_good hm.1
  have hdecl : va_Decl (gxs X) ⟨x.cls, x.name, x.desc⟩ := by
    obtain ⟨mk, methM, hnamed, hmethM, hstM, habM⟩ := Cond.instanceMethod_spec (hts _ hix)
    obtain ⟨b, mx, rx, hcd⟩ := hcx
    obtain ⟨methM', cM, hmethM', -, -, -, -, -, -, hsigM⟩ := Cond.code_spec hnamed (hts _ hcd)
    cases hmethM.symm.trans hmethM'
    exact ⟨mk, methM, hnamed, hmethM, hstM, hsigM⟩
  have hlen : ∀ sig, parseMethodDescriptor x.desc = some sig → n = sig.parameters.length := fun sig hs => by
    have h2 := hm.2.2.2.2
    rw [hmx.2.2, hs] at h2
    exact (Option.some.inj h2).symm
  exact va_runU (owner := x.cls) (gCf hC) hM ⟨⟨hR.1, hR.2.1, by rw [h9.1]; exact hR.2.2.1, by rw [h9.2.1]; exact hR.2.2.2, pay_in hts hG, List.mem_cons_self⟩, hts _ hm.1, hts _ hm.2.1, ⟨hmx.1, hmx.2.1⟩, hlen, hts _ hl, hts _ hsm, hdecl, hts _ hse, hts _ hi⟩ ⟨gS0.blind _, va_recv hC.2.2.2.2.2.1 hS.1 (ci := ci) (q0 := q) hc hq, fun U hU hW => ⟨rfl, hC.s0 hS hU hW⟩⟩ rfl hn h.1 rfl (lv_room hrest) hd ⟨Nat.zero_le _, Nat.zero_le _⟩
theorem q_ki {rest : List Value} {r : Int32 × gMem} {a : Array Value} (hr : gRun X Y nL pc lv st rest M (gQi Y r a)) (kk : gWW X Y nL (pc + 3) lv (.int r.1 :: rest) r.2) : gWW X Y nL pc lv st M := by
  intro H locs ls hS h
  refine va_calli (hr H locs ls hS h) hS.2.2 (fun q _ h => h) (fun q h => h) (fun v u t H1 locs1 ht hvm hw hB _ _ hS1 => ?_)
  subst hw
  exact kk H1 locs1 ls ⟨by rw [← ht]; exact hB.1, hB.2.1, hS1⟩ h
theorem q_kz {rest : List Value} {r : Int32 × gMem} {a : Array Value} (hr : gRun X Y nL pc lv st rest M (gQz Y r a)) (kk : (r.1 = 0 ∨ r.1 = 1) → gWW X Y nL (pc + 3) lv (.int r.1 :: rest) r.2) : gWW X Y nL pc lv st M := by
  intro H locs ls hS h
  refine va_calli (hr H locs ls hS h) hS.2.2 (fun q _ h => h) (fun q h => h) (fun v u t H1 locs1 ht hvm hw hB _ _ hS1 => ?_)
  obtain ⟨hw, hz⟩ := hw
  subst hw
  exact kk hz H1 locs1 ls ⟨by rw [← ht]; exact hB.1, hB.2.1, hS1⟩ h
theorem q_kl {rest : List Value} {r : Int64 × gMem} {a : Array Value} (hr : gRun X Y nL pc lv st rest M (gQl Y r a)) (kk : gWW X Y nL (pc + 3) lv (.long r.1 :: rest) r.2) : gWW X Y nL pc lv st M := by
  intro H locs ls hS h
  refine va_calll (hr H locs ls hS h) hS.2.2 (fun q _ h => h) (fun q h => h) (fun v u t H1 locs1 ht hvm hw hB _ _ hS1 => ?_)
  subst hw
  exact kk H1 locs1 ls ⟨by rw [← ht]; exact hB.1, hB.2.1, hS1⟩ h
theorem q_kv {rest : List Value} {r : gMem} {a : Array Value} (hr : gRun X Y nL pc lv st rest M (gQv Y r a)) (kk : gWW X Y nL (pc + 3) lv rest r) : gWW X Y nL pc lv st M := by
  intro H locs ls hS h
  refine va_callv (hr H locs ls hS h) hS.2.2 (fun q _ h => h) (fun q h => h) (fun u t H1 locs1 ht hvm hw hB _ _ hS1 => ?_)
  exact kk H1 locs1 ls ⟨by rw [← ht]; exact hB.1, hB.2.1, hS1⟩ h
theorem q_iret (hC : gC X Y cc own nL fr lo) {r : Int32 × gMem} {v : Int32} (hF : gF X Y (some .int) (gQi Y r)) (hd : decode cc pc = .ok (.ireturn, 1)) (he : (v, M) = r) : gWW X Y nL pc lv [.int v] M := by
  intro H locs ls hS h
  subst he
  rw [hF.2]
  exact W.iret hC.1 hC.2.1 hF.1 (fun t ht hW => ⟨⟨v, (), rfl, rfl, hC.s0 hS ht hW⟩, hS.2.2.F ht⟩) hS.2.2.2.2 hd hC.2.2.2.2.2.2.2.2.2.2
theorem gnz {v : Int32} (h : v = 0 ∨ v = 1) : narrow .boolean (.int v) = .int v := by
  rcases h with rfl | rfl <;> rfl
theorem q_zret (hC : gC X Y cc own nL fr lo) {r : Int32 × gMem} {v : Int32} (hF : gF X Y (some .boolean) (gQz Y r)) (hd : decode cc pc = .ok (.ireturn, 1)) (hz : v = 0 ∨ v = 1) (he : (v, M) = r) : gWW X Y nL pc lv [.int v] M := by
  intro H locs ls hS h
  subst he
  rw [hF.2]
  exact W.zret hC.1 hC.2.1 hF.1 (gnz hz) (fun t ht hW => ⟨⟨v, (), rfl, ⟨rfl, hz⟩, hC.s0 hS ht hW⟩, hS.2.2.F ht⟩) hS.2.2.2.2 hd hC.2.2.2.2.2.2.2.2.2.2
theorem q_nret (hC : gC X Y cc own nL fr lo) {r : Int32 × gMem} {v : Int32} {ty : FieldType} (hF : gF X Y (some ty) (gQi Y r)) (hd : decode cc pc = .ok (.ireturn, 1)) (hz : narrow ty (.int v) = .int v) (he : (v, M) = r) : gWW X Y nL pc lv [.int v] M := by
  intro H locs ls hS h
  subst he
  rw [hF.2]
  exact W.zret hC.1 hC.2.1 hF.1 hz (fun t ht hW => ⟨⟨v, (), rfl, rfl, hC.s0 hS ht hW⟩, hS.2.2.F ht⟩) hS.2.2.2.2 hd hC.2.2.2.2.2.2.2.2.2.2
theorem q_lret (hC : gC X Y cc own nL fr lo) {r : Int64 × gMem} {v : Int64} (hF : gF X Y (some .long) (gQl Y r)) (hd : decode cc pc = .ok (.lreturn, 1)) (he : (v, M) = r) : gWW X Y nL pc lv [.long v] M := by
  intro H locs ls hS h
  subst he
  rw [hF.2]
  exact W.lret hC.1 hC.2.1 hF.1 (fun t ht hW => ⟨⟨v, (), rfl, rfl, hC.s0 hS ht hW⟩, hS.2.2.F ht⟩) hS.2.2.2.2 hd hC.2.2.2.2.2.2.2.2.2.2
theorem q_vret (hC : gC X Y cc own nL fr lo) {r : gMem} (hF : gF X Y none (gQv Y r)) (hd : decode cc pc = .ok (.return_, 1)) (he : M = r) : gWW X Y nL pc lv [] M := by
  intro H locs ls hS h
  subst he
  rw [hF.2]
  exact W.vret hC.1 hC.2.1 hF.1 (fun t ht hW => ⟨⟨(), rfl, trivial, hC.s0 hS ht hW⟩, hS.2.2.F ht⟩) hS.2.2.2.2 hd hC.2.2.2.2.2.2.2.2.2.2
end GK
end
section
theorem tb_1 {w : Cond} (h : w ∈ tables_1_1) : w ∈ tables_1 := List.mem_append_left _ h
theorem tb_2 {w : Cond} (h : w ∈ tables_1_2) : w ∈ tables_1 := List.mem_append_right _ (List.mem_append_left _ h)
theorem tb_3 {w : Cond} (h : w ∈ tables_1_3) : w ∈ tables_1 := List.mem_append_right _ (List.mem_append_right _ (List.mem_append_left _ h))
theorem tb_4 {w : Cond} (h : w ∈ tables_1_4) : w ∈ tables_1 := List.mem_append_right _ (List.mem_append_right _ (List.mem_append_right _ (List.mem_append_left _ h)))
theorem tb_5 {w : Cond} (h : w ∈ tables_1_5) : w ∈ tables_1 := List.mem_append_right _ (List.mem_append_right _ (List.mem_append_right _ (List.mem_append_right _ h)))
theorem gTs_t {w : Cond} (h : w ∈ tables_1) (hg : goodWord w = true) : w ∈ gTs := List.mem_filter.mpr ⟨List.mem_append_right _ h, hg⟩
theorem gTs_p {q : MethodName × Nat} (h : q ∈ lw_privs) (hg : goodWord (Cond.selects q.1.cls q.1 q.1) = true) : Cond.selects q.1.cls q.1 q.1 ∈ gTs := List.mem_filter.mpr ⟨List.mem_append_left _ (List.mem_map.mpr ⟨q, h, rfl⟩), hg⟩
theorem gNW_t {w : Cond} (h : w ∈ tables_1) (hg : gNst w = true) : w ∈ gNW := List.mem_filter.mpr ⟨h, hg⟩
theorem wI_L : Cond.initialized "GuestStaffLaw" ∈ gTs := gTs_t (tb_1 (List.mem_of_getElem? (i := 0) rfl)) rfl
theorem wI_X10 : Cond.initialized "GuestStaff" ∈ gTs := gTs_t (tb_1 (List.mem_of_getElem? (i := 1) rfl)) rfl
theorem wI_X9 : Cond.initialized "GuestStaff$Text" ∈ gTs := gTs_t (tb_1 (List.mem_of_getElem? (i := 2) rfl)) rfl
theorem wI_X7 : Cond.initialized "GuestStaff$Rows" ∈ gTs := gTs_t (tb_1 (List.mem_of_getElem? (i := 3) rfl)) rfl
theorem wI_X4 : Cond.initialized "GuestStaff$Plain" ∈ gTs := gTs_t (tb_1 (List.mem_of_getElem? (i := 4) rfl)) rfl
theorem wI_X6 : Cond.initialized "GuestStaff$Quiet" ∈ gTs := gTs_t (tb_1 (List.mem_of_getElem? (i := 5) rfl)) rfl
theorem wI_X0 : Cond.initialized "GuestStaff$Banker" ∈ gTs := gTs_t (tb_1 (List.mem_of_getElem? (i := 6) rfl)) rfl
theorem wI_X8 : Cond.initialized "GuestStaff$Shouter" ∈ gTs := gTs_t (tb_1 (List.mem_of_getElem? (i := 7) rfl)) rfl
theorem wI_X2 : Cond.initialized "GuestStaff$Late" ∈ gTs := gTs_t (tb_1 (List.mem_of_getElem? (i := 8) rfl)) rfl
theorem wI_X5 : Cond.initialized "GuestStaff$Polisher" ∈ gTs := gTs_t (tb_1 (List.mem_of_getElem? (i := 9) rfl)) rfl
theorem wI_X1 : Cond.initialized "GuestStaff$House" ∈ gTs := gTs_t (tb_1 (List.mem_of_getElem? (i := 10) rfl)) rfl
theorem wI_X3 : Cond.initialized "GuestStaff$Notes" ∈ gTs := gTs_t (tb_1 (List.mem_of_getElem? (i := 11) rfl)) rfl
theorem wI_X11 : Cond.initialized "GuestStaffModel" ∈ gTs := gTs_t (tb_1 (List.mem_of_getElem? (i := 12) rfl)) rfl
theorem wI_J10 : Cond.initialized "java/lang/System" ∈ gTs := gTs_t (tb_1 (List.mem_of_getElem? (i := 13) rfl)) rfl
theorem wI_J9 : Cond.initialized "java/lang/Math" ∈ gTs := gTs_t (tb_1 (List.mem_of_getElem? (i := 14) rfl)) rfl
theorem wI_J0 : Cond.initialized "java/lang/String" ∈ gTs := gTs_t (tb_1 (List.mem_of_getElem? (i := 15) rfl)) rfl
theorem wI_J1 : Cond.initialized "java/lang/StringLatin1" ∈ gTs := gTs_t (tb_1 (List.mem_of_getElem? (i := 16) rfl)) rfl
theorem wI_J3 : Cond.initialized "jdk/internal/util/Preconditions" ∈ gTs := gTs_t (tb_1 (List.mem_of_getElem? (i := 17) rfl)) rfl
theorem wI_J2 : Cond.initialized "java/lang/StringUTF16" ∈ gTs := gTs_t (tb_1 (List.mem_of_getElem? (i := 18) rfl)) rfl
theorem wI_J6 : Cond.initialized "java/lang/Integer" ∈ gTs := gTs_t (tb_1 (List.mem_of_getElem? (i := 19) rfl)) rfl
theorem wM_L_9 : Cond.methodLink "GuestStaffLaw" 9 yX10_init ∈ gTs := gTs_t (tb_1 (List.mem_of_getElem? (i := 22) rfl)) rfl
theorem wM_X10_3 : Cond.methodLink "GuestStaff" 3 objectInit ∈ gTs := gTs_t (tb_1 (List.mem_of_getElem? (i := 25) rfl)) rfl
theorem wG_X10_15 : Cond.methodLinkNest "GuestStaff" 15 yX9_init "GuestStaff" ∈ gNW := gNW_t (tb_1 (List.mem_of_getElem? (i := 30) rfl)) rfl
theorem wM_X9_3 : Cond.methodLink "GuestStaff$Text" 3 objectInit ∈ gTs := gTs_t (tb_1 (List.mem_of_getElem? (i := 33) rfl)) rfl
theorem wF_X9_9 : Cond.fieldLink "GuestStaff$Text" 9 "GuestStaff$Text" "bytes" "[I" ∈ gTs := gTs_t (tb_1 (List.mem_of_getElem? (i := 34) rfl)) rfl
theorem wF_X9_15 : Cond.fieldLink "GuestStaff$Text" 15 "GuestStaff$Text" "size" "I" ∈ gTs := gTs_t (tb_1 (List.mem_of_getElem? (i := 35) rfl)) rfl
theorem wN_X10_105 : Cond.fieldLinkNest "GuestStaff" 105 "GuestStaff$Text" "size" "I" "GuestStaff" ∈ gNW := gNW_t (tb_1 (List.mem_of_getElem? (i := 36) rfl)) rfl
theorem wF_X9_19 : Cond.fieldLink "GuestStaff$Text" 19 "GuestStaff$Text" "at" "I" ∈ gTs := gTs_t (tb_1 (List.mem_of_getElem? (i := 37) rfl)) rfl
theorem wN_X10_115 : Cond.fieldLinkNest "GuestStaff" 115 "GuestStaff$Text" "at" "I" "GuestStaff" ∈ gNW := gNW_t (tb_1 (List.mem_of_getElem? (i := 38) rfl)) rfl
theorem wF_X9_22 : Cond.fieldLink "GuestStaff$Text" 22 "GuestStaff$Text" "behind" "I" ∈ gTs := gTs_t (tb_1 (List.mem_of_getElem? (i := 39) rfl)) rfl
theorem wF_X9_25 : Cond.fieldLink "GuestStaff$Text" 25 "GuestStaff$Text" "sort" "I" ∈ gTs := gTs_t (tb_1 (List.mem_of_getElem? (i := 40) rfl)) rfl
theorem wF_X9_28 : Cond.fieldLink "GuestStaff$Text" 28 "GuestStaff$Text" "number" "I" ∈ gTs := gTs_t (tb_1 (List.mem_of_getElem? (i := 41) rfl)) rfl
theorem wU_X9 : Cond.superclass "GuestStaff$Text" "java/lang/Object" ∈ gTs := gTs_t (tb_1 (List.mem_of_getElem? (i := 54) rfl)) rfl
theorem wG_X10_22 : Cond.methodLinkNest "GuestStaff" 22 yX7_init "GuestStaff" ∈ gNW := gNW_t (tb_1 (List.mem_of_getElem? (i := 59) rfl)) rfl
theorem wM_X7_3 : Cond.methodLink "GuestStaff$Rows" 3 objectInit ∈ gTs := gTs_t (tb_1 (List.mem_of_getElem? (i := 62) rfl)) rfl
theorem wF_X7_9 : Cond.fieldLink "GuestStaff$Rows" 9 "GuestStaff$Rows" "member" "[I" ∈ gTs := gTs_t (tb_1 (List.mem_of_getElem? (i := 65) rfl)) rfl
theorem wF_X7_15 : Cond.fieldLink "GuestStaff$Rows" 15 "GuestStaff$Rows" "open" "[I" ∈ gTs := gTs_t (tb_1 (List.mem_of_getElem? (i := 66) rfl)) rfl
theorem wF_X7_20 : Cond.fieldLink "GuestStaff$Rows" 20 "GuestStaff$Rows" "cost" "[[I" ∈ gTs := gTs_t (tb_1 (List.mem_of_getElem? (i := 67) rfl)) rfl
theorem wF_X7_23 : Cond.fieldLink "GuestStaff$Rows" 23 "GuestStaff$Rows" "rest" "[I" ∈ gTs := gTs_t (tb_1 (List.mem_of_getElem? (i := 68) rfl)) rfl
theorem wF_X7_26 : Cond.fieldLink "GuestStaff$Rows" 26 "GuestStaff$Rows" "members" "I" ∈ gTs := gTs_t (tb_1 (List.mem_of_getElem? (i := 69) rfl)) rfl
theorem wU_X7 : Cond.superclass "GuestStaff$Rows" "java/lang/Object" ∈ gTs := gTs_t (tb_1 (List.mem_of_getElem? (i := 80) rfl)) rfl
theorem wG_X10_40 : Cond.methodLinkNest "GuestStaff" 40 yX4_init "GuestStaff" ∈ gNW := gNW_t (tb_1 (List.mem_of_getElem? (i := 84) rfl)) rfl
theorem wM_X4_1 : Cond.methodLink "GuestStaff$Plain" 1 objectInit ∈ gTs := gTs_t (tb_1 (List.mem_of_getElem? (i := 87) rfl)) rfl
theorem wU_X4 : Cond.superclass "GuestStaff$Plain" "java/lang/Object" ∈ gTs := gTs_t (tb_1 (List.mem_of_getElem? (i := 88) rfl)) rfl
theorem wG_X10_43 : Cond.methodLinkNest "GuestStaff" 43 yX6_init "GuestStaff" ∈ gNW := gNW_t (tb_1 (List.mem_of_getElem? (i := 91) rfl)) rfl
theorem wG_X6_3 : Cond.methodLinkNest "GuestStaff$Quiet" 3 yX4_init "GuestStaff" ∈ gNW := gNW_t (tb_1 (List.mem_of_getElem? (i := 94) rfl)) rfl
theorem wU_X6 : Cond.superclass "GuestStaff$Quiet" "GuestStaff$Plain" ∈ gTs := gTs_t (tb_1 (List.mem_of_getElem? (i := 95) rfl)) rfl
theorem wG_X10_46 : Cond.methodLinkNest "GuestStaff" 46 yX0_init "GuestStaff" ∈ gNW := gNW_t (tb_1 (List.mem_of_getElem? (i := 98) rfl)) rfl
theorem wG_X0_1 : Cond.methodLinkNest "GuestStaff$Banker" 1 yX4_init "GuestStaff" ∈ gNW := gNW_t (tb_1 (List.mem_of_getElem? (i := 101) rfl)) rfl
theorem wU_X0 : Cond.superclass "GuestStaff$Banker" "GuestStaff$Plain" ∈ gTs := gTs_t (tb_1 (List.mem_of_getElem? (i := 102) rfl)) rfl
theorem wG_X10_49 : Cond.methodLinkNest "GuestStaff" 49 yX8_init "GuestStaff" ∈ gNW := gNW_t (tb_1 (List.mem_of_getElem? (i := 105) rfl)) rfl
theorem wG_X8_1 : Cond.methodLinkNest "GuestStaff$Shouter" 1 yX4_init "GuestStaff" ∈ gNW := gNW_t (tb_1 (List.mem_of_getElem? (i := 108) rfl)) rfl
theorem wU_X8 : Cond.superclass "GuestStaff$Shouter" "GuestStaff$Plain" ∈ gTs := gTs_t (tb_1 (List.mem_of_getElem? (i := 109) rfl)) rfl
theorem wG_X10_52 : Cond.methodLinkNest "GuestStaff" 52 yX2_init "GuestStaff" ∈ gNW := gNW_t (tb_1 (List.mem_of_getElem? (i := 112) rfl)) rfl
theorem wG_X2_1 : Cond.methodLinkNest "GuestStaff$Late" 1 yX6_init "GuestStaff" ∈ gNW := gNW_t (tb_1 (List.mem_of_getElem? (i := 115) rfl)) rfl
theorem wU_X2 : Cond.superclass "GuestStaff$Late" "GuestStaff$Quiet" ∈ gTs := gTs_t (tb_1 (List.mem_of_getElem? (i := 116) rfl)) rfl
theorem wG_X10_55 : Cond.methodLinkNest "GuestStaff" 55 yX5_init "GuestStaff" ∈ gNW := gNW_t (tb_1 (List.mem_of_getElem? (i := 119) rfl)) rfl
theorem wG_X5_1 : Cond.methodLinkNest "GuestStaff$Polisher" 1 yX0_init "GuestStaff" ∈ gNW := gNW_t (tb_1 (List.mem_of_getElem? (i := 122) rfl)) rfl
theorem wU_X5 : Cond.superclass "GuestStaff$Polisher" "GuestStaff$Banker" ∈ gTs := gTs_t (tb_1 (List.mem_of_getElem? (i := 123) rfl)) rfl
theorem wM_X10_58 : Cond.methodLink "GuestStaff" 58 yX1_init ∈ gTs := gTs_t (tb_1 (List.mem_of_getElem? (i := 126) rfl)) rfl
theorem wM_X1_3 : Cond.methodLink "GuestStaff$House" 3 objectInit ∈ gTs := gTs_t (tb_1 (List.mem_of_getElem? (i := 129) rfl)) rfl
theorem wG_X1_29 : Cond.methodLinkNest "GuestStaff$House" 29 yX3_init "GuestStaff" ∈ gNW := gNW_t (tb_1 (List.mem_of_getElem? (i := 132) rfl)) rfl
theorem wM_X3_3 : Cond.methodLink "GuestStaff$Notes" 3 objectInit ∈ gTs := gTs_t (tb_1 (List.mem_of_getElem? (i := 135) rfl)) rfl
theorem wF_X3_13 : Cond.fieldLink "GuestStaff$Notes" 13 "GuestStaff$Notes" "note" "[[I" ∈ gTs := gTs_t (tb_1 (List.mem_of_getElem? (i := 137) rfl)) rfl
theorem wF_X3_16 : Cond.fieldLink "GuestStaff$Notes" 16 "GuestStaff$Notes" "size" "I" ∈ gTs := gTs_t (tb_1 (List.mem_of_getElem? (i := 138) rfl)) rfl
theorem wN_X1_68 : Cond.fieldLinkNest "GuestStaff$House" 68 "GuestStaff$Notes" "size" "I" "GuestStaff" ∈ gNW := gNW_t (tb_1 (List.mem_of_getElem? (i := 139) rfl)) rfl
theorem wN_X10_201 : Cond.fieldLinkNest "GuestStaff" 201 "GuestStaff$Notes" "size" "I" "GuestStaff" ∈ gNW := gNW_t (tb_1 (List.mem_of_getElem? (i := 140) rfl)) rfl
theorem wU_X3 : Cond.superclass "GuestStaff$Notes" "java/lang/Object" ∈ gTs := gTs_t (tb_1 (List.mem_of_getElem? (i := 145) rfl)) rfl
theorem wF_X1_64 : Cond.fieldLink "GuestStaff$House" 64 "GuestStaff$House" "kinds" "[LGuestStaff$Plain;" ∈ gTs := gTs_t (tb_1 (List.mem_of_getElem? (i := 147) rfl)) rfl
theorem wF_X1_9 : Cond.fieldLink "GuestStaff$House" 9 "GuestStaff$House" "kind" "[I" ∈ gTs := gTs_t (tb_1 (List.mem_of_getElem? (i := 148) rfl)) rfl
theorem wN_X10_140 : Cond.fieldLinkNest "GuestStaff" 140 "GuestStaff$House" "kind" "[I" "GuestStaff" ∈ gNW := gNW_t (tb_1 (List.mem_of_getElem? (i := 149) rfl)) rfl
theorem wF_X1_15 : Cond.fieldLink "GuestStaff$House" 15 "GuestStaff$House" "want" "[I" ∈ gTs := gTs_t (tb_1 (List.mem_of_getElem? (i := 150) rfl)) rfl
theorem wN_X7_43 : Cond.fieldLinkNest "GuestStaff$Rows" 43 "GuestStaff$House" "want" "[I" "GuestStaff" ∈ gNW := gNW_t (tb_1 (List.mem_of_getElem? (i := 151) rfl)) rfl
theorem wN_X10_143 : Cond.fieldLinkNest "GuestStaff" 143 "GuestStaff$House" "want" "[I" "GuestStaff" ∈ gNW := gNW_t (tb_1 (List.mem_of_getElem? (i := 152) rfl)) rfl
theorem wF_X1_18 : Cond.fieldLink "GuestStaff$House" 18 "GuestStaff$House" "can" "[I" ∈ gTs := gTs_t (tb_1 (List.mem_of_getElem? (i := 153) rfl)) rfl
theorem wN_X10_146 : Cond.fieldLinkNest "GuestStaff" 146 "GuestStaff$House" "can" "[I" "GuestStaff" ∈ gNW := gNW_t (tb_1 (List.mem_of_getElem? (i := 154) rfl)) rfl
theorem wF_X1_21 : Cond.fieldLink "GuestStaff$House" 21 "GuestStaff$House" "duty" "[I" ∈ gTs := gTs_t (tb_1 (List.mem_of_getElem? (i := 155) rfl)) rfl
theorem wN_X10_99 : Cond.fieldLinkNest "GuestStaff" 99 "GuestStaff$House" "duty" "[I" "GuestStaff" ∈ gNW := gNW_t (tb_1 (List.mem_of_getElem? (i := 156) rfl)) rfl
theorem wN_X9_77 : Cond.fieldLinkNest "GuestStaff$Text" 77 "GuestStaff$House" "duty" "[I" "GuestStaff" ∈ gNW := gNW_t (tb_1 (List.mem_of_getElem? (i := 157) rfl)) rfl
theorem wF_X1_24 : Cond.fieldLink "GuestStaff$House" 24 "GuestStaff$House" "tips" "[I" ∈ gTs := gTs_t (tb_1 (List.mem_of_getElem? (i := 158) rfl)) rfl
theorem wN_X10_149 : Cond.fieldLinkNest "GuestStaff" 149 "GuestStaff$House" "tips" "[I" "GuestStaff" ∈ gNW := gNW_t (tb_1 (List.mem_of_getElem? (i := 159) rfl)) rfl
theorem wF_X1_30 : Cond.fieldLink "GuestStaff$House" 30 "GuestStaff$House" "notes" "LGuestStaff$Notes;" ∈ gTs := gTs_t (tb_1 (List.mem_of_getElem? (i := 160) rfl)) rfl
theorem wN_X10_197 : Cond.fieldLinkNest "GuestStaff" 197 "GuestStaff$House" "notes" "LGuestStaff$Notes;" "GuestStaff" ∈ gNW := gNW_t (tb_1 (List.mem_of_getElem? (i := 161) rfl)) rfl
theorem wF_X1_36 : Cond.fieldLink "GuestStaff$House" 36 "GuestStaff$House" "pastDuty" "[[I" ∈ gTs := gTs_t (tb_1 (List.mem_of_getElem? (i := 162) rfl)) rfl
theorem wF_X1_39 : Cond.fieldLink "GuestStaff$House" 39 "GuestStaff$House" "pastTips" "[[I" ∈ gTs := gTs_t (tb_1 (List.mem_of_getElem? (i := 163) rfl)) rfl
theorem wF_X1_42 : Cond.fieldLink "GuestStaff$House" 42 "GuestStaff$House" "pastMood" "[I" ∈ gTs := gTs_t (tb_1 (List.mem_of_getElem? (i := 164) rfl)) rfl
theorem wF_X1_45 : Cond.fieldLink "GuestStaff$House" 45 "GuestStaff$House" "pastHour" "[I" ∈ gTs := gTs_t (tb_1 (List.mem_of_getElem? (i := 165) rfl)) rfl
theorem wF_X1_48 : Cond.fieldLink "GuestStaff$House" 48 "GuestStaff$House" "slot" "I" ∈ gTs := gTs_t (tb_1 (List.mem_of_getElem? (i := 166) rfl)) rfl
theorem wF_X1_52 : Cond.fieldLink "GuestStaff$House" 52 "GuestStaff$House" "undoable" "I" ∈ gTs := gTs_t (tb_1 (List.mem_of_getElem? (i := 167) rfl)) rfl
theorem wN_X10_128 : Cond.fieldLinkNest "GuestStaff" 128 "GuestStaff$House" "undoable" "I" "GuestStaff" ∈ gNW := gNW_t (tb_1 (List.mem_of_getElem? (i := 168) rfl)) rfl
theorem wF_X1_55 : Cond.fieldLink "GuestStaff$House" 55 "GuestStaff$House" "guests" "I" ∈ gTs := gTs_t (tb_1 (List.mem_of_getElem? (i := 169) rfl)) rfl
theorem wN_X10_72 : Cond.fieldLinkNest "GuestStaff" 72 "GuestStaff$House" "guests" "I" "GuestStaff" ∈ gNW := gNW_t (tb_1 (List.mem_of_getElem? (i := 170) rfl)) rfl
theorem wN_X7_30 : Cond.fieldLinkNest "GuestStaff$Rows" 30 "GuestStaff$House" "guests" "I" "GuestStaff" ∈ gNW := gNW_t (tb_1 (List.mem_of_getElem? (i := 171) rfl)) rfl
theorem wN_X9_55 : Cond.fieldLinkNest "GuestStaff$Text" 55 "GuestStaff$House" "guests" "I" "GuestStaff" ∈ gNW := gNW_t (tb_1 (List.mem_of_getElem? (i := 172) rfl)) rfl
theorem wF_X1_58 : Cond.fieldLink "GuestStaff$House" 58 "GuestStaff$House" "hour" "I" ∈ gTs := gTs_t (tb_1 (List.mem_of_getElem? (i := 173) rfl)) rfl
theorem wN_X10_137 : Cond.fieldLinkNest "GuestStaff" 137 "GuestStaff$House" "hour" "I" "GuestStaff" ∈ gNW := gNW_t (tb_1 (List.mem_of_getElem? (i := 174) rfl)) rfl
theorem wF_X1_61 : Cond.fieldLink "GuestStaff$House" 61 "GuestStaff$House" "mood" "I" ∈ gTs := gTs_t (tb_1 (List.mem_of_getElem? (i := 175) rfl)) rfl
theorem wN_X10_125 : Cond.fieldLinkNest "GuestStaff" 125 "GuestStaff$House" "mood" "I" "GuestStaff" ∈ gNW := gNW_t (tb_1 (List.mem_of_getElem? (i := 176) rfl)) rfl
theorem wU_X1 : Cond.superclass "GuestStaff$House" "java/lang/Object" ∈ gTs := gTs_t (tb_1 (List.mem_of_getElem? (i := 209) rfl)) rfl
theorem wF_X10_61 : Cond.fieldLink "GuestStaff" 61 "GuestStaff" "now" "LGuestStaff$House;" ∈ gTs := gTs_t (tb_1 (List.mem_of_getElem? (i := 211) rfl)) rfl
theorem wF_X10_65 : Cond.fieldLink "GuestStaff" 65 "GuestStaff" "trial" "LGuestStaff$House;" ∈ gTs := gTs_t (tb_1 (List.mem_of_getElem? (i := 212) rfl)) rfl
theorem wF_X10_68 : Cond.fieldLink "GuestStaff" 68 "GuestStaff" "images" "[LGuestStaff$House;" ∈ gTs := gTs_t (tb_1 (List.mem_of_getElem? (i := 213) rfl)) rfl
theorem wF_X10_9 : Cond.fieldLink "GuestStaff" 9 "GuestStaff" "kept" "[Z" ∈ gTs := gTs_t (tb_1 (List.mem_of_getElem? (i := 214) rfl)) rfl
theorem wF_X10_16 : Cond.fieldLink "GuestStaff" 16 "GuestStaff" "text" "LGuestStaff$Text;" ∈ gTs := gTs_t (tb_1 (List.mem_of_getElem? (i := 215) rfl)) rfl
theorem wF_X10_23 : Cond.fieldLink "GuestStaff" 23 "GuestStaff" "rows" "LGuestStaff$Rows;" ∈ gTs := gTs_t (tb_1 (List.mem_of_getElem? (i := 216) rfl)) rfl
theorem wF_X10_27 : Cond.fieldLink "GuestStaff" 27 "GuestStaff" "refused" "[I" ∈ gTs := gTs_t (tb_1 (List.mem_of_getElem? (i := 217) rfl)) rfl
theorem wF_X10_31 : Cond.fieldLink "GuestStaff" 31 "GuestStaff" "above" "J" ∈ gTs := gTs_t (tb_1 (List.mem_of_getElem? (i := 218) rfl)) rfl
theorem wF_X10_35 : Cond.fieldLink "GuestStaff" 35 "GuestStaff" "below" "J" ∈ gTs := gTs_t (tb_1 (List.mem_of_getElem? (i := 219) rfl)) rfl
theorem wU_X10 : Cond.superclass "GuestStaff" "java/lang/Object" ∈ gTs := gTs_t (tb_1 (List.mem_of_getElem? (i := 238) rfl)) rfl
theorem wM_L_13 : Cond.methodLink "GuestStaffLaw" 13 yX10_house ∈ gTs := gTs_t (tb_1 (List.mem_of_getElem? (i := 239) rfl)) rfl
theorem wM_X10_76 : Cond.methodLink "GuestStaff" 76 yX1_empty ∈ gTs := gTs_t (tb_2 (List.mem_of_getElem? (i := 3) rfl)) rfl
theorem wM_L_18 : Cond.methodLink "GuestStaffLaw" 18 yX10_guest ∈ gTs := gTs_t (tb_2 (List.mem_of_getElem? (i := 7) rfl)) rfl
theorem wM_X10_79 : Cond.methodLink "GuestStaff" 79 yX10_isBelow ∈ gTs := gTs_t (tb_2 (List.mem_of_getElem? (i := 11) rfl)) rfl
theorem wM_X10_83 : Cond.methodLink "GuestStaff" 83 yX10_refuseBad ∈ gTs := gTs_t (tb_2 (List.mem_of_getElem? (i := 14) rfl)) rfl
theorem wM_X10_87 : Cond.methodLink "GuestStaff" 87 yX10_refuseFull ∈ gTs := gTs_t (tb_2 (List.mem_of_getElem? (i := 18) rfl)) rfl
theorem wM_X10_91 : Cond.methodLink "GuestStaff" 91 yX1_admit ∈ gTs := gTs_t (tb_2 (List.mem_of_getElem? (i := 22) rfl)) rfl
theorem wM_L_23 : Cond.methodLink "GuestStaffLaw" 23 yX10_duty ∈ gTs := gTs_t (tb_2 (List.mem_of_getElem? (i := 26) rfl)) rfl
theorem wM_X10_95 : Cond.methodLink "GuestStaff" 95 yX1_isGuest ∈ gTs := gTs_t (tb_2 (List.mem_of_getElem? (i := 30) rfl)) rfl
theorem wM_X10_102 : Cond.methodLink "GuestStaff" 102 yX1_remember ∈ gTs := gTs_t (tb_2 (List.mem_of_getElem? (i := 34) rfl)) rfl
theorem wM_X1_71 : Cond.methodLink "GuestStaff$House" 71 yX1_copyRow ∈ gTs := gTs_t (tb_2 (List.mem_of_getElem? (i := 38) rfl)) rfl
theorem wM_X1_79 : Cond.methodLink "GuestStaff$House" 79 arraycopyName ∈ gTs := gTs_t (tb_2 (List.mem_of_getElem? (i := 41) rfl)) rfl
theorem wM_X1_109 : Cond.methodLink "GuestStaff$House" 109 Lib.Math.min.name ∈ gTs := gTs_t (tb_2 (List.mem_of_getElem? (i := 44) rfl)) rfl
theorem wM_L_28 : Cond.methodLink "GuestStaffLaw" 28 yX10_type ∈ gTs := gTs_t (tb_2 (List.mem_of_getElem? (i := 47) rfl)) rfl
theorem wM_X10_108 : Cond.methodLink "GuestStaff" 108 yX9_append ∈ gTs := gTs_t (tb_2 (List.mem_of_getElem? (i := 51) rfl)) rfl
theorem wM_L_33 : Cond.methodLink "GuestStaffLaw" 33 yX10_clear ∈ gTs := gTs_t (tb_2 (List.mem_of_getElem? (i := 55) rfl)) rfl
theorem wM_L_37 : Cond.methodLink "GuestStaffLaw" 37 yX10_read ∈ gTs := gTs_t (tb_2 (List.mem_of_getElem? (i := 59) rfl)) rfl
theorem wM_X10_111 : Cond.methodLink "GuestStaff" 111 yX9_parse ∈ gTs := gTs_t (tb_2 (List.mem_of_getElem? (i := 63) rfl)) rfl
theorem wM_X9_31 : Cond.methodLink "GuestStaff$Text" 31 yX1_empty ∈ gTs := gTs_t (tb_2 (List.mem_of_getElem? (i := 67) rfl)) rfl
theorem wM_X9_36 : Cond.methodLink "GuestStaff$Text" 36 yX9_step ∈ gTs := gTs_t (tb_2 (List.mem_of_getElem? (i := 68) rfl)) rfl
theorem wM_X9_89 : Cond.methodLink "GuestStaff$Text" 89 yX9_endOfRun ∈ gTs := gTs_t (tb_2 (List.mem_of_getElem? (i := 72) rfl)) rfl
theorem wM_X9_92 : Cond.methodLink "GuestStaff$Text" 92 yX9_numberHere ∈ gTs := gTs_t (tb_2 (List.mem_of_getElem? (i := 76) rfl)) rfl
theorem wM_X9_95 : Cond.methodLink "GuestStaff$Text" 95 yX9_signHere ∈ gTs := gTs_t (tb_2 (List.mem_of_getElem? (i := 80) rfl)) rfl
theorem wM_X9_98 : Cond.methodLink "GuestStaff$Text" 98 Lib.Math.min.name ∈ gTs := gTs_t (tb_2 (List.mem_of_getElem? (i := 84) rfl)) rfl
theorem wM_X9_41 : Cond.methodLink "GuestStaff$Text" 41 yX9_isWord ∈ gTs := gTs_t (tb_2 (List.mem_of_getElem? (i := 86) rfl)) rfl
theorem wM_X9_79 : Cond.methodLink "GuestStaff$Text" 79 yJ0_length_8abf5 ∈ gTs := gTs_t (tb_2 (List.mem_of_getElem? (i := 90) rfl)) rfl
theorem wM_J0_335 : Cond.methodLink "java/lang/String" 335 yJ0_coder_7d493 ∈ gTs := gTs_t (tb_2 (List.mem_of_getElem? (i := 94) rfl)) rfl
theorem wF_J0_38 : Cond.fieldLink "java/lang/String" 38 "java/lang/String" "COMPACT_STRINGS" "Z" ∈ gTs := gTs_t (tb_2 (List.mem_of_getElem? (i := 98) rfl)) rfl
theorem wM_X9_85 : Cond.methodLink "GuestStaff$Text" 85 yJ0_charAt_5068e ∈ gTs := gTs_t (tb_2 (List.mem_of_getElem? (i := 100) rfl)) rfl
theorem wM_J0_492 : Cond.methodLink "java/lang/String" 492 yJ0_isLatin1_aae02 ∈ gTs := gTs_t (tb_2 (List.mem_of_getElem? (i := 104) rfl)) rfl
theorem wM_J0_495 : Cond.methodLink "java/lang/String" 495 yJ1_charAt_3b067 ∈ gTs := gTs_t (tb_2 (List.mem_of_getElem? (i := 108) rfl)) rfl
theorem wM_J1_9 : Cond.methodLink "java/lang/StringLatin1" 9 yJ0_checkIndex_df160 ∈ gTs := gTs_t (tb_2 (List.mem_of_getElem? (i := 111) rfl)) rfl
theorem wF_J0_1053 : Cond.fieldLink "java/lang/String" 1053 "jdk/internal/util/Preconditions" "SIOOBE_FORMATTER" "Ljava/util/function/BiFunction;" ∈ gTs := gTs_t (tb_2 (List.mem_of_getElem? (i := 114) rfl)) rfl
theorem wM_J0_1059 : Cond.methodLink "java/lang/String" 1059 yJ3_checkIndex_8e157 ∈ gTs := gTs_t (tb_2 (List.mem_of_getElem? (i := 116) rfl)) rfl
theorem wM_J0_498 : Cond.methodLink "java/lang/String" 498 yJ2_charAt_3b067 ∈ gTs := gTs_t (tb_2 (List.mem_of_getElem? (i := 119) rfl)) rfl
theorem wM_J2_67 : Cond.methodLink "java/lang/StringUTF16" 67 yJ2_checkIndex_2214a ∈ gTs := gTs_t (tb_2 (List.mem_of_getElem? (i := 122) rfl)) rfl
theorem wM_J2_48 : Cond.methodLink "java/lang/StringUTF16" 48 yJ2_length_9d52b ∈ gTs := gTs_t (tb_2 (List.mem_of_getElem? (i := 125) rfl)) rfl
theorem wM_J2_414 : Cond.methodLink "java/lang/StringUTF16" 414 yJ0_checkIndex_df160 ∈ gTs := gTs_t (tb_2 (List.mem_of_getElem? (i := 128) rfl)) rfl
theorem wM_J2_71 : Cond.methodLink "java/lang/StringUTF16" 71 yJ2_getChar_3b067 ∈ gTs := gTs_t (tb_2 (List.mem_of_getElem? (i := 129) rfl)) rfl
theorem wF_J2_44 : Cond.fieldLink "java/lang/StringUTF16" 44 "java/lang/StringUTF16" "$assertionsDisabled" "Z" ∈ gTs := gTs_t (tb_2 (List.mem_of_getElem? (i := 132) rfl)) rfl
theorem wF_J2_59 : Cond.fieldLink "java/lang/StringUTF16" 59 "java/lang/StringUTF16" "HI_BYTE_SHIFT" "I" ∈ gTs := gTs_t (tb_2 (List.mem_of_getElem? (i := 134) rfl)) rfl
theorem wF_J2_63 : Cond.fieldLink "java/lang/StringUTF16" 63 "java/lang/StringUTF16" "LO_BYTE_SHIFT" "I" ∈ gTs := gTs_t (tb_2 (List.mem_of_getElem? (i := 136) rfl)) rfl
theorem wM_X9_45 : Cond.methodLink "GuestStaff$Text" 45 yX9_stepToStop ∈ gTs := gTs_t (tb_2 (List.mem_of_getElem? (i := 138) rfl)) rfl
theorem wM_X9_49 : Cond.methodLink "GuestStaff$Text" 49 yX9_parseItem ∈ gTs := gTs_t (tb_2 (List.mem_of_getElem? (i := 142) rfl)) rfl
theorem wM_X9_58 : Cond.methodLink "GuestStaff$Text" 58 yX9_parseGuest ∈ gTs := gTs_t (tb_2 (List.mem_of_getElem? (i := 147) rfl)) rfl
theorem wM_X9_66 : Cond.methodLink "GuestStaff$Text" 66 yX9_stepToNumber ∈ gTs := gTs_t (tb_2 (List.mem_of_getElem? (i := 151) rfl)) rfl
theorem wM_X9_70 : Cond.methodLink "GuestStaff$Text" 70 yX9_isNumber ∈ gTs := gTs_t (tb_2 (List.mem_of_getElem? (i := 155) rfl)) rfl
theorem wM_X9_73 : Cond.methodLink "GuestStaff$Text" 73 yX1_admit ∈ gTs := gTs_t (tb_2 (List.mem_of_getElem? (i := 159) rfl)) rfl
theorem wM_X9_63 : Cond.methodLink "GuestStaff$Text" 63 yX9_parseDuty ∈ gTs := gTs_t (tb_2 (List.mem_of_getElem? (i := 161) rfl)) rfl
theorem wM_X10_118 : Cond.methodLink "GuestStaff" 118 yX1_copy ∈ gTs := gTs_t (tb_2 (List.mem_of_getElem? (i := 165) rfl)) rfl
theorem wM_X1_75 : Cond.methodLink "GuestStaff$House" 75 yX3_copy ∈ gTs := gTs_t (tb_2 (List.mem_of_getElem? (i := 169) rfl)) rfl
theorem wM_X3_20 : Cond.methodLink "GuestStaff$Notes" 20 arraycopyName ∈ gTs := gTs_t (tb_2 (List.mem_of_getElem? (i := 173) rfl)) rfl
theorem wM_L_41 : Cond.methodLink "GuestStaffLaw" 41 yX10_hour ∈ gTs := gTs_t (tb_2 (List.mem_of_getElem? (i := 175) rfl)) rfl
theorem wM_X10_122 : Cond.methodLink "GuestStaff" 122 yX1_passHour ∈ gTs := gTs_t (tb_2 (List.mem_of_getElem? (i := 179) rfl)) rfl
theorem wM_X1_106 : Cond.methodLink "GuestStaff$House" 106 yX1_contentOf ∈ gTs := gTs_t (tb_2 (List.mem_of_getElem? (i := 183) rfl)) rfl
theorem wM_X1_92 : Cond.methodLink "GuestStaff$House" 92 yX1_serverOf ∈ gTs := gTs_t (tb_2 (List.mem_of_getElem? (i := 187) rfl)) rfl
theorem wM_X1_89 : Cond.methodLink "GuestStaff$House" 89 yX1_doesServe ∈ gTs := gTs_t (tb_2 (List.mem_of_getElem? (i := 191) rfl)) rfl
theorem wM_X1_85 : Cond.methodLink "GuestStaff$House" 85 yX1_canServe ∈ gTs := gTs_t (tb_2 (List.mem_of_getElem? (i := 195) rfl)) rfl
theorem wM_X1_102 : Cond.methodLink "GuestStaff$House" 102 yX1_contentBy ∈ gTs := gTs_t (tb_2 (List.mem_of_getElem? (i := 199) rfl)) rfl
theorem wM_X1_96 : Cond.methodLink "GuestStaff$House" 96 yX4_contentBy ∈ gTs := gTs_t (tb_2 (List.mem_of_getElem? (i := 203) rfl)) rfl
theorem wA_X4_contentBy : Cond.sameMethod "GuestStaff$Plain" "GuestStaff$Plain" "contentBy" "(II)I" ∈ gTs := gTs_t (tb_2 (List.mem_of_getElem? (i := 206) rfl)) rfl
theorem wS_X0_contentBy : Cond.selects "GuestStaff$Banker" yX4_contentBy yX0_contentBy ∈ gTs := gTs_t (tb_2 (List.mem_of_getElem? (i := 207) rfl)) rfl
theorem wM_X0_7 : Cond.methodLink "GuestStaff$Banker" 7 yX4_contentBy ∈ gTs := gTs_t (tb_2 (List.mem_of_getElem? (i := 210) rfl)) rfl
theorem wS_X2_contentBy : Cond.selects "GuestStaff$Late" yX4_contentBy yX2_contentBy ∈ gTs := gTs_t (tb_2 (List.mem_of_getElem? (i := 211) rfl)) rfl
theorem wM_X2_7 : Cond.methodLink "GuestStaff$Late" 7 yX6_contentBy ∈ gTs := gTs_t (tb_2 (List.mem_of_getElem? (i := 214) rfl)) rfl
theorem wM_X6_9 : Cond.methodLink "GuestStaff$Quiet" 9 yX4_contentBy ∈ gTs := gTs_t (tb_2 (List.mem_of_getElem? (i := 217) rfl)) rfl
theorem wS_X5_contentBy : Cond.selects "GuestStaff$Polisher" yX4_contentBy yX5_contentBy ∈ gTs := gTs_t (tb_2 (List.mem_of_getElem? (i := 218) rfl)) rfl
theorem wM_X5_7 : Cond.methodLink "GuestStaff$Polisher" 7 yX0_contentBy ∈ gTs := gTs_t (tb_2 (List.mem_of_getElem? (i := 221) rfl)) rfl
theorem wS_X6_contentBy : Cond.selects "GuestStaff$Quiet" yX4_contentBy yX6_contentBy ∈ gTs := gTs_t (tb_2 (List.mem_of_getElem? (i := 222) rfl)) rfl
theorem wS_X8_contentBy : Cond.selects "GuestStaff$Shouter" yX4_contentBy yX8_contentBy ∈ gTs := gTs_t (tb_2 (List.mem_of_getElem? (i := 223) rfl)) rfl
theorem wM_X8_7 : Cond.methodLink "GuestStaff$Shouter" 7 yX4_contentBy ∈ gTs := gTs_t (tb_2 (List.mem_of_getElem? (i := 226) rfl)) rfl
theorem wM_L_45 : Cond.methodLink "GuestStaffLaw" 45 yX10_undo ∈ gTs := gTs_t (tb_2 (List.mem_of_getElem? (i := 228) rfl)) rfl
theorem wM_X10_131 : Cond.methodLink "GuestStaff" 131 yX10_refuseNo ∈ gTs := gTs_t (tb_2 (List.mem_of_getElem? (i := 232) rfl)) rfl
theorem wM_X10_134 : Cond.methodLink "GuestStaff" 134 yX1_recall ∈ gTs := gTs_t (tb_2 (List.mem_of_getElem? (i := 236) rfl)) rfl
theorem wM_L_49 : Cond.methodLink "GuestStaffLaw" 49 yX10_of ∈ gTs := gTs_t (tb_3 (List.mem_of_getElem? (i := 0) rfl)) rfl
theorem wM_X10_152 : Cond.methodLink "GuestStaff" 152 yX1_serverOf ∈ gTs := gTs_t (tb_3 (List.mem_of_getElem? (i := 4) rfl)) rfl
theorem wM_X10_155 : Cond.methodLink "GuestStaff" 155 yX1_contentOf ∈ gTs := gTs_t (tb_3 (List.mem_of_getElem? (i := 5) rfl)) rfl
theorem wM_L_53 : Cond.methodLink "GuestStaffLaw" 53 yX10_can ∈ gTs := gTs_t (tb_3 (List.mem_of_getElem? (i := 6) rfl)) rfl
theorem wM_X10_158 : Cond.methodLink "GuestStaff" 158 yX1_canServe ∈ gTs := gTs_t (tb_3 (List.mem_of_getElem? (i := 10) rfl)) rfl
theorem wM_L_57 : Cond.methodLink "GuestStaffLaw" 57 yX10_work ∈ gTs := gTs_t (tb_3 (List.mem_of_getElem? (i := 11) rfl)) rfl
theorem wM_X10_161 : Cond.methodLink "GuestStaff" 161 yX1_workFor ∈ gTs := gTs_t (tb_3 (List.mem_of_getElem? (i := 15) rfl)) rfl
theorem wM_X1_103 : Cond.methodLink "GuestStaff$House" 103 yX4_workOn ∈ gTs := gTs_t (tb_3 (List.mem_of_getElem? (i := 19) rfl)) rfl
theorem wA_X4_workOn : Cond.sameMethod "GuestStaff$Plain" "GuestStaff$Plain" "workOn" "(I)I" ∈ gTs := gTs_t (tb_3 (List.mem_of_getElem? (i := 22) rfl)) rfl
theorem wS_X0_workOn : Cond.selects "GuestStaff$Banker" yX4_workOn yX0_workOn ∈ gTs := gTs_t (tb_3 (List.mem_of_getElem? (i := 23) rfl)) rfl
theorem wM_X0_11 : Cond.methodLink "GuestStaff$Banker" 11 yX4_workOn ∈ gTs := gTs_t (tb_3 (List.mem_of_getElem? (i := 26) rfl)) rfl
theorem wS_X2_workOn : Cond.selects "GuestStaff$Late" yX4_workOn yX6_workOn ∈ gTs := gTs_t (tb_3 (List.mem_of_getElem? (i := 27) rfl)) rfl
theorem wM_X6_13 : Cond.methodLink "GuestStaff$Quiet" 13 yX4_workOn ∈ gTs := gTs_t (tb_3 (List.mem_of_getElem? (i := 30) rfl)) rfl
theorem wS_X5_workOn : Cond.selects "GuestStaff$Polisher" yX4_workOn yX5_workOn ∈ gTs := gTs_t (tb_3 (List.mem_of_getElem? (i := 31) rfl)) rfl
theorem wM_X5_11 : Cond.methodLink "GuestStaff$Polisher" 11 yX0_workOn ∈ gTs := gTs_t (tb_3 (List.mem_of_getElem? (i := 34) rfl)) rfl
theorem wS_X6_workOn : Cond.selects "GuestStaff$Quiet" yX4_workOn yX6_workOn ∈ gTs := gTs_t (tb_3 (List.mem_of_getElem? (i := 35) rfl)) rfl
theorem wS_X8_workOn : Cond.selects "GuestStaff$Shouter" yX4_workOn yX4_workOn ∈ gTs := gTs_t (tb_3 (List.mem_of_getElem? (i := 36) rfl)) rfl
theorem wM_L_61 : Cond.methodLink "GuestStaffLaw" 61 yX10_all ∈ gTs := gTs_t (tb_3 (List.mem_of_getElem? (i := 38) rfl)) rfl
theorem wM_X10_165 : Cond.methodLink "GuestStaff" 165 yX7_gather ∈ gTs := gTs_t (tb_3 (List.mem_of_getElem? (i := 42) rfl)) rfl
theorem wM_X7_35 : Cond.methodLink "GuestStaff$Rows" 35 yX1_canServe ∈ gTs := gTs_t (tb_3 (List.mem_of_getElem? (i := 46) rfl)) rfl
theorem wM_X7_39 : Cond.methodLink "GuestStaff$Rows" 39 yX7_costOf ∈ gTs := gTs_t (tb_3 (List.mem_of_getElem? (i := 47) rfl)) rfl
theorem wM_X7_46 : Cond.methodLink "GuestStaff$Rows" 46 yX1_workFor ∈ gTs := gTs_t (tb_3 (List.mem_of_getElem? (i := 50) rfl)) rfl
theorem wM_X7_50 : Cond.methodLink "GuestStaff$Rows" 50 yX1_contentBy ∈ gTs := gTs_t (tb_3 (List.mem_of_getElem? (i := 51) rfl)) rfl
theorem wM_X10_169 : Cond.methodLink "GuestStaff" 169 yX7_ways ∈ gTs := gTs_t (tb_3 (List.mem_of_getElem? (i := 52) rfl)) rfl
theorem wM_X7_59 : Cond.methodLink "GuestStaff$Rows" 59 yX7_isOpen ∈ gTs := gTs_t (tb_3 (List.mem_of_getElem? (i := 56) rfl)) rfl
theorem wM_X7_53 : Cond.methodLink "GuestStaff$Rows" 53 yJ6_bitCount_0f7a4 ∈ gTs := gTs_t (tb_3 (List.mem_of_getElem? (i := 60) rfl)) rfl
theorem wC_J6_265 : Cond.constant "java/lang/Integer" 265 1431655765 ∈ gTs := gTs_t (tb_3 (List.mem_of_getElem? (i := 63) rfl)) rfl
theorem wC_J6_266 : Cond.constant "java/lang/Integer" 266 858993459 ∈ gTs := gTs_t (tb_3 (List.mem_of_getElem? (i := 64) rfl)) rfl
theorem wC_J6_267 : Cond.constant "java/lang/Integer" 267 252645135 ∈ gTs := gTs_t (tb_3 (List.mem_of_getElem? (i := 65) rfl)) rfl
theorem wM_X10_172 : Cond.methodLink "GuestStaff" 172 yX7_dutyInBest ∈ gTs := gTs_t (tb_3 (List.mem_of_getElem? (i := 66) rfl)) rfl
theorem wM_X7_71 : Cond.methodLink "GuestStaff$Rows" 71 yX7_leastCost ∈ gTs := gTs_t (tb_3 (List.mem_of_getElem? (i := 70) rfl)) rfl
theorem wC_X7_62 : Cond.constant "GuestStaff$Rows" 62 1000000 ∈ gTs := gTs_t (tb_3 (List.mem_of_getElem? (i := 74) rfl)) rfl
theorem wM_X7_63 : Cond.methodLink "GuestStaff$Rows" 63 yX7_costThrough ∈ gTs := gTs_t (tb_3 (List.mem_of_getElem? (i := 75) rfl)) rfl
theorem wM_X7_66 : Cond.methodLink "GuestStaff$Rows" 66 Lib.Math.min.name ∈ gTs := gTs_t (tb_3 (List.mem_of_getElem? (i := 79) rfl)) rfl
theorem wM_X7_75 : Cond.methodLink "GuestStaff$Rows" 75 yX7_firstBest ∈ gTs := gTs_t (tb_3 (List.mem_of_getElem? (i := 80) rfl)) rfl
theorem wM_L_65 : Cond.methodLink "GuestStaffLaw" 65 yX10_least ∈ gTs := gTs_t (tb_3 (List.mem_of_getElem? (i := 84) rfl)) rfl
theorem wM_X10_175 : Cond.methodLink "GuestStaff" 175 yX7_leastCost ∈ gTs := gTs_t (tb_3 (List.mem_of_getElem? (i := 88) rfl)) rfl
theorem wC_X10_178 : Cond.constant "GuestStaff" 178 1000000 ∈ gTs := gTs_t (tb_3 (List.mem_of_getElem? (i := 89) rfl)) rfl
theorem wM_L_69 : Cond.methodLink "GuestStaffLaw" 69 yX10_most ∈ gTs := gTs_t (tb_3 (List.mem_of_getElem? (i := 90) rfl)) rfl
theorem wM_L_73 : Cond.methodLink "GuestStaffLaw" 73 yX10_lone ∈ gTs := gTs_t (tb_3 (List.mem_of_getElem? (i := 94) rfl)) rfl
theorem wM_X10_179 : Cond.methodLink "GuestStaff" 179 yX1_isServable ∈ gTs := gTs_t (tb_3 (List.mem_of_getElem? (i := 98) rfl)) rfl
theorem wM_L_77 : Cond.methodLink "GuestStaffLaw" 77 yX10_rings ∈ gTs := gTs_t (tb_3 (List.mem_of_getElem? (i := 102) rfl)) rfl
theorem wM_X10_182 : Cond.methodLink "GuestStaff" 182 yX1_ringOf ∈ gTs := gTs_t (tb_3 (List.mem_of_getElem? (i := 106) rfl)) rfl
theorem wM_L_81 : Cond.methodLink "GuestStaffLaw" 81 yX10_smallest ∈ gTs := gTs_t (tb_3 (List.mem_of_getElem? (i := 110) rfl)) rfl
theorem wM_X10_185 : Cond.methodLink "GuestStaff" 185 yJ6_bitCount_0f7a4 ∈ gTs := gTs_t (tb_3 (List.mem_of_getElem? (i := 114) rfl)) rfl
theorem wM_X10_190 : Cond.methodLink "GuestStaff" 190 yX10_closes ∈ gTs := gTs_t (tb_3 (List.mem_of_getElem? (i := 115) rfl)) rfl
theorem wM_L_85 : Cond.methodLink "GuestStaffLaw" 85 yX10_swap ∈ gTs := gTs_t (tb_3 (List.mem_of_getElem? (i := 119) rfl)) rfl
theorem wM_X10_194 : Cond.methodLink "GuestStaff" 194 yX1_wouldSwap ∈ gTs := gTs_t (tb_3 (List.mem_of_getElem? (i := 123) rfl)) rfl
theorem wM_X1_114 : Cond.methodLink "GuestStaff$House" 114 yX1_wouldRather ∈ gTs := gTs_t (tb_3 (List.mem_of_getElem? (i := 127) rfl)) rfl
theorem wM_L_89 : Cond.methodLink "GuestStaffLaw" 89 yX10_takeIn ∈ gTs := gTs_t (tb_3 (List.mem_of_getElem? (i := 131) rfl)) rfl
theorem wM_L_93 : Cond.methodLink "GuestStaffLaw" 93 yX10_note ∈ gTs := gTs_t (tb_3 (List.mem_of_getElem? (i := 135) rfl)) rfl
theorem wM_X10_204 : Cond.methodLink "GuestStaff" 204 yX3_add ∈ gTs := gTs_t (tb_3 (List.mem_of_getElem? (i := 139) rfl)) rfl
theorem wM_L_98 : Cond.methodLink "GuestStaffLaw" 98 yX10_forget ∈ gTs := gTs_t (tb_3 (List.mem_of_getElem? (i := 143) rfl)) rfl
theorem wM_L_102 : Cond.methodLink "GuestStaffLaw" 102 yX10_wants ∈ gTs := gTs_t (tb_3 (List.mem_of_getElem? (i := 147) rfl)) rfl
theorem wM_X10_208 : Cond.methodLink "GuestStaff" 208 yX1_wantsThatFit ∈ gTs := gTs_t (tb_3 (List.mem_of_getElem? (i := 151) rfl)) rfl
theorem wM_X1_118 : Cond.methodLink "GuestStaff$House" 118 yX3_wantsThatFit ∈ gTs := gTs_t (tb_3 (List.mem_of_getElem? (i := 155) rfl)) rfl
theorem wM_X3_26 : Cond.methodLink "GuestStaff$Notes" 26 yX3_allFit ∈ gTs := gTs_t (tb_3 (List.mem_of_getElem? (i := 159) rfl)) rfl
theorem wM_X3_30 : Cond.methodLink "GuestStaff$Notes" 30 yX4_contentBy ∈ gTs := gTs_t (tb_3 (List.mem_of_getElem? (i := 163) rfl)) rfl
theorem wM_L_106 : Cond.methodLink "GuestStaffLaw" 106 yX10_is ∈ gTs := gTs_t (tb_3 (List.mem_of_getElem? (i := 164) rfl)) rfl
theorem wM_L_110 : Cond.methodLink "GuestStaffLaw" 110 yX10_next ∈ gTs := gTs_t (tb_3 (List.mem_of_getElem? (i := 168) rfl)) rfl
theorem wM_X10_211 : Cond.methodLink "GuestStaff" 211 Lib.Math.max.name ∈ gTs := gTs_t (tb_3 (List.mem_of_getElem? (i := 172) rfl)) rfl
theorem wM_L_114 : Cond.methodLink "GuestStaffLaw" 114 yX10_tips ∈ gTs := gTs_t (tb_3 (List.mem_of_getElem? (i := 175) rfl)) rfl
theorem wM_L_118 : Cond.methodLink "GuestStaffLaw" 118 yX10_moods ∈ gTs := gTs_t (tb_3 (List.mem_of_getElem? (i := 179) rfl)) rfl
theorem wM_X10_216 : Cond.methodLink "GuestStaff" 216 yX1_serversOf ∈ gTs := gTs_t (tb_3 (List.mem_of_getElem? (i := 183) rfl)) rfl
theorem wM_X10_219 : Cond.methodLink "GuestStaff" 219 yX10_oddsOfNone ∈ gTs := gTs_t (tb_3 (List.mem_of_getElem? (i := 187) rfl)) rfl
theorem wM_X10_222 : Cond.methodLink "GuestStaff" 222 yX10_keepFraction ∈ gTs := gTs_t (tb_3 (List.mem_of_getElem? (i := 190) rfl)) rfl
theorem wM_L_122 : Cond.methodLink "GuestStaffLaw" 122 yX10_hours ∈ gTs := gTs_t (tb_3 (List.mem_of_getElem? (i := 194) rfl)) rfl
theorem wC_X10_226 : Cond.constantLong "GuestStaff" 226 1103515245 ∈ gTs := gTs_t (tb_3 (List.mem_of_getElem? (i := 198) rfl)) rfl
theorem wC_X10_228 : Cond.constantLong "GuestStaff" 228 12345 ∈ gTs := gTs_t (tb_3 (List.mem_of_getElem? (i := 199) rfl)) rfl
theorem wC_X10_230 : Cond.constantLong "GuestStaff" 230 2147483648 ∈ gTs := gTs_t (tb_3 (List.mem_of_getElem? (i := 200) rfl)) rfl
theorem wC_X10_232 : Cond.constantLong "GuestStaff" 232 65536 ∈ gTs := gTs_t (tb_3 (List.mem_of_getElem? (i := 201) rfl)) rfl
theorem wC_X10_234 : Cond.constantLong "GuestStaff" 234 8 ∈ gTs := gTs_t (tb_3 (List.mem_of_getElem? (i := 202) rfl)) rfl
theorem wM_L_126 : Cond.methodLink "GuestStaffLaw" 126 yX10_part ∈ gTs := gTs_t (tb_3 (List.mem_of_getElem? (i := 203) rfl)) rfl
theorem wM_L_131 : Cond.methodLink "GuestStaffLaw" 131 yX10_image ∈ gTs := gTs_t (tb_3 (List.mem_of_getElem? (i := 207) rfl)) rfl
theorem wM_L_135 : Cond.methodLink "GuestStaffLaw" 135 yX10_from ∈ gTs := gTs_t (tb_3 (List.mem_of_getElem? (i := 211) rfl)) rfl
theorem wM_L_139 : Cond.methodLink "GuestStaffLaw" 139 yX10_status ∈ gTs := gTs_t (tb_3 (List.mem_of_getElem? (i := 215) rfl)) rfl
theorem wM_L_143 : Cond.methodLink "GuestStaffLaw" 143 yX10_count ∈ gTs := gTs_t (tb_3 (List.mem_of_getElem? (i := 219) rfl)) rfl
theorem wM_X10_236 : Cond.methodLink "GuestStaff" 236 yX10_countOf ∈ gTs := gTs_t (tb_3 (List.mem_of_getElem? (i := 223) rfl)) rfl
theorem wM_X10_250 : Cond.methodLink "GuestStaff" 250 yX1_servedCount ∈ gTs := gTs_t (tb_3 (List.mem_of_getElem? (i := 227) rfl)) rfl
theorem wM_L_147 : Cond.methodLink "GuestStaffLaw" 147 yX10_digest ∈ gTs := gTs_t (tb_3 (List.mem_of_getElem? (i := 231) rfl)) rfl
theorem wC_X10_239 : Cond.constantLong "GuestStaff" 239 1097 ∈ gTs := gTs_t (tb_3 (List.mem_of_getElem? (i := 235) rfl)) rfl
theorem wC_X10_241 : Cond.constantLong "GuestStaff" 241 31 ∈ gTs := gTs_t (tb_3 (List.mem_of_getElem? (i := 236) rfl)) rfl
theorem wM_X10_243 : Cond.methodLink "GuestStaff" 243 yX1_addGuestsTo ∈ gTs := gTs_t (tb_3 (List.mem_of_getElem? (i := 237) rfl)) rfl
theorem wC_X1_122 : Cond.constantLong "GuestStaff$House" 122 31 ∈ gTs := gTs_t (tb_4 (List.mem_of_getElem? (i := 1) rfl)) rfl
theorem wM_X10_247 : Cond.methodLink "GuestStaff" 247 yX3_addTo ∈ gTs := gTs_t (tb_4 (List.mem_of_getElem? (i := 2) rfl)) rfl
theorem wC_X3_36 : Cond.constantLong "GuestStaff$Notes" 36 31 ∈ gTs := gTs_t (tb_4 (List.mem_of_getElem? (i := 6) rfl)) rfl
theorem wM_L_12 : Cond.methodLink "GuestStaffLaw" 12 yX11_init ∈ gTs := gTs_t (tb_4 (List.mem_of_getElem? (i := 9) rfl)) rfl
theorem wM_X11_1 : Cond.methodLink "GuestStaffModel" 1 objectInit ∈ gTs := gTs_t (tb_4 (List.mem_of_getElem? (i := 12) rfl)) rfl
theorem wF_X11_7 : Cond.fieldLink "GuestStaffModel" 7 "GuestStaffModel" "st" "[I" ∈ gTs := gTs_t (tb_4 (List.mem_of_getElem? (i := 13) rfl)) rfl
theorem wF_X11_250 : Cond.fieldLink "GuestStaffModel" 250 "GuestStaffModel" "above" "J" ∈ gTs := gTs_t (tb_4 (List.mem_of_getElem? (i := 14) rfl)) rfl
theorem wF_X11_13 : Cond.fieldLink "GuestStaffModel" 13 "GuestStaffModel" "below" "J" ∈ gTs := gTs_t (tb_4 (List.mem_of_getElem? (i := 15) rfl)) rfl
theorem wF_X11_17 : Cond.fieldLink "GuestStaffModel" 17 "GuestStaffModel" "refused" "[I" ∈ gTs := gTs_t (tb_4 (List.mem_of_getElem? (i := 16) rfl)) rfl
theorem wF_X11_20 : Cond.fieldLink "GuestStaffModel" 20 "GuestStaffModel" "text" "[I" ∈ gTs := gTs_t (tb_4 (List.mem_of_getElem? (i := 17) rfl)) rfl
theorem wF_X11_97 : Cond.fieldLink "GuestStaffModel" 97 "GuestStaffModel" "bytes" "I" ∈ gTs := gTs_t (tb_4 (List.mem_of_getElem? (i := 18) rfl)) rfl
theorem wF_X11_100 : Cond.fieldLink "GuestStaffModel" 100 "GuestStaffModel" "place" "I" ∈ gTs := gTs_t (tb_4 (List.mem_of_getElem? (i := 19) rfl)) rfl
theorem wF_X11_113 : Cond.fieldLink "GuestStaffModel" 113 "GuestStaffModel" "token" "I" ∈ gTs := gTs_t (tb_4 (List.mem_of_getElem? (i := 20) rfl)) rfl
theorem wF_X11_110 : Cond.fieldLink "GuestStaffModel" 110 "GuestStaffModel" "value" "I" ∈ gTs := gTs_t (tb_4 (List.mem_of_getElem? (i := 21) rfl)) rfl
theorem wF_X11_107 : Cond.fieldLink "GuestStaffModel" 107 "GuestStaffModel" "begins" "I" ∈ gTs := gTs_t (tb_4 (List.mem_of_getElem? (i := 22) rfl)) rfl
theorem wF_X11_23 : Cond.fieldLink "GuestStaffModel" 23 "GuestStaffModel" "row" "[I" ∈ gTs := gTs_t (tb_4 (List.mem_of_getElem? (i := 23) rfl)) rfl
theorem wF_X11_127 : Cond.fieldLink "GuestStaffModel" 127 "GuestStaffModel" "services" "I" ∈ gTs := gTs_t (tb_4 (List.mem_of_getElem? (i := 24) rfl)) rfl
theorem wF_X11_134 : Cond.fieldLink "GuestStaffModel" 134 "GuestStaffModel" "toldGuests" "I" ∈ gTs := gTs_t (tb_4 (List.mem_of_getElem? (i := 25) rfl)) rfl
theorem wF_X11_26 : Cond.fieldLink "GuestStaffModel" 26 "GuestStaffModel" "ahead" "[I" ∈ gTs := gTs_t (tb_4 (List.mem_of_getElem? (i := 26) rfl)) rfl
theorem wF_X11_61 : Cond.fieldLink "GuestStaffModel" 61 "GuestStaffModel" "undoMany" "I" ∈ gTs := gTs_t (tb_4 (List.mem_of_getElem? (i := 27) rfl)) rfl
theorem wF_X11_29 : Cond.fieldLink "GuestStaffModel" 29 "GuestStaffModel" "who" "[I" ∈ gTs := gTs_t (tb_4 (List.mem_of_getElem? (i := 28) rfl)) rfl
theorem wF_X11_183 : Cond.fieldLink "GuestStaffModel" 183 "GuestStaffModel" "many" "I" ∈ gTs := gTs_t (tb_4 (List.mem_of_getElem? (i := 29) rfl)) rfl
theorem wF_X11_32 : Cond.fieldLink "GuestStaffModel" 32 "GuestStaffModel" "duties" "[I" ∈ gTs := gTs_t (tb_4 (List.mem_of_getElem? (i := 30) rfl)) rfl
theorem wF_X11_35 : Cond.fieldLink "GuestStaffModel" 35 "GuestStaffModel" "firstRow" "[I" ∈ gTs := gTs_t (tb_4 (List.mem_of_getElem? (i := 31) rfl)) rfl
theorem wF_X11_196 : Cond.fieldLink "GuestStaffModel" 196 "GuestStaffModel" "rowMany" "I" ∈ gTs := gTs_t (tb_4 (List.mem_of_getElem? (i := 32) rfl)) rfl
theorem wF_X11_199 : Cond.fieldLink "GuestStaffModel" 199 "GuestStaffModel" "leastWork" "I" ∈ gTs := gTs_t (tb_4 (List.mem_of_getElem? (i := 33) rfl)) rfl
theorem wF_X11_202 : Cond.fieldLink "GuestStaffModel" 202 "GuestStaffModel" "mostContent" "I" ∈ gTs := gTs_t (tb_4 (List.mem_of_getElem? (i := 34) rfl)) rfl
theorem wF_X11_38 : Cond.fieldLink "GuestStaffModel" 38 "GuestStaffModel" "bestRow" "[I" ∈ gTs := gTs_t (tb_4 (List.mem_of_getElem? (i := 35) rfl)) rfl
theorem wF_X11_41 : Cond.fieldLink "GuestStaffModel" 41 "GuestStaffModel" "aside" "[I" ∈ gTs := gTs_t (tb_4 (List.mem_of_getElem? (i := 36) rfl)) rfl
theorem wF_X11_44 : Cond.fieldLink "GuestStaffModel" 44 "GuestStaffModel" "isKept" "[Z" ∈ gTs := gTs_t (tb_4 (List.mem_of_getElem? (i := 37) rfl)) rfl
theorem wF_X11_48 : Cond.fieldLink "GuestStaffModel" 48 "GuestStaffModel" "kept" "[I" ∈ gTs := gTs_t (tb_4 (List.mem_of_getElem? (i := 38) rfl)) rfl
theorem wF_X11_51 : Cond.fieldLink "GuestStaffModel" 51 "GuestStaffModel" "keptAhead" "[I" ∈ gTs := gTs_t (tb_4 (List.mem_of_getElem? (i := 39) rfl)) rfl
theorem wF_X11_54 : Cond.fieldLink "GuestStaffModel" 54 "GuestStaffModel" "keptMany" "[I" ∈ gTs := gTs_t (tb_4 (List.mem_of_getElem? (i := 40) rfl)) rfl
theorem wU_X11 : Cond.superclass "GuestStaffModel" "java/lang/Object" ∈ gTs := gTs_t (tb_4 (List.mem_of_getElem? (i := 97) rfl)) rfl
theorem wM_L_17 : Cond.methodLink "GuestStaffLaw" 17 yX11_house ∈ gTs := gTs_t (tb_4 (List.mem_of_getElem? (i := 98) rfl)) rfl
theorem wM_X11_65 : Cond.methodLink "GuestStaffModel" 65 yX11_anew ∈ gTs := gTs_t (tb_4 (List.mem_of_getElem? (i := 102) rfl)) rfl
theorem wM_L_22 : Cond.methodLink "GuestStaffLaw" 22 yX11_guest ∈ gTs := gTs_t (tb_4 (List.mem_of_getElem? (i := 106) rfl)) rfl
theorem wC_X11_68 : Cond.constantLong "GuestStaffModel" 68 5 ∈ gTs := gTs_t (tb_4 (List.mem_of_getElem? (i := 110) rfl)) rfl
theorem wM_X11_57 : Cond.methodLink "GuestStaffModel" 57 yX11_in ∈ gTs := gTs_t (tb_4 (List.mem_of_getElem? (i := 111) rfl)) rfl
theorem wC_X11_70 : Cond.constantLong "GuestStaffModel" 70 7 ∈ gTs := gTs_t (tb_4 (List.mem_of_getElem? (i := 114) rfl)) rfl
theorem wC_X11_72 : Cond.constantLong "GuestStaffModel" 72 255 ∈ gTs := gTs_t (tb_4 (List.mem_of_getElem? (i := 115) rfl)) rfl
theorem wM_X11_74 : Cond.methodLink "GuestStaffModel" 74 yX11_bad ∈ gTs := gTs_t (tb_4 (List.mem_of_getElem? (i := 116) rfl)) rfl
theorem wM_X11_78 : Cond.methodLink "GuestStaffModel" 78 yX11_full ∈ gTs := gTs_t (tb_4 (List.mem_of_getElem? (i := 120) rfl)) rfl
theorem wM_X11_81 : Cond.methodLink "GuestStaffModel" 81 yX11_add ∈ gTs := gTs_t (tb_4 (List.mem_of_getElem? (i := 124) rfl)) rfl
theorem wM_L_27 : Cond.methodLink "GuestStaffLaw" 27 yX11_duty ∈ gTs := gTs_t (tb_4 (List.mem_of_getElem? (i := 128) rfl)) rfl
theorem wM_X11_85 : Cond.methodLink "GuestStaffModel" 85 yX11_isGuest ∈ gTs := gTs_t (tb_4 (List.mem_of_getElem? (i := 132) rfl)) rfl
theorem wM_X11_89 : Cond.methodLink "GuestStaffModel" 89 yX11_badFar ∈ gTs := gTs_t (tb_4 (List.mem_of_getElem? (i := 136) rfl)) rfl
theorem wM_X11_92 : Cond.methodLink "GuestStaffModel" 92 yX11_noteStep ∈ gTs := gTs_t (tb_4 (List.mem_of_getElem? (i := 140) rfl)) rfl
theorem wM_L_32 : Cond.methodLink "GuestStaffLaw" 32 yX11_type ∈ gTs := gTs_t (tb_4 (List.mem_of_getElem? (i := 144) rfl)) rfl
theorem wC_X11_95 : Cond.constantLong "GuestStaffModel" 95 127 ∈ gTs := gTs_t (tb_4 (List.mem_of_getElem? (i := 148) rfl)) rfl
theorem wM_L_36 : Cond.methodLink "GuestStaffLaw" 36 yX11_clear ∈ gTs := gTs_t (tb_4 (List.mem_of_getElem? (i := 149) rfl)) rfl
theorem wM_L_40 : Cond.methodLink "GuestStaffLaw" 40 yX11_read ∈ gTs := gTs_t (tb_4 (List.mem_of_getElem? (i := 153) rfl)) rfl
theorem wM_X11_149 : Cond.methodLink "GuestStaffModel" 149 yX11_readText ∈ gTs := gTs_t (tb_4 (List.mem_of_getElem? (i := 157) rfl)) rfl
theorem wM_X11_124 : Cond.methodLink "GuestStaffModel" 124 yX11_nextToken ∈ gTs := gTs_t (tb_4 (List.mem_of_getElem? (i := 161) rfl)) rfl
theorem wM_X11_103 : Cond.methodLink "GuestStaffModel" 103 yX11_byteAt ∈ gTs := gTs_t (tb_4 (List.mem_of_getElem? (i := 165) rfl)) rfl
theorem wC_X11_116 : Cond.constantLong "GuestStaffModel" 116 97 ∈ gTs := gTs_t (tb_4 (List.mem_of_getElem? (i := 169) rfl)) rfl
theorem wC_X11_118 : Cond.constantLong "GuestStaffModel" 118 122 ∈ gTs := gTs_t (tb_4 (List.mem_of_getElem? (i := 170) rfl)) rfl
theorem wC_X11_120 : Cond.constantLong "GuestStaffModel" 120 48 ∈ gTs := gTs_t (tb_4 (List.mem_of_getElem? (i := 171) rfl)) rfl
theorem wC_X11_122 : Cond.constantLong "GuestStaffModel" 122 57 ∈ gTs := gTs_t (tb_4 (List.mem_of_getElem? (i := 172) rfl)) rfl
theorem wM_X11_145 : Cond.methodLink "GuestStaffModel" 145 yX11_readItem ∈ gTs := gTs_t (tb_4 (List.mem_of_getElem? (i := 173) rfl)) rfl
theorem wM_X11_130 : Cond.methodLink "GuestStaffModel" 130 yX11_isWord ∈ gTs := gTs_t (tb_4 (List.mem_of_getElem? (i := 177) rfl)) rfl
theorem wM_X11_137 : Cond.methodLink "GuestStaffModel" 137 yX11_reads ∈ gTs := gTs_t (tb_4 (List.mem_of_getElem? (i := 181) rfl)) rfl
theorem wM_X11_141 : Cond.methodLink "GuestStaffModel" 141 yX11_readServices ∈ gTs := gTs_t (tb_4 (List.mem_of_getElem? (i := 185) rfl)) rfl
theorem wM_L_44 : Cond.methodLink "GuestStaffLaw" 44 yX11_hour ∈ gTs := gTs_t (tb_4 (List.mem_of_getElem? (i := 189) rfl)) rfl
theorem wC_X11_170 : Cond.constantLong "GuestStaffModel" 170 60 ∈ gTs := gTs_t (tb_4 (List.mem_of_getElem? (i := 193) rfl)) rfl
theorem wM_X11_172 : Cond.methodLink "GuestStaffModel" 172 yX11_oneHour ∈ gTs := gTs_t (tb_4 (List.mem_of_getElem? (i := 194) rfl)) rfl
theorem wM_X11_163 : Cond.methodLink "GuestStaffModel" 163 yX11_serverOf ∈ gTs := gTs_t (tb_4 (List.mem_of_getElem? (i := 198) rfl)) rfl
theorem wM_X11_156 : Cond.methodLink "GuestStaffModel" 156 yX11_canServe ∈ gTs := gTs_t (tb_4 (List.mem_of_getElem? (i := 202) rfl)) rfl
theorem wM_X11_153 : Cond.methodLink "GuestStaffModel" 153 yX11_has ∈ gTs := gTs_t (tb_4 (List.mem_of_getElem? (i := 206) rfl)) rfl
theorem wM_X11_166 : Cond.methodLink "GuestStaffModel" 166 yX11_contentOf ∈ gTs := gTs_t (tb_4 (List.mem_of_getElem? (i := 209) rfl)) rfl
theorem wM_X11_159 : Cond.methodLink "GuestStaffModel" 159 yX11_contentBy ∈ gTs := gTs_t (tb_4 (List.mem_of_getElem? (i := 213) rfl)) rfl
theorem wM_L_48 : Cond.methodLink "GuestStaffLaw" 48 yX11_undo ∈ gTs := gTs_t (tb_4 (List.mem_of_getElem? (i := 216) rfl)) rfl
theorem wM_X11_175 : Cond.methodLink "GuestStaffModel" 175 yX11_no ∈ gTs := gTs_t (tb_4 (List.mem_of_getElem? (i := 220) rfl)) rfl
theorem wM_L_52 : Cond.methodLink "GuestStaffLaw" 52 yX11_of ∈ gTs := gTs_t (tb_4 (List.mem_of_getElem? (i := 224) rfl)) rfl
theorem wC_X11_178 : Cond.constantLong "GuestStaffModel" 178 6 ∈ gTs := gTs_t (tb_4 (List.mem_of_getElem? (i := 228) rfl)) rfl
theorem wM_L_56 : Cond.methodLink "GuestStaffLaw" 56 yX11_can ∈ gTs := gTs_t (tb_4 (List.mem_of_getElem? (i := 229) rfl)) rfl
theorem wM_L_60 : Cond.methodLink "GuestStaffLaw" 60 yX11_work ∈ gTs := gTs_t (tb_4 (List.mem_of_getElem? (i := 233) rfl)) rfl
theorem wM_X11_180 : Cond.methodLink "GuestStaffModel" 180 yX11_workBy ∈ gTs := gTs_t (tb_4 (List.mem_of_getElem? (i := 237) rfl)) rfl
theorem wM_L_64 : Cond.methodLink "GuestStaffLaw" 64 yX11_all ∈ gTs := gTs_t (tb_5 (List.mem_of_getElem? (i := 1) rfl)) rfl
theorem wM_X11_214 : Cond.methodLink "GuestStaffModel" 214 yX11_isOne ∈ gTs := gTs_t (tb_5 (List.mem_of_getElem? (i := 5) rfl)) rfl
theorem wM_X11_217 : Cond.methodLink "GuestStaffModel" 217 yX11_findRows ∈ gTs := gTs_t (tb_5 (List.mem_of_getElem? (i := 9) rfl)) rfl
theorem wM_X11_189 : Cond.methodLink "GuestStaffModel" 189 yX11_everybody ∈ gTs := gTs_t (tb_5 (List.mem_of_getElem? (i := 13) rfl)) rfl
theorem wM_X11_192 : Cond.methodLink "GuestStaffModel" 192 yX11_takeSet ∈ gTs := gTs_t (tb_5 (List.mem_of_getElem? (i := 17) rfl)) rfl
theorem wM_X11_186 : Cond.methodLink "GuestStaffModel" 186 yX11_factorial ∈ gTs := gTs_t (tb_5 (List.mem_of_getElem? (i := 21) rfl)) rfl
theorem wM_X11_205 : Cond.methodLink "GuestStaffModel" 205 yX11_isRow ∈ gTs := gTs_t (tb_5 (List.mem_of_getElem? (i := 24) rfl)) rfl
theorem wM_X11_208 : Cond.methodLink "GuestStaffModel" 208 yX11_rowWork ∈ gTs := gTs_t (tb_5 (List.mem_of_getElem? (i := 28) rfl)) rfl
theorem wM_X11_211 : Cond.methodLink "GuestStaffModel" 211 yX11_rowContent ∈ gTs := gTs_t (tb_5 (List.mem_of_getElem? (i := 32) rfl)) rfl
theorem wM_L_68 : Cond.methodLink "GuestStaffLaw" 68 yX11_least ∈ gTs := gTs_t (tb_5 (List.mem_of_getElem? (i := 36) rfl)) rfl
theorem wM_L_72 : Cond.methodLink "GuestStaffLaw" 72 yX11_most ∈ gTs := gTs_t (tb_5 (List.mem_of_getElem? (i := 40) rfl)) rfl
theorem wM_L_76 : Cond.methodLink "GuestStaffLaw" 76 yX11_lone ∈ gTs := gTs_t (tb_5 (List.mem_of_getElem? (i := 44) rfl)) rfl
theorem wM_L_80 : Cond.methodLink "GuestStaffLaw" 80 yX11_rings ∈ gTs := gTs_t (tb_5 (List.mem_of_getElem? (i := 48) rfl)) rfl
theorem wM_X11_220 : Cond.methodLink "GuestStaffModel" 220 yX11_ringOf ∈ gTs := gTs_t (tb_5 (List.mem_of_getElem? (i := 52) rfl)) rfl
theorem wM_L_84 : Cond.methodLink "GuestStaffLaw" 84 yX11_smallest ∈ gTs := gTs_t (tb_5 (List.mem_of_getElem? (i := 56) rfl)) rfl
theorem wM_X11_223 : Cond.methodLink "GuestStaffModel" 223 yX11_ones ∈ gTs := gTs_t (tb_5 (List.mem_of_getElem? (i := 60) rfl)) rfl
theorem wM_X11_226 : Cond.methodLink "GuestStaffModel" 226 yX11_closes ∈ gTs := gTs_t (tb_5 (List.mem_of_getElem? (i := 63) rfl)) rfl
theorem wM_L_88 : Cond.methodLink "GuestStaffLaw" 88 yX11_swap ∈ gTs := gTs_t (tb_5 (List.mem_of_getElem? (i := 67) rfl)) rfl
theorem wM_X11_229 : Cond.methodLink "GuestStaffModel" 229 yX11_gains ∈ gTs := gTs_t (tb_5 (List.mem_of_getElem? (i := 71) rfl)) rfl
theorem wM_L_92 : Cond.methodLink "GuestStaffLaw" 92 yX11_takeIn ∈ gTs := gTs_t (tb_5 (List.mem_of_getElem? (i := 75) rfl)) rfl
theorem wM_L_97 : Cond.methodLink "GuestStaffLaw" 97 yX11_note ∈ gTs := gTs_t (tb_5 (List.mem_of_getElem? (i := 79) rfl)) rfl
theorem wC_X11_232 : Cond.constantLong "GuestStaffModel" 232 99 ∈ gTs := gTs_t (tb_5 (List.mem_of_getElem? (i := 83) rfl)) rfl
theorem wC_X11_234 : Cond.constantLong "GuestStaffModel" 234 30 ∈ gTs := gTs_t (tb_5 (List.mem_of_getElem? (i := 84) rfl)) rfl
theorem wM_L_101 : Cond.methodLink "GuestStaffLaw" 101 yX11_forget ∈ gTs := gTs_t (tb_5 (List.mem_of_getElem? (i := 85) rfl)) rfl
theorem wM_L_105 : Cond.methodLink "GuestStaffLaw" 105 yX11_wants ∈ gTs := gTs_t (tb_5 (List.mem_of_getElem? (i := 89) rfl)) rfl
theorem wM_X11_236 : Cond.methodLink "GuestStaffModel" 236 yX11_wantsBy ∈ gTs := gTs_t (tb_5 (List.mem_of_getElem? (i := 93) rfl)) rfl
theorem wM_L_109 : Cond.methodLink "GuestStaffLaw" 109 yX11_is ∈ gTs := gTs_t (tb_5 (List.mem_of_getElem? (i := 97) rfl)) rfl
theorem wM_L_113 : Cond.methodLink "GuestStaffLaw" 113 yX11_next ∈ gTs := gTs_t (tb_5 (List.mem_of_getElem? (i := 101) rfl)) rfl
theorem wM_L_117 : Cond.methodLink "GuestStaffLaw" 117 yX11_tips ∈ gTs := gTs_t (tb_5 (List.mem_of_getElem? (i := 105) rfl)) rfl
theorem wM_X11_239 : Cond.methodLink "GuestStaffModel" 239 yX11_putAside ∈ gTs := gTs_t (tb_5 (List.mem_of_getElem? (i := 109) rfl)) rfl
theorem wM_X11_242 : Cond.methodLink "GuestStaffModel" 242 yX11_takeBack ∈ gTs := gTs_t (tb_5 (List.mem_of_getElem? (i := 113) rfl)) rfl
theorem wM_L_121 : Cond.methodLink "GuestStaffLaw" 121 yX11_moods ∈ gTs := gTs_t (tb_5 (List.mem_of_getElem? (i := 117) rfl)) rfl
theorem wC_X11_245 : Cond.constantLong "GuestStaffModel" 245 10 ∈ gTs := gTs_t (tb_5 (List.mem_of_getElem? (i := 121) rfl)) rfl
theorem wM_X11_247 : Cond.methodLink "GuestStaffModel" 247 yX11_servedMany ∈ gTs := gTs_t (tb_5 (List.mem_of_getElem? (i := 122) rfl)) rfl
theorem wM_L_125 : Cond.methodLink "GuestStaffLaw" 125 yX11_hours ∈ gTs := gTs_t (tb_5 (List.mem_of_getElem? (i := 126) rfl)) rfl
theorem wC_X11_253 : Cond.constantLong "GuestStaffModel" 253 999999 ∈ gTs := gTs_t (tb_5 (List.mem_of_getElem? (i := 130) rfl)) rfl
theorem wC_X11_255 : Cond.constantLong "GuestStaffModel" 255 1103515245 ∈ gTs := gTs_t (tb_5 (List.mem_of_getElem? (i := 131) rfl)) rfl
theorem wC_X11_257 : Cond.constantLong "GuestStaffModel" 257 12345 ∈ gTs := gTs_t (tb_5 (List.mem_of_getElem? (i := 132) rfl)) rfl
theorem wC_X11_259 : Cond.constantLong "GuestStaffModel" 259 2147483648 ∈ gTs := gTs_t (tb_5 (List.mem_of_getElem? (i := 133) rfl)) rfl
theorem wC_X11_261 : Cond.constantLong "GuestStaffModel" 261 65536 ∈ gTs := gTs_t (tb_5 (List.mem_of_getElem? (i := 134) rfl)) rfl
theorem wC_X11_263 : Cond.constantLong "GuestStaffModel" 263 8 ∈ gTs := gTs_t (tb_5 (List.mem_of_getElem? (i := 135) rfl)) rfl
theorem wM_L_130 : Cond.methodLink "GuestStaffLaw" 130 yX11_part ∈ gTs := gTs_t (tb_5 (List.mem_of_getElem? (i := 136) rfl)) rfl
theorem wM_L_134 : Cond.methodLink "GuestStaffLaw" 134 yX11_image ∈ gTs := gTs_t (tb_5 (List.mem_of_getElem? (i := 140) rfl)) rfl
theorem wM_L_138 : Cond.methodLink "GuestStaffLaw" 138 yX11_from ∈ gTs := gTs_t (tb_5 (List.mem_of_getElem? (i := 144) rfl)) rfl
theorem wM_L_142 : Cond.methodLink "GuestStaffLaw" 142 yX11_status ∈ gTs := gTs_t (tb_5 (List.mem_of_getElem? (i := 148) rfl)) rfl
theorem wC_X11_265 : Cond.constantLong "GuestStaffModel" 265 2 ∈ gTs := gTs_t (tb_5 (List.mem_of_getElem? (i := 152) rfl)) rfl
theorem wM_L_146 : Cond.methodLink "GuestStaffLaw" 146 yX11_count ∈ gTs := gTs_t (tb_5 (List.mem_of_getElem? (i := 153) rfl)) rfl
theorem wM_X11_267 : Cond.methodLink "GuestStaffModel" 267 yX11_countOf ∈ gTs := gTs_t (tb_5 (List.mem_of_getElem? (i := 157) rfl)) rfl
theorem wM_L_151 : Cond.methodLink "GuestStaffLaw" 151 yX11_digest ∈ gTs := gTs_t (tb_5 (List.mem_of_getElem? (i := 161) rfl)) rfl
theorem wC_X11_270 : Cond.constantLong "GuestStaffModel" 270 1097 ∈ gTs := gTs_t (tb_5 (List.mem_of_getElem? (i := 165) rfl)) rfl
theorem wC_X11_272 : Cond.constantLong "GuestStaffModel" 272 31 ∈ gTs := gTs_t (tb_5 (List.mem_of_getElem? (i := 166) rfl)) rfl
theorem wA_X6_contentBy : Cond.sameMethod "GuestStaff$Quiet" "GuestStaff$Quiet" "contentBy" "(II)I" ∈ gTs := gTs_t (tb_5 (List.mem_of_getElem? (i := 167) rfl)) rfl
theorem wA_X0_contentBy : Cond.sameMethod "GuestStaff$Banker" "GuestStaff$Banker" "contentBy" "(II)I" ∈ gTs := gTs_t (tb_5 (List.mem_of_getElem? (i := 168) rfl)) rfl
theorem wA_X0_workOn : Cond.sameMethod "GuestStaff$Banker" "GuestStaff$Banker" "workOn" "(I)I" ∈ gTs := gTs_t (tb_5 (List.mem_of_getElem? (i := 169) rfl)) rfl
theorem wF_J0_9 : Cond.fieldLink "java/lang/String" 9 "java/lang/String" "value" "[B" ∈ gTs := gTs_t (tb_5 (List.mem_of_getElem? (i := 175) rfl)) rfl
theorem wF_J0_15 : Cond.fieldLink "java/lang/String" 15 "java/lang/String" "coder" "B" ∈ gTs := gTs_t (tb_5 (List.mem_of_getElem? (i := 176) rfl)) rfl
theorem mt_X10_init : gMth yX10_init cX10_init 2 none 0 := ⟨gTs_t (tb_1 (List.mem_of_getElem? (i := 24) rfl)) rfl, wI_X10, by decide +kernel, by decide +kernel, by decide +kernel⟩
theorem mt_X9_init : gMth yX9_init cX9_init 1 none 0 := ⟨gTs_t (tb_1 (List.mem_of_getElem? (i := 32) rfl)) rfl, wI_X9, by decide +kernel, by decide +kernel, by decide +kernel⟩
theorem mt_X7_init : gMth yX7_init cX7_init 1 none 0 := ⟨gTs_t (tb_1 (List.mem_of_getElem? (i := 61) rfl)) rfl, wI_X7, by decide +kernel, by decide +kernel, by decide +kernel⟩
theorem mt_X4_init : gMth yX4_init cX4_init 1 none 0 := ⟨gTs_t (tb_1 (List.mem_of_getElem? (i := 86) rfl)) rfl, wI_X4, by decide +kernel, by decide +kernel, by decide +kernel⟩
theorem mt_X6_init : gMth yX6_init cX6_init 1 none 0 := ⟨gTs_t (tb_1 (List.mem_of_getElem? (i := 93) rfl)) rfl, wI_X6, by decide +kernel, by decide +kernel, by decide +kernel⟩
theorem mt_X0_init : gMth yX0_init cX0_init 1 none 0 := ⟨gTs_t (tb_1 (List.mem_of_getElem? (i := 100) rfl)) rfl, wI_X0, by decide +kernel, by decide +kernel, by decide +kernel⟩
theorem mt_X8_init : gMth yX8_init cX8_init 1 none 0 := ⟨gTs_t (tb_1 (List.mem_of_getElem? (i := 107) rfl)) rfl, wI_X8, by decide +kernel, by decide +kernel, by decide +kernel⟩
theorem mt_X2_init : gMth yX2_init cX2_init 1 none 0 := ⟨gTs_t (tb_1 (List.mem_of_getElem? (i := 114) rfl)) rfl, wI_X2, by decide +kernel, by decide +kernel, by decide +kernel⟩
theorem mt_X5_init : gMth yX5_init cX5_init 1 none 0 := ⟨gTs_t (tb_1 (List.mem_of_getElem? (i := 121) rfl)) rfl, wI_X5, by decide +kernel, by decide +kernel, by decide +kernel⟩
theorem mt_X1_init : gMth yX1_init cX1_init 2 none 1 := ⟨gTs_t (tb_1 (List.mem_of_getElem? (i := 128) rfl)) rfl, wI_X1, by decide +kernel, by decide +kernel, by decide +kernel⟩
theorem mt_X3_init : gMth yX3_init cX3_init 1 none 0 := ⟨gTs_t (tb_1 (List.mem_of_getElem? (i := 134) rfl)) rfl, wI_X3, by decide +kernel, by decide +kernel, by decide +kernel⟩
theorem mt_X10_house : gMth yX10_house cX10_house 2 (some .int) 0 := ⟨gTs_t (tb_2 (List.mem_of_getElem? (i := 2) rfl)) rfl, wI_X10, by decide +kernel, by decide +kernel, by decide +kernel⟩
theorem mi_X10_house : Cond.instanceMethod yX10_house ∈ gTs := gTs_t (tb_2 (List.mem_of_getElem? (i := 0) rfl)) rfl
theorem mm_X10_house : gMi yX10_house cX10_house 2 (some .int) 0 := ⟨mt_X10_house, mi_X10_house, gTs_t (tb_2 (List.mem_of_getElem? (i := 1) rfl)) rfl⟩
theorem mt_X1_empty : gMth yX1_empty cX1_empty 1 none 0 := ⟨gTs_t (tb_2 (List.mem_of_getElem? (i := 6) rfl)) rfl, wI_X1, by decide +kernel, by decide +kernel, by decide +kernel⟩
theorem mi_X1_empty : Cond.instanceMethod yX1_empty ∈ gTs := gTs_t (tb_2 (List.mem_of_getElem? (i := 4) rfl)) rfl
theorem mm_X1_empty : gMi yX1_empty cX1_empty 1 none 0 := ⟨mt_X1_empty, mi_X1_empty, gTs_t (tb_2 (List.mem_of_getElem? (i := 5) rfl)) rfl⟩
theorem mt_X10_guest : gMth yX10_guest cX10_guest 4 (some .int) 3 := ⟨gTs_t (tb_2 (List.mem_of_getElem? (i := 10) rfl)) rfl, wI_X10, by decide +kernel, by decide +kernel, by decide +kernel⟩
theorem mi_X10_guest : Cond.instanceMethod yX10_guest ∈ gTs := gTs_t (tb_2 (List.mem_of_getElem? (i := 8) rfl)) rfl
theorem mm_X10_guest : gMi yX10_guest cX10_guest 4 (some .int) 3 := ⟨mt_X10_guest, mi_X10_guest, gTs_t (tb_2 (List.mem_of_getElem? (i := 9) rfl)) rfl⟩
theorem mt_X10_isBelow : gMth yX10_isBelow cX10_isBelow 2 (some .boolean) 2 := ⟨gTs_t (tb_2 (List.mem_of_getElem? (i := 13) rfl)) rfl, wI_X10, by decide +kernel, by decide +kernel, by decide +kernel⟩
theorem mm_X10_isBelow : gMs yX10_isBelow cX10_isBelow 2 (some .boolean) 2 := ⟨mt_X10_isBelow, gTs_t (tb_2 (List.mem_of_getElem? (i := 12) rfl)) rfl⟩
theorem mt_X10_refuseBad : gMth yX10_refuseBad cX10_refuseBad 2 (some .int) 1 := ⟨gTs_t (tb_2 (List.mem_of_getElem? (i := 17) rfl)) rfl, wI_X10, by decide +kernel, by decide +kernel, by decide +kernel⟩
theorem mi_X10_refuseBad : Cond.instanceMethod yX10_refuseBad ∈ gTs := gTs_t (tb_2 (List.mem_of_getElem? (i := 16) rfl)) rfl
theorem mm_X10_refuseBad : gMi yX10_refuseBad cX10_refuseBad 2 (some .int) 1 := ⟨mt_X10_refuseBad, mi_X10_refuseBad, gTs_p (q := (yX10_refuseBad, 9)) (List.mem_of_getElem? (i := 0) (by decide +kernel)) (by decide +kernel)⟩
theorem mt_X10_refuseFull : gMth yX10_refuseFull cX10_refuseFull 1 (some .int) 0 := ⟨gTs_t (tb_2 (List.mem_of_getElem? (i := 21) rfl)) rfl, wI_X10, by decide +kernel, by decide +kernel, by decide +kernel⟩
theorem mi_X10_refuseFull : Cond.instanceMethod yX10_refuseFull ∈ gTs := gTs_t (tb_2 (List.mem_of_getElem? (i := 20) rfl)) rfl
theorem mm_X10_refuseFull : gMi yX10_refuseFull cX10_refuseFull 1 (some .int) 0 := ⟨mt_X10_refuseFull, mi_X10_refuseFull, gTs_p (q := (yX10_refuseFull, 9)) (List.mem_of_getElem? (i := 1) (by decide +kernel)) (by decide +kernel)⟩
theorem mt_X1_admit : gMth yX1_admit cX1_admit 5 (some .int) 3 := ⟨gTs_t (tb_2 (List.mem_of_getElem? (i := 25) rfl)) rfl, wI_X1, by decide +kernel, by decide +kernel, by decide +kernel⟩
theorem mi_X1_admit : Cond.instanceMethod yX1_admit ∈ gTs := gTs_t (tb_2 (List.mem_of_getElem? (i := 23) rfl)) rfl
theorem mm_X1_admit : gMi yX1_admit cX1_admit 5 (some .int) 3 := ⟨mt_X1_admit, mi_X1_admit, gTs_t (tb_2 (List.mem_of_getElem? (i := 24) rfl)) rfl⟩
theorem mt_X10_duty : gMth yX10_duty cX10_duty 4 (some .int) 2 := ⟨gTs_t (tb_2 (List.mem_of_getElem? (i := 29) rfl)) rfl, wI_X10, by decide +kernel, by decide +kernel, by decide +kernel⟩
theorem mi_X10_duty : Cond.instanceMethod yX10_duty ∈ gTs := gTs_t (tb_2 (List.mem_of_getElem? (i := 27) rfl)) rfl
theorem mm_X10_duty : gMi yX10_duty cX10_duty 4 (some .int) 2 := ⟨mt_X10_duty, mi_X10_duty, gTs_t (tb_2 (List.mem_of_getElem? (i := 28) rfl)) rfl⟩
theorem mt_X1_isGuest : gMth yX1_isGuest cX1_isGuest 2 (some .boolean) 1 := ⟨gTs_t (tb_2 (List.mem_of_getElem? (i := 33) rfl)) rfl, wI_X1, by decide +kernel, by decide +kernel, by decide +kernel⟩
theorem mi_X1_isGuest : Cond.instanceMethod yX1_isGuest ∈ gTs := gTs_t (tb_2 (List.mem_of_getElem? (i := 31) rfl)) rfl
theorem mm_X1_isGuest : gMi yX1_isGuest cX1_isGuest 2 (some .boolean) 1 := ⟨mt_X1_isGuest, mi_X1_isGuest, gTs_t (tb_2 (List.mem_of_getElem? (i := 32) rfl)) rfl⟩
theorem mt_X1_remember : gMth yX1_remember cX1_remember 1 none 0 := ⟨gTs_t (tb_2 (List.mem_of_getElem? (i := 37) rfl)) rfl, wI_X1, by decide +kernel, by decide +kernel, by decide +kernel⟩
theorem mi_X1_remember : Cond.instanceMethod yX1_remember ∈ gTs := gTs_t (tb_2 (List.mem_of_getElem? (i := 35) rfl)) rfl
theorem mm_X1_remember : gMi yX1_remember cX1_remember 1 none 0 := ⟨mt_X1_remember, mi_X1_remember, gTs_t (tb_2 (List.mem_of_getElem? (i := 36) rfl)) rfl⟩
theorem mt_X1_copyRow : gMth yX1_copyRow cX1_copyRow 2 none 2 := ⟨gTs_t (tb_2 (List.mem_of_getElem? (i := 40) rfl)) rfl, wI_X1, by decide +kernel, by decide +kernel, by decide +kernel⟩
theorem mm_X1_copyRow : gMs yX1_copyRow cX1_copyRow 2 none 2 := ⟨mt_X1_copyRow, gTs_t (tb_2 (List.mem_of_getElem? (i := 39) rfl)) rfl⟩
theorem mt_J9_min_7cf53 : gMth yJ9_min_7cf53 cJ9_min_7cf53 2 (some .int) 2 := ⟨gTs_t (tb_2 (List.mem_of_getElem? (i := 46) rfl)) rfl, wI_J9, by decide +kernel, by decide +kernel, by decide +kernel⟩
theorem mm_J9_min_7cf53 : gMs yJ9_min_7cf53 cJ9_min_7cf53 2 (some .int) 2 := ⟨mt_J9_min_7cf53, gTs_t (tb_2 (List.mem_of_getElem? (i := 45) rfl)) rfl⟩
theorem mt_X10_type : gMth yX10_type cX10_type 2 (some .int) 1 := ⟨gTs_t (tb_2 (List.mem_of_getElem? (i := 50) rfl)) rfl, wI_X10, by decide +kernel, by decide +kernel, by decide +kernel⟩
theorem mi_X10_type : Cond.instanceMethod yX10_type ∈ gTs := gTs_t (tb_2 (List.mem_of_getElem? (i := 48) rfl)) rfl
theorem mm_X10_type : gMi yX10_type cX10_type 2 (some .int) 1 := ⟨mt_X10_type, mi_X10_type, gTs_t (tb_2 (List.mem_of_getElem? (i := 49) rfl)) rfl⟩
theorem mt_X9_append : gMth yX9_append cX9_append 2 (some .int) 1 := ⟨gTs_t (tb_2 (List.mem_of_getElem? (i := 54) rfl)) rfl, wI_X9, by decide +kernel, by decide +kernel, by decide +kernel⟩
theorem mi_X9_append : Cond.instanceMethod yX9_append ∈ gTs := gTs_t (tb_2 (List.mem_of_getElem? (i := 52) rfl)) rfl
theorem mm_X9_append : gMi yX9_append cX9_append 2 (some .int) 1 := ⟨mt_X9_append, mi_X9_append, gTs_t (tb_2 (List.mem_of_getElem? (i := 53) rfl)) rfl⟩
theorem mt_X10_clear : gMth yX10_clear cX10_clear 2 (some .int) 0 := ⟨gTs_t (tb_2 (List.mem_of_getElem? (i := 58) rfl)) rfl, wI_X10, by decide +kernel, by decide +kernel, by decide +kernel⟩
theorem mi_X10_clear : Cond.instanceMethod yX10_clear ∈ gTs := gTs_t (tb_2 (List.mem_of_getElem? (i := 56) rfl)) rfl
theorem mm_X10_clear : gMi yX10_clear cX10_clear 2 (some .int) 0 := ⟨mt_X10_clear, mi_X10_clear, gTs_t (tb_2 (List.mem_of_getElem? (i := 57) rfl)) rfl⟩
theorem mt_X10_read : gMth yX10_read cX10_read 2 (some .int) 0 := ⟨gTs_t (tb_2 (List.mem_of_getElem? (i := 62) rfl)) rfl, wI_X10, by decide +kernel, by decide +kernel, by decide +kernel⟩
theorem mi_X10_read : Cond.instanceMethod yX10_read ∈ gTs := gTs_t (tb_2 (List.mem_of_getElem? (i := 60) rfl)) rfl
theorem mm_X10_read : gMi yX10_read cX10_read 2 (some .int) 0 := ⟨mt_X10_read, mi_X10_read, gTs_t (tb_2 (List.mem_of_getElem? (i := 61) rfl)) rfl⟩
theorem mt_X9_parse : gMth yX9_parse cX9_parse 3 (some .int) 1 := ⟨gTs_t (tb_2 (List.mem_of_getElem? (i := 66) rfl)) rfl, wI_X9, by decide +kernel, by decide +kernel, by decide +kernel⟩
theorem mi_X9_parse : Cond.instanceMethod yX9_parse ∈ gTs := gTs_t (tb_2 (List.mem_of_getElem? (i := 64) rfl)) rfl
theorem mm_X9_parse : gMi yX9_parse cX9_parse 3 (some .int) 1 := ⟨mt_X9_parse, mi_X9_parse, gTs_t (tb_2 (List.mem_of_getElem? (i := 65) rfl)) rfl⟩
theorem mt_X9_step : gMth yX9_step cX9_step 1 none 0 := ⟨gTs_t (tb_2 (List.mem_of_getElem? (i := 71) rfl)) rfl, wI_X9, by decide +kernel, by decide +kernel, by decide +kernel⟩
theorem mi_X9_step : Cond.instanceMethod yX9_step ∈ gTs := gTs_t (tb_2 (List.mem_of_getElem? (i := 70) rfl)) rfl
theorem mm_X9_step : gMi yX9_step cX9_step 1 none 0 := ⟨mt_X9_step, mi_X9_step, gTs_p (q := (yX9_step, 6)) (List.mem_of_getElem? (i := 2) (by decide +kernel)) (by decide +kernel)⟩
theorem mt_X9_endOfRun : gMth yX9_endOfRun cX9_endOfRun 5 (some .int) 3 := ⟨gTs_t (tb_2 (List.mem_of_getElem? (i := 75) rfl)) rfl, wI_X9, by decide +kernel, by decide +kernel, by decide +kernel⟩
theorem mi_X9_endOfRun : Cond.instanceMethod yX9_endOfRun ∈ gTs := gTs_t (tb_2 (List.mem_of_getElem? (i := 74) rfl)) rfl
theorem mm_X9_endOfRun : gMi yX9_endOfRun cX9_endOfRun 5 (some .int) 3 := ⟨mt_X9_endOfRun, mi_X9_endOfRun, gTs_p (q := (yX9_endOfRun, 6)) (List.mem_of_getElem? (i := 3) (by decide +kernel)) (by decide +kernel)⟩
theorem mt_X9_numberHere : gMth yX9_numberHere cX9_numberHere 3 (some .int) 0 := ⟨gTs_t (tb_2 (List.mem_of_getElem? (i := 79) rfl)) rfl, wI_X9, by decide +kernel, by decide +kernel, by decide +kernel⟩
theorem mi_X9_numberHere : Cond.instanceMethod yX9_numberHere ∈ gTs := gTs_t (tb_2 (List.mem_of_getElem? (i := 78) rfl)) rfl
theorem mm_X9_numberHere : gMi yX9_numberHere cX9_numberHere 3 (some .int) 0 := ⟨mt_X9_numberHere, mi_X9_numberHere, gTs_p (q := (yX9_numberHere, 6)) (List.mem_of_getElem? (i := 4) (by decide +kernel)) (by decide +kernel)⟩
theorem mt_X9_signHere : gMth yX9_signHere cX9_signHere 1 (some .int) 0 := ⟨gTs_t (tb_2 (List.mem_of_getElem? (i := 83) rfl)) rfl, wI_X9, by decide +kernel, by decide +kernel, by decide +kernel⟩
theorem mi_X9_signHere : Cond.instanceMethod yX9_signHere ∈ gTs := gTs_t (tb_2 (List.mem_of_getElem? (i := 82) rfl)) rfl
theorem mm_X9_signHere : gMi yX9_signHere cX9_signHere 1 (some .int) 0 := ⟨mt_X9_signHere, mi_X9_signHere, gTs_p (q := (yX9_signHere, 6)) (List.mem_of_getElem? (i := 5) (by decide +kernel)) (by decide +kernel)⟩
theorem mt_X9_isWord : gMth yX9_isWord cX9_isWord 3 (some .boolean) 1 := ⟨gTs_t (tb_2 (List.mem_of_getElem? (i := 89) rfl)) rfl, wI_X9, by decide +kernel, by decide +kernel, by decide +kernel⟩
theorem mi_X9_isWord : Cond.instanceMethod yX9_isWord ∈ gTs := gTs_t (tb_2 (List.mem_of_getElem? (i := 88) rfl)) rfl
theorem mm_X9_isWord : gMi yX9_isWord cX9_isWord 3 (some .boolean) 1 := ⟨mt_X9_isWord, mi_X9_isWord, gTs_p (q := (yX9_isWord, 6)) (List.mem_of_getElem? (i := 6) (by decide +kernel)) (by decide +kernel)⟩
theorem mt_J0_length_8abf5 : gMth yJ0_length_8abf5 cJ0_length_8abf5 1 (some .int) 0 := ⟨gTs_t (tb_2 (List.mem_of_getElem? (i := 93) rfl)) rfl, wI_J0, by decide +kernel, by decide +kernel, by decide +kernel⟩
theorem mi_J0_length_8abf5 : Cond.instanceMethod yJ0_length_8abf5 ∈ gTs := gTs_t (tb_2 (List.mem_of_getElem? (i := 91) rfl)) rfl
theorem mm_J0_length_8abf5 : gMi yJ0_length_8abf5 cJ0_length_8abf5 1 (some .int) 0 := ⟨mt_J0_length_8abf5, mi_J0_length_8abf5, gTs_t (tb_2 (List.mem_of_getElem? (i := 92) rfl)) rfl⟩
theorem mt_J0_coder_7d493 : gMth yJ0_coder_7d493 cJ0_coder_7d493 1 (some .byte) 0 := ⟨gTs_t (tb_2 (List.mem_of_getElem? (i := 97) rfl)) rfl, wI_J0, by decide +kernel, by decide +kernel, by decide +kernel⟩
theorem mi_J0_coder_7d493 : Cond.instanceMethod yJ0_coder_7d493 ∈ gTs := gTs_t (tb_2 (List.mem_of_getElem? (i := 95) rfl)) rfl
theorem mm_J0_coder_7d493 : gMi yJ0_coder_7d493 cJ0_coder_7d493 1 (some .byte) 0 := ⟨mt_J0_coder_7d493, mi_J0_coder_7d493, gTs_t (tb_2 (List.mem_of_getElem? (i := 96) rfl)) rfl⟩
theorem mt_J0_charAt_5068e : gMth yJ0_charAt_5068e cJ0_charAt_5068e 2 (some .char) 1 := ⟨gTs_t (tb_2 (List.mem_of_getElem? (i := 103) rfl)) rfl, wI_J0, by decide +kernel, by decide +kernel, by decide +kernel⟩
theorem mi_J0_charAt_5068e : Cond.instanceMethod yJ0_charAt_5068e ∈ gTs := gTs_t (tb_2 (List.mem_of_getElem? (i := 101) rfl)) rfl
theorem mm_J0_charAt_5068e : gMi yJ0_charAt_5068e cJ0_charAt_5068e 2 (some .char) 1 := ⟨mt_J0_charAt_5068e, mi_J0_charAt_5068e, gTs_t (tb_2 (List.mem_of_getElem? (i := 102) rfl)) rfl⟩
theorem mt_J0_isLatin1_aae02 : gMth yJ0_isLatin1_aae02 cJ0_isLatin1_aae02 1 (some .boolean) 0 := ⟨gTs_t (tb_2 (List.mem_of_getElem? (i := 107) rfl)) rfl, wI_J0, by decide +kernel, by decide +kernel, by decide +kernel⟩
theorem mi_J0_isLatin1_aae02 : Cond.instanceMethod yJ0_isLatin1_aae02 ∈ gTs := gTs_t (tb_2 (List.mem_of_getElem? (i := 105) rfl)) rfl
theorem mm_J0_isLatin1_aae02 : gMi yJ0_isLatin1_aae02 cJ0_isLatin1_aae02 1 (some .boolean) 0 := ⟨mt_J0_isLatin1_aae02, mi_J0_isLatin1_aae02, gTs_t (tb_2 (List.mem_of_getElem? (i := 106) rfl)) rfl⟩
theorem mt_J1_charAt_3b067 : gMth yJ1_charAt_3b067 cJ1_charAt_3b067 2 (some .char) 2 := ⟨gTs_t (tb_2 (List.mem_of_getElem? (i := 110) rfl)) rfl, wI_J1, by decide +kernel, by decide +kernel, by decide +kernel⟩
theorem mm_J1_charAt_3b067 : gMs yJ1_charAt_3b067 cJ1_charAt_3b067 2 (some .char) 2 := ⟨mt_J1_charAt_3b067, gTs_t (tb_2 (List.mem_of_getElem? (i := 109) rfl)) rfl⟩
theorem mt_J0_checkIndex_df160 : gMth yJ0_checkIndex_df160 cJ0_checkIndex_df160 2 none 2 := ⟨gTs_t (tb_2 (List.mem_of_getElem? (i := 113) rfl)) rfl, wI_J0, by decide +kernel, by decide +kernel, by decide +kernel⟩
theorem mm_J0_checkIndex_df160 : gMs yJ0_checkIndex_df160 cJ0_checkIndex_df160 2 none 2 := ⟨mt_J0_checkIndex_df160, gTs_t (tb_2 (List.mem_of_getElem? (i := 112) rfl)) rfl⟩
theorem mt_J3_checkIndex_8e157 : gMth yJ3_checkIndex_8e157 cJ3_checkIndex_8e157 3 (some .int) 3 := ⟨gTs_t (tb_2 (List.mem_of_getElem? (i := 118) rfl)) rfl, wI_J3, by decide +kernel, by decide +kernel, by decide +kernel⟩
theorem mm_J3_checkIndex_8e157 : gMs yJ3_checkIndex_8e157 cJ3_checkIndex_8e157 3 (some .int) 3 := ⟨mt_J3_checkIndex_8e157, gTs_t (tb_2 (List.mem_of_getElem? (i := 117) rfl)) rfl⟩
theorem mt_J2_charAt_3b067 : gMth yJ2_charAt_3b067 cJ2_charAt_3b067 2 (some .char) 2 := ⟨gTs_t (tb_2 (List.mem_of_getElem? (i := 121) rfl)) rfl, wI_J2, by decide +kernel, by decide +kernel, by decide +kernel⟩
theorem mm_J2_charAt_3b067 : gMs yJ2_charAt_3b067 cJ2_charAt_3b067 2 (some .char) 2 := ⟨mt_J2_charAt_3b067, gTs_t (tb_2 (List.mem_of_getElem? (i := 120) rfl)) rfl⟩
theorem mt_J2_checkIndex_2214a : gMth yJ2_checkIndex_2214a cJ2_checkIndex_2214a 2 none 2 := ⟨gTs_t (tb_2 (List.mem_of_getElem? (i := 124) rfl)) rfl, wI_J2, by decide +kernel, by decide +kernel, by decide +kernel⟩
theorem mm_J2_checkIndex_2214a : gMs yJ2_checkIndex_2214a cJ2_checkIndex_2214a 2 none 2 := ⟨mt_J2_checkIndex_2214a, gTs_t (tb_2 (List.mem_of_getElem? (i := 123) rfl)) rfl⟩
theorem mt_J2_length_9d52b : gMth yJ2_length_9d52b cJ2_length_9d52b 1 (some .int) 1 := ⟨gTs_t (tb_2 (List.mem_of_getElem? (i := 127) rfl)) rfl, wI_J2, by decide +kernel, by decide +kernel, by decide +kernel⟩
theorem mm_J2_length_9d52b : gMs yJ2_length_9d52b cJ2_length_9d52b 1 (some .int) 1 := ⟨mt_J2_length_9d52b, gTs_t (tb_2 (List.mem_of_getElem? (i := 126) rfl)) rfl⟩
theorem mt_J2_getChar_3b067 : gMth yJ2_getChar_3b067 cJ2_getChar_3b067 2 (some .char) 2 := ⟨gTs_t (tb_2 (List.mem_of_getElem? (i := 131) rfl)) rfl, wI_J2, by decide +kernel, by decide +kernel, by decide +kernel⟩
theorem mm_J2_getChar_3b067 : gMs yJ2_getChar_3b067 cJ2_getChar_3b067 2 (some .char) 2 := ⟨mt_J2_getChar_3b067, gTs_t (tb_2 (List.mem_of_getElem? (i := 130) rfl)) rfl⟩
theorem mt_X9_stepToStop : gMth yX9_stepToStop cX9_stepToStop 1 (some .boolean) 0 := ⟨gTs_t (tb_2 (List.mem_of_getElem? (i := 141) rfl)) rfl, wI_X9, by decide +kernel, by decide +kernel, by decide +kernel⟩
theorem mi_X9_stepToStop : Cond.instanceMethod yX9_stepToStop ∈ gTs := gTs_t (tb_2 (List.mem_of_getElem? (i := 140) rfl)) rfl
theorem mm_X9_stepToStop : gMi yX9_stepToStop cX9_stepToStop 1 (some .boolean) 0 := ⟨mt_X9_stepToStop, mi_X9_stepToStop, gTs_p (q := (yX9_stepToStop, 6)) (List.mem_of_getElem? (i := 7) (by decide +kernel)) (by decide +kernel)⟩
theorem mt_X9_parseItem : gMth yX9_parseItem cX9_parseItem 2 (some .boolean) 1 := ⟨gTs_t (tb_2 (List.mem_of_getElem? (i := 145) rfl)) rfl, wI_X9, by decide +kernel, by decide +kernel, by decide +kernel⟩
theorem mi_X9_parseItem : Cond.instanceMethod yX9_parseItem ∈ gTs := gTs_t (tb_2 (List.mem_of_getElem? (i := 144) rfl)) rfl
theorem mm_X9_parseItem : gMi yX9_parseItem cX9_parseItem 2 (some .boolean) 1 := ⟨mt_X9_parseItem, mi_X9_parseItem, gTs_p (q := (yX9_parseItem, 6)) (List.mem_of_getElem? (i := 8) (by decide +kernel)) (by decide +kernel)⟩
theorem mt_X9_parseGuest : gMth yX9_parseGuest cX9_parseGuest 6 (some .boolean) 1 := ⟨gTs_t (tb_2 (List.mem_of_getElem? (i := 150) rfl)) rfl, wI_X9, by decide +kernel, by decide +kernel, by decide +kernel⟩
theorem mi_X9_parseGuest : Cond.instanceMethod yX9_parseGuest ∈ gTs := gTs_t (tb_2 (List.mem_of_getElem? (i := 149) rfl)) rfl
theorem mm_X9_parseGuest : gMi yX9_parseGuest cX9_parseGuest 6 (some .boolean) 1 := ⟨mt_X9_parseGuest, mi_X9_parseGuest, gTs_p (q := (yX9_parseGuest, 6)) (List.mem_of_getElem? (i := 9) (by decide +kernel)) (by decide +kernel)⟩
theorem mt_X9_stepToNumber : gMth yX9_stepToNumber cX9_stepToNumber 2 (some .boolean) 1 := ⟨gTs_t (tb_2 (List.mem_of_getElem? (i := 154) rfl)) rfl, wI_X9, by decide +kernel, by decide +kernel, by decide +kernel⟩
theorem mi_X9_stepToNumber : Cond.instanceMethod yX9_stepToNumber ∈ gTs := gTs_t (tb_2 (List.mem_of_getElem? (i := 153) rfl)) rfl
theorem mm_X9_stepToNumber : gMi yX9_stepToNumber cX9_stepToNumber 2 (some .boolean) 1 := ⟨mt_X9_stepToNumber, mi_X9_stepToNumber, gTs_p (q := (yX9_stepToNumber, 6)) (List.mem_of_getElem? (i := 10) (by decide +kernel)) (by decide +kernel)⟩
theorem mt_X9_isNumber : gMth yX9_isNumber cX9_isNumber 2 (some .boolean) 1 := ⟨gTs_t (tb_2 (List.mem_of_getElem? (i := 158) rfl)) rfl, wI_X9, by decide +kernel, by decide +kernel, by decide +kernel⟩
theorem mi_X9_isNumber : Cond.instanceMethod yX9_isNumber ∈ gTs := gTs_t (tb_2 (List.mem_of_getElem? (i := 157) rfl)) rfl
theorem mm_X9_isNumber : gMi yX9_isNumber cX9_isNumber 2 (some .boolean) 1 := ⟨mt_X9_isNumber, mi_X9_isNumber, gTs_p (q := (yX9_isNumber, 6)) (List.mem_of_getElem? (i := 11) (by decide +kernel)) (by decide +kernel)⟩
theorem mt_X9_parseDuty : gMth yX9_parseDuty cX9_parseDuty 3 (some .boolean) 1 := ⟨gTs_t (tb_2 (List.mem_of_getElem? (i := 164) rfl)) rfl, wI_X9, by decide +kernel, by decide +kernel, by decide +kernel⟩
theorem mi_X9_parseDuty : Cond.instanceMethod yX9_parseDuty ∈ gTs := gTs_t (tb_2 (List.mem_of_getElem? (i := 163) rfl)) rfl
theorem mm_X9_parseDuty : gMi yX9_parseDuty cX9_parseDuty 3 (some .boolean) 1 := ⟨mt_X9_parseDuty, mi_X9_parseDuty, gTs_p (q := (yX9_parseDuty, 6)) (List.mem_of_getElem? (i := 12) (by decide +kernel)) (by decide +kernel)⟩
theorem mt_X1_copy : gMth yX1_copy cX1_copy 3 none 1 := ⟨gTs_t (tb_2 (List.mem_of_getElem? (i := 168) rfl)) rfl, wI_X1, by decide +kernel, by decide +kernel, by decide +kernel⟩
theorem mi_X1_copy : Cond.instanceMethod yX1_copy ∈ gTs := gTs_t (tb_2 (List.mem_of_getElem? (i := 166) rfl)) rfl
theorem mm_X1_copy : gMi yX1_copy cX1_copy 3 none 1 := ⟨mt_X1_copy, mi_X1_copy, gTs_t (tb_2 (List.mem_of_getElem? (i := 167) rfl)) rfl⟩
theorem mt_X3_copy : gMth yX3_copy cX3_copy 3 none 1 := ⟨gTs_t (tb_2 (List.mem_of_getElem? (i := 172) rfl)) rfl, wI_X3, by decide +kernel, by decide +kernel, by decide +kernel⟩
theorem mi_X3_copy : Cond.instanceMethod yX3_copy ∈ gTs := gTs_t (tb_2 (List.mem_of_getElem? (i := 170) rfl)) rfl
theorem mm_X3_copy : gMi yX3_copy cX3_copy 3 none 1 := ⟨mt_X3_copy, mi_X3_copy, gTs_t (tb_2 (List.mem_of_getElem? (i := 171) rfl)) rfl⟩
theorem mt_X10_hour : gMth yX10_hour cX10_hour 3 (some .int) 1 := ⟨gTs_t (tb_2 (List.mem_of_getElem? (i := 178) rfl)) rfl, wI_X10, by decide +kernel, by decide +kernel, by decide +kernel⟩
theorem mi_X10_hour : Cond.instanceMethod yX10_hour ∈ gTs := gTs_t (tb_2 (List.mem_of_getElem? (i := 176) rfl)) rfl
theorem mm_X10_hour : gMi yX10_hour cX10_hour 3 (some .int) 1 := ⟨mt_X10_hour, mi_X10_hour, gTs_t (tb_2 (List.mem_of_getElem? (i := 177) rfl)) rfl⟩
theorem mt_X1_passHour : gMth yX1_passHour cX1_passHour 3 none 0 := ⟨gTs_t (tb_2 (List.mem_of_getElem? (i := 182) rfl)) rfl, wI_X1, by decide +kernel, by decide +kernel, by decide +kernel⟩
theorem mi_X1_passHour : Cond.instanceMethod yX1_passHour ∈ gTs := gTs_t (tb_2 (List.mem_of_getElem? (i := 180) rfl)) rfl
theorem mm_X1_passHour : gMi yX1_passHour cX1_passHour 3 none 0 := ⟨mt_X1_passHour, mi_X1_passHour, gTs_t (tb_2 (List.mem_of_getElem? (i := 181) rfl)) rfl⟩
theorem mt_X1_contentOf : gMth yX1_contentOf cX1_contentOf 3 (some .int) 1 := ⟨gTs_t (tb_2 (List.mem_of_getElem? (i := 186) rfl)) rfl, wI_X1, by decide +kernel, by decide +kernel, by decide +kernel⟩
theorem mi_X1_contentOf : Cond.instanceMethod yX1_contentOf ∈ gTs := gTs_t (tb_2 (List.mem_of_getElem? (i := 184) rfl)) rfl
theorem mm_X1_contentOf : gMi yX1_contentOf cX1_contentOf 3 (some .int) 1 := ⟨mt_X1_contentOf, mi_X1_contentOf, gTs_t (tb_2 (List.mem_of_getElem? (i := 185) rfl)) rfl⟩
theorem mt_X1_serverOf : gMth yX1_serverOf cX1_serverOf 3 (some .int) 1 := ⟨gTs_t (tb_2 (List.mem_of_getElem? (i := 190) rfl)) rfl, wI_X1, by decide +kernel, by decide +kernel, by decide +kernel⟩
theorem mi_X1_serverOf : Cond.instanceMethod yX1_serverOf ∈ gTs := gTs_t (tb_2 (List.mem_of_getElem? (i := 188) rfl)) rfl
theorem mm_X1_serverOf : gMi yX1_serverOf cX1_serverOf 3 (some .int) 1 := ⟨mt_X1_serverOf, mi_X1_serverOf, gTs_t (tb_2 (List.mem_of_getElem? (i := 189) rfl)) rfl⟩
theorem mt_X1_doesServe : gMth yX1_doesServe cX1_doesServe 3 (some .boolean) 2 := ⟨gTs_t (tb_2 (List.mem_of_getElem? (i := 194) rfl)) rfl, wI_X1, by decide +kernel, by decide +kernel, by decide +kernel⟩
theorem mi_X1_doesServe : Cond.instanceMethod yX1_doesServe ∈ gTs := gTs_t (tb_2 (List.mem_of_getElem? (i := 193) rfl)) rfl
theorem mm_X1_doesServe : gMi yX1_doesServe cX1_doesServe 3 (some .boolean) 2 := ⟨mt_X1_doesServe, mi_X1_doesServe, gTs_p (q := (yX1_doesServe, 16)) (List.mem_of_getElem? (i := 13) (by decide +kernel)) (by decide +kernel)⟩
theorem mt_X1_canServe : gMth yX1_canServe cX1_canServe 3 (some .boolean) 2 := ⟨gTs_t (tb_2 (List.mem_of_getElem? (i := 198) rfl)) rfl, wI_X1, by decide +kernel, by decide +kernel, by decide +kernel⟩
theorem mi_X1_canServe : Cond.instanceMethod yX1_canServe ∈ gTs := gTs_t (tb_2 (List.mem_of_getElem? (i := 196) rfl)) rfl
theorem mm_X1_canServe : gMi yX1_canServe cX1_canServe 3 (some .boolean) 2 := ⟨mt_X1_canServe, mi_X1_canServe, gTs_t (tb_2 (List.mem_of_getElem? (i := 197) rfl)) rfl⟩
theorem mt_X1_contentBy : gMth yX1_contentBy cX1_contentBy 3 (some .int) 2 := ⟨gTs_t (tb_2 (List.mem_of_getElem? (i := 202) rfl)) rfl, wI_X1, by decide +kernel, by decide +kernel, by decide +kernel⟩
theorem mi_X1_contentBy : Cond.instanceMethod yX1_contentBy ∈ gTs := gTs_t (tb_2 (List.mem_of_getElem? (i := 200) rfl)) rfl
theorem mm_X1_contentBy : gMi yX1_contentBy cX1_contentBy 3 (some .int) 2 := ⟨mt_X1_contentBy, mi_X1_contentBy, gTs_t (tb_2 (List.mem_of_getElem? (i := 201) rfl)) rfl⟩
theorem mt_X4_contentBy : gMth yX4_contentBy cX4_contentBy 3 (some .int) 2 := ⟨gTs_t (tb_2 (List.mem_of_getElem? (i := 227) rfl)) rfl, wI_X4, by decide +kernel, by decide +kernel, by decide +kernel⟩
theorem mi_X4_contentBy : Cond.instanceMethod yX4_contentBy ∈ gTs := gTs_t (tb_2 (List.mem_of_getElem? (i := 204) rfl)) rfl
theorem mm_X4_contentBy : gMi yX4_contentBy cX4_contentBy 3 (some .int) 2 := ⟨mt_X4_contentBy, mi_X4_contentBy, gTs_t (tb_2 (List.mem_of_getElem? (i := 205) rfl)) rfl⟩
theorem mt_X0_contentBy : gMth yX0_contentBy cX0_contentBy 3 (some .int) 2 := ⟨gTs_t (tb_2 (List.mem_of_getElem? (i := 209) rfl)) rfl, wI_X0, by decide +kernel, by decide +kernel, by decide +kernel⟩
theorem mi_X0_contentBy : Cond.instanceMethod yX0_contentBy ∈ gTs := gTs_t (tb_2 (List.mem_of_getElem? (i := 208) rfl)) rfl
theorem mt_X2_contentBy : gMth yX2_contentBy cX2_contentBy 3 (some .int) 2 := ⟨gTs_t (tb_2 (List.mem_of_getElem? (i := 213) rfl)) rfl, wI_X2, by decide +kernel, by decide +kernel, by decide +kernel⟩
theorem mi_X2_contentBy : Cond.instanceMethod yX2_contentBy ∈ gTs := gTs_t (tb_2 (List.mem_of_getElem? (i := 212) rfl)) rfl
theorem mt_X6_contentBy : gMth yX6_contentBy cX6_contentBy 4 (some .int) 2 := ⟨gTs_t (tb_2 (List.mem_of_getElem? (i := 216) rfl)) rfl, wI_X6, by decide +kernel, by decide +kernel, by decide +kernel⟩
theorem mi_X6_contentBy : Cond.instanceMethod yX6_contentBy ∈ gTs := gTs_t (tb_2 (List.mem_of_getElem? (i := 215) rfl)) rfl
theorem mt_X5_contentBy : gMth yX5_contentBy cX5_contentBy 3 (some .int) 2 := ⟨gTs_t (tb_2 (List.mem_of_getElem? (i := 220) rfl)) rfl, wI_X5, by decide +kernel, by decide +kernel, by decide +kernel⟩
theorem mi_X5_contentBy : Cond.instanceMethod yX5_contentBy ∈ gTs := gTs_t (tb_2 (List.mem_of_getElem? (i := 219) rfl)) rfl
theorem mt_X8_contentBy : gMth yX8_contentBy cX8_contentBy 4 (some .int) 2 := ⟨gTs_t (tb_2 (List.mem_of_getElem? (i := 225) rfl)) rfl, wI_X8, by decide +kernel, by decide +kernel, by decide +kernel⟩
theorem mi_X8_contentBy : Cond.instanceMethod yX8_contentBy ∈ gTs := gTs_t (tb_2 (List.mem_of_getElem? (i := 224) rfl)) rfl
theorem mt_X10_undo : gMth yX10_undo cX10_undo 1 (some .int) 0 := ⟨gTs_t (tb_2 (List.mem_of_getElem? (i := 231) rfl)) rfl, wI_X10, by decide +kernel, by decide +kernel, by decide +kernel⟩
theorem mi_X10_undo : Cond.instanceMethod yX10_undo ∈ gTs := gTs_t (tb_2 (List.mem_of_getElem? (i := 229) rfl)) rfl
theorem mm_X10_undo : gMi yX10_undo cX10_undo 1 (some .int) 0 := ⟨mt_X10_undo, mi_X10_undo, gTs_t (tb_2 (List.mem_of_getElem? (i := 230) rfl)) rfl⟩
theorem mt_X10_refuseNo : gMth yX10_refuseNo cX10_refuseNo 1 (some .int) 0 := ⟨gTs_t (tb_2 (List.mem_of_getElem? (i := 235) rfl)) rfl, wI_X10, by decide +kernel, by decide +kernel, by decide +kernel⟩
theorem mi_X10_refuseNo : Cond.instanceMethod yX10_refuseNo ∈ gTs := gTs_t (tb_2 (List.mem_of_getElem? (i := 234) rfl)) rfl
theorem mm_X10_refuseNo : gMi yX10_refuseNo cX10_refuseNo 1 (some .int) 0 := ⟨mt_X10_refuseNo, mi_X10_refuseNo, gTs_p (q := (yX10_refuseNo, 9)) (List.mem_of_getElem? (i := 14) (by decide +kernel)) (by decide +kernel)⟩
theorem mt_X1_recall : gMth yX1_recall cX1_recall 1 none 0 := ⟨gTs_t (tb_2 (List.mem_of_getElem? (i := 239) rfl)) rfl, wI_X1, by decide +kernel, by decide +kernel, by decide +kernel⟩
theorem mi_X1_recall : Cond.instanceMethod yX1_recall ∈ gTs := gTs_t (tb_2 (List.mem_of_getElem? (i := 237) rfl)) rfl
theorem mm_X1_recall : gMi yX1_recall cX1_recall 1 none 0 := ⟨mt_X1_recall, mi_X1_recall, gTs_t (tb_2 (List.mem_of_getElem? (i := 238) rfl)) rfl⟩
theorem mt_X10_of : gMth yX10_of cX10_of 3 (some .int) 2 := ⟨gTs_t (tb_3 (List.mem_of_getElem? (i := 3) rfl)) rfl, wI_X10, by decide +kernel, by decide +kernel, by decide +kernel⟩
theorem mi_X10_of : Cond.instanceMethod yX10_of ∈ gTs := gTs_t (tb_3 (List.mem_of_getElem? (i := 1) rfl)) rfl
theorem mm_X10_of : gMi yX10_of cX10_of 3 (some .int) 2 := ⟨mt_X10_of, mi_X10_of, gTs_t (tb_3 (List.mem_of_getElem? (i := 2) rfl)) rfl⟩
theorem mt_X10_can : gMth yX10_can cX10_can 3 (some .int) 2 := ⟨gTs_t (tb_3 (List.mem_of_getElem? (i := 9) rfl)) rfl, wI_X10, by decide +kernel, by decide +kernel, by decide +kernel⟩
theorem mi_X10_can : Cond.instanceMethod yX10_can ∈ gTs := gTs_t (tb_3 (List.mem_of_getElem? (i := 7) rfl)) rfl
theorem mm_X10_can : gMi yX10_can cX10_can 3 (some .int) 2 := ⟨mt_X10_can, mi_X10_can, gTs_t (tb_3 (List.mem_of_getElem? (i := 8) rfl)) rfl⟩
theorem mt_X10_work : gMth yX10_work cX10_work 3 (some .int) 2 := ⟨gTs_t (tb_3 (List.mem_of_getElem? (i := 14) rfl)) rfl, wI_X10, by decide +kernel, by decide +kernel, by decide +kernel⟩
theorem mi_X10_work : Cond.instanceMethod yX10_work ∈ gTs := gTs_t (tb_3 (List.mem_of_getElem? (i := 12) rfl)) rfl
theorem mm_X10_work : gMi yX10_work cX10_work 3 (some .int) 2 := ⟨mt_X10_work, mi_X10_work, gTs_t (tb_3 (List.mem_of_getElem? (i := 13) rfl)) rfl⟩
theorem mt_X1_workFor : gMth yX1_workFor cX1_workFor 3 (some .int) 2 := ⟨gTs_t (tb_3 (List.mem_of_getElem? (i := 18) rfl)) rfl, wI_X1, by decide +kernel, by decide +kernel, by decide +kernel⟩
theorem mi_X1_workFor : Cond.instanceMethod yX1_workFor ∈ gTs := gTs_t (tb_3 (List.mem_of_getElem? (i := 16) rfl)) rfl
theorem mm_X1_workFor : gMi yX1_workFor cX1_workFor 3 (some .int) 2 := ⟨mt_X1_workFor, mi_X1_workFor, gTs_t (tb_3 (List.mem_of_getElem? (i := 17) rfl)) rfl⟩
theorem mt_X4_workOn : gMth yX4_workOn cX4_workOn 2 (some .int) 1 := ⟨gTs_t (tb_3 (List.mem_of_getElem? (i := 37) rfl)) rfl, wI_X4, by decide +kernel, by decide +kernel, by decide +kernel⟩
theorem mi_X4_workOn : Cond.instanceMethod yX4_workOn ∈ gTs := gTs_t (tb_3 (List.mem_of_getElem? (i := 20) rfl)) rfl
theorem mm_X4_workOn : gMi yX4_workOn cX4_workOn 2 (some .int) 1 := ⟨mt_X4_workOn, mi_X4_workOn, gTs_t (tb_3 (List.mem_of_getElem? (i := 21) rfl)) rfl⟩
theorem mt_X0_workOn : gMth yX0_workOn cX0_workOn 2 (some .int) 1 := ⟨gTs_t (tb_3 (List.mem_of_getElem? (i := 25) rfl)) rfl, wI_X0, by decide +kernel, by decide +kernel, by decide +kernel⟩
theorem mi_X0_workOn : Cond.instanceMethod yX0_workOn ∈ gTs := gTs_t (tb_3 (List.mem_of_getElem? (i := 24) rfl)) rfl
theorem mt_X6_workOn : gMth yX6_workOn cX6_workOn 2 (some .int) 1 := ⟨gTs_t (tb_3 (List.mem_of_getElem? (i := 29) rfl)) rfl, wI_X6, by decide +kernel, by decide +kernel, by decide +kernel⟩
theorem mi_X6_workOn : Cond.instanceMethod yX6_workOn ∈ gTs := gTs_t (tb_3 (List.mem_of_getElem? (i := 28) rfl)) rfl
theorem mt_X5_workOn : gMth yX5_workOn cX5_workOn 2 (some .int) 1 := ⟨gTs_t (tb_3 (List.mem_of_getElem? (i := 33) rfl)) rfl, wI_X5, by decide +kernel, by decide +kernel, by decide +kernel⟩
theorem mi_X5_workOn : Cond.instanceMethod yX5_workOn ∈ gTs := gTs_t (tb_3 (List.mem_of_getElem? (i := 32) rfl)) rfl
theorem mt_X10_all : gMth yX10_all cX10_all 2 (some .int) 1 := ⟨gTs_t (tb_3 (List.mem_of_getElem? (i := 41) rfl)) rfl, wI_X10, by decide +kernel, by decide +kernel, by decide +kernel⟩
theorem mi_X10_all : Cond.instanceMethod yX10_all ∈ gTs := gTs_t (tb_3 (List.mem_of_getElem? (i := 39) rfl)) rfl
theorem mm_X10_all : gMi yX10_all cX10_all 2 (some .int) 1 := ⟨mt_X10_all, mi_X10_all, gTs_t (tb_3 (List.mem_of_getElem? (i := 40) rfl)) rfl⟩
theorem mt_X7_gather : gMth yX7_gather cX7_gather 6 none 3 := ⟨gTs_t (tb_3 (List.mem_of_getElem? (i := 45) rfl)) rfl, wI_X7, by decide +kernel, by decide +kernel, by decide +kernel⟩
theorem mi_X7_gather : Cond.instanceMethod yX7_gather ∈ gTs := gTs_t (tb_3 (List.mem_of_getElem? (i := 43) rfl)) rfl
theorem mm_X7_gather : gMi yX7_gather cX7_gather 6 none 3 := ⟨mt_X7_gather, mi_X7_gather, gTs_t (tb_3 (List.mem_of_getElem? (i := 44) rfl)) rfl⟩
theorem mt_X7_costOf : gMth yX7_costOf cX7_costOf 4 (some .int) 4 := ⟨gTs_t (tb_3 (List.mem_of_getElem? (i := 49) rfl)) rfl, wI_X7, by decide +kernel, by decide +kernel, by decide +kernel⟩
theorem mm_X7_costOf : gMs yX7_costOf cX7_costOf 4 (some .int) 4 := ⟨mt_X7_costOf, gTs_t (tb_3 (List.mem_of_getElem? (i := 48) rfl)) rfl⟩
theorem mt_X7_ways : gMth yX7_ways cX7_ways 5 (some .int) 0 := ⟨gTs_t (tb_3 (List.mem_of_getElem? (i := 55) rfl)) rfl, wI_X7, by decide +kernel, by decide +kernel, by decide +kernel⟩
theorem mi_X7_ways : Cond.instanceMethod yX7_ways ∈ gTs := gTs_t (tb_3 (List.mem_of_getElem? (i := 53) rfl)) rfl
theorem mm_X7_ways : gMi yX7_ways cX7_ways 5 (some .int) 0 := ⟨mt_X7_ways, mi_X7_ways, gTs_t (tb_3 (List.mem_of_getElem? (i := 54) rfl)) rfl⟩
theorem mt_X7_isOpen : gMth yX7_isOpen cX7_isOpen 4 (some .boolean) 2 := ⟨gTs_t (tb_3 (List.mem_of_getElem? (i := 59) rfl)) rfl, wI_X7, by decide +kernel, by decide +kernel, by decide +kernel⟩
theorem mi_X7_isOpen : Cond.instanceMethod yX7_isOpen ∈ gTs := gTs_t (tb_3 (List.mem_of_getElem? (i := 58) rfl)) rfl
theorem mm_X7_isOpen : gMi yX7_isOpen cX7_isOpen 4 (some .boolean) 2 := ⟨mt_X7_isOpen, mi_X7_isOpen, gTs_p (q := (yX7_isOpen, 5)) (List.mem_of_getElem? (i := 15) (by decide +kernel)) (by decide +kernel)⟩
theorem mt_J6_bitCount_0f7a4 : gMth yJ6_bitCount_0f7a4 cJ6_bitCount_0f7a4 1 (some .int) 1 := ⟨gTs_t (tb_3 (List.mem_of_getElem? (i := 62) rfl)) rfl, wI_J6, by decide +kernel, by decide +kernel, by decide +kernel⟩
theorem mm_J6_bitCount_0f7a4 : gMs yJ6_bitCount_0f7a4 cJ6_bitCount_0f7a4 1 (some .int) 1 := ⟨mt_J6_bitCount_0f7a4, gTs_t (tb_3 (List.mem_of_getElem? (i := 61) rfl)) rfl⟩
theorem mt_X7_dutyInBest : gMth yX7_dutyInBest cX7_dutyInBest 5 (some .int) 1 := ⟨gTs_t (tb_3 (List.mem_of_getElem? (i := 69) rfl)) rfl, wI_X7, by decide +kernel, by decide +kernel, by decide +kernel⟩
theorem mi_X7_dutyInBest : Cond.instanceMethod yX7_dutyInBest ∈ gTs := gTs_t (tb_3 (List.mem_of_getElem? (i := 67) rfl)) rfl
theorem mm_X7_dutyInBest : gMi yX7_dutyInBest cX7_dutyInBest 5 (some .int) 1 := ⟨mt_X7_dutyInBest, mi_X7_dutyInBest, gTs_t (tb_3 (List.mem_of_getElem? (i := 68) rfl)) rfl⟩
theorem mt_X7_leastCost : gMth yX7_leastCost cX7_leastCost 5 (some .int) 0 := ⟨gTs_t (tb_3 (List.mem_of_getElem? (i := 73) rfl)) rfl, wI_X7, by decide +kernel, by decide +kernel, by decide +kernel⟩
theorem mi_X7_leastCost : Cond.instanceMethod yX7_leastCost ∈ gTs := gTs_t (tb_3 (List.mem_of_getElem? (i := 71) rfl)) rfl
theorem mm_X7_leastCost : gMi yX7_leastCost cX7_leastCost 5 (some .int) 0 := ⟨mt_X7_leastCost, mi_X7_leastCost, gTs_t (tb_3 (List.mem_of_getElem? (i := 72) rfl)) rfl⟩
theorem mt_X7_costThrough : gMth yX7_costThrough cX7_costThrough 4 (some .int) 2 := ⟨gTs_t (tb_3 (List.mem_of_getElem? (i := 78) rfl)) rfl, wI_X7, by decide +kernel, by decide +kernel, by decide +kernel⟩
theorem mi_X7_costThrough : Cond.instanceMethod yX7_costThrough ∈ gTs := gTs_t (tb_3 (List.mem_of_getElem? (i := 77) rfl)) rfl
theorem mm_X7_costThrough : gMi yX7_costThrough cX7_costThrough 4 (some .int) 2 := ⟨mt_X7_costThrough, mi_X7_costThrough, gTs_p (q := (yX7_costThrough, 5)) (List.mem_of_getElem? (i := 16) (by decide +kernel)) (by decide +kernel)⟩
theorem mt_X7_firstBest : gMth yX7_firstBest cX7_firstBest 3 (some .int) 1 := ⟨gTs_t (tb_3 (List.mem_of_getElem? (i := 83) rfl)) rfl, wI_X7, by decide +kernel, by decide +kernel, by decide +kernel⟩
theorem mi_X7_firstBest : Cond.instanceMethod yX7_firstBest ∈ gTs := gTs_t (tb_3 (List.mem_of_getElem? (i := 82) rfl)) rfl
theorem mm_X7_firstBest : gMi yX7_firstBest cX7_firstBest 3 (some .int) 1 := ⟨mt_X7_firstBest, mi_X7_firstBest, gTs_p (q := (yX7_firstBest, 5)) (List.mem_of_getElem? (i := 17) (by decide +kernel)) (by decide +kernel)⟩
theorem mt_X10_least : gMth yX10_least cX10_least 2 (some .int) 0 := ⟨gTs_t (tb_3 (List.mem_of_getElem? (i := 87) rfl)) rfl, wI_X10, by decide +kernel, by decide +kernel, by decide +kernel⟩
theorem mi_X10_least : Cond.instanceMethod yX10_least ∈ gTs := gTs_t (tb_3 (List.mem_of_getElem? (i := 85) rfl)) rfl
theorem mm_X10_least : gMi yX10_least cX10_least 2 (some .int) 0 := ⟨mt_X10_least, mi_X10_least, gTs_t (tb_3 (List.mem_of_getElem? (i := 86) rfl)) rfl⟩
theorem mt_X10_most : gMth yX10_most cX10_most 3 (some .int) 1 := ⟨gTs_t (tb_3 (List.mem_of_getElem? (i := 93) rfl)) rfl, wI_X10, by decide +kernel, by decide +kernel, by decide +kernel⟩
theorem mi_X10_most : Cond.instanceMethod yX10_most ∈ gTs := gTs_t (tb_3 (List.mem_of_getElem? (i := 91) rfl)) rfl
theorem mm_X10_most : gMi yX10_most cX10_most 3 (some .int) 1 := ⟨mt_X10_most, mi_X10_most, gTs_t (tb_3 (List.mem_of_getElem? (i := 92) rfl)) rfl⟩
theorem mt_X10_lone : gMth yX10_lone cX10_lone 3 (some .int) 0 := ⟨gTs_t (tb_3 (List.mem_of_getElem? (i := 97) rfl)) rfl, wI_X10, by decide +kernel, by decide +kernel, by decide +kernel⟩
theorem mi_X10_lone : Cond.instanceMethod yX10_lone ∈ gTs := gTs_t (tb_3 (List.mem_of_getElem? (i := 95) rfl)) rfl
theorem mm_X10_lone : gMi yX10_lone cX10_lone 3 (some .int) 0 := ⟨mt_X10_lone, mi_X10_lone, gTs_t (tb_3 (List.mem_of_getElem? (i := 96) rfl)) rfl⟩
theorem mt_X1_isServable : gMth yX1_isServable cX1_isServable 3 (some .boolean) 1 := ⟨gTs_t (tb_3 (List.mem_of_getElem? (i := 101) rfl)) rfl, wI_X1, by decide +kernel, by decide +kernel, by decide +kernel⟩
theorem mi_X1_isServable : Cond.instanceMethod yX1_isServable ∈ gTs := gTs_t (tb_3 (List.mem_of_getElem? (i := 99) rfl)) rfl
theorem mm_X1_isServable : gMi yX1_isServable cX1_isServable 3 (some .boolean) 1 := ⟨mt_X1_isServable, mi_X1_isServable, gTs_t (tb_3 (List.mem_of_getElem? (i := 100) rfl)) rfl⟩
theorem mt_X10_rings : gMth yX10_rings cX10_rings 4 (some .int) 1 := ⟨gTs_t (tb_3 (List.mem_of_getElem? (i := 105) rfl)) rfl, wI_X10, by decide +kernel, by decide +kernel, by decide +kernel⟩
theorem mi_X10_rings : Cond.instanceMethod yX10_rings ∈ gTs := gTs_t (tb_3 (List.mem_of_getElem? (i := 103) rfl)) rfl
theorem mm_X10_rings : gMi yX10_rings cX10_rings 4 (some .int) 1 := ⟨mt_X10_rings, mi_X10_rings, gTs_t (tb_3 (List.mem_of_getElem? (i := 104) rfl)) rfl⟩
theorem mt_X1_ringOf : gMth yX1_ringOf cX1_ringOf 4 (some .int) 1 := ⟨gTs_t (tb_3 (List.mem_of_getElem? (i := 109) rfl)) rfl, wI_X1, by decide +kernel, by decide +kernel, by decide +kernel⟩
theorem mi_X1_ringOf : Cond.instanceMethod yX1_ringOf ∈ gTs := gTs_t (tb_3 (List.mem_of_getElem? (i := 107) rfl)) rfl
theorem mm_X1_ringOf : gMi yX1_ringOf cX1_ringOf 4 (some .int) 1 := ⟨mt_X1_ringOf, mi_X1_ringOf, gTs_t (tb_3 (List.mem_of_getElem? (i := 108) rfl)) rfl⟩
theorem mt_X10_smallest : gMth yX10_smallest cX10_smallest 5 (some .int) 0 := ⟨gTs_t (tb_3 (List.mem_of_getElem? (i := 113) rfl)) rfl, wI_X10, by decide +kernel, by decide +kernel, by decide +kernel⟩
theorem mi_X10_smallest : Cond.instanceMethod yX10_smallest ∈ gTs := gTs_t (tb_3 (List.mem_of_getElem? (i := 111) rfl)) rfl
theorem mm_X10_smallest : gMi yX10_smallest cX10_smallest 5 (some .int) 0 := ⟨mt_X10_smallest, mi_X10_smallest, gTs_t (tb_3 (List.mem_of_getElem? (i := 112) rfl)) rfl⟩
theorem mt_X10_closes : gMth yX10_closes cX10_closes 3 (some .boolean) 2 := ⟨gTs_t (tb_3 (List.mem_of_getElem? (i := 118) rfl)) rfl, wI_X10, by decide +kernel, by decide +kernel, by decide +kernel⟩
theorem mi_X10_closes : Cond.instanceMethod yX10_closes ∈ gTs := gTs_t (tb_3 (List.mem_of_getElem? (i := 117) rfl)) rfl
theorem mm_X10_closes : gMi yX10_closes cX10_closes 3 (some .boolean) 2 := ⟨mt_X10_closes, mi_X10_closes, gTs_p (q := (yX10_closes, 9)) (List.mem_of_getElem? (i := 18) (by decide +kernel)) (by decide +kernel)⟩
theorem mt_X10_swap : gMth yX10_swap cX10_swap 5 (some .int) 1 := ⟨gTs_t (tb_3 (List.mem_of_getElem? (i := 122) rfl)) rfl, wI_X10, by decide +kernel, by decide +kernel, by decide +kernel⟩
theorem mi_X10_swap : Cond.instanceMethod yX10_swap ∈ gTs := gTs_t (tb_3 (List.mem_of_getElem? (i := 120) rfl)) rfl
theorem mm_X10_swap : gMi yX10_swap cX10_swap 5 (some .int) 1 := ⟨mt_X10_swap, mi_X10_swap, gTs_t (tb_3 (List.mem_of_getElem? (i := 121) rfl)) rfl⟩
theorem mt_X1_wouldSwap : gMth yX1_wouldSwap cX1_wouldSwap 5 (some .boolean) 2 := ⟨gTs_t (tb_3 (List.mem_of_getElem? (i := 126) rfl)) rfl, wI_X1, by decide +kernel, by decide +kernel, by decide +kernel⟩
theorem mi_X1_wouldSwap : Cond.instanceMethod yX1_wouldSwap ∈ gTs := gTs_t (tb_3 (List.mem_of_getElem? (i := 124) rfl)) rfl
theorem mm_X1_wouldSwap : gMi yX1_wouldSwap cX1_wouldSwap 5 (some .boolean) 2 := ⟨mt_X1_wouldSwap, mi_X1_wouldSwap, gTs_t (tb_3 (List.mem_of_getElem? (i := 125) rfl)) rfl⟩
theorem mt_X1_wouldRather : gMth yX1_wouldRather cX1_wouldRather 4 (some .boolean) 3 := ⟨gTs_t (tb_3 (List.mem_of_getElem? (i := 130) rfl)) rfl, wI_X1, by decide +kernel, by decide +kernel, by decide +kernel⟩
theorem mi_X1_wouldRather : Cond.instanceMethod yX1_wouldRather ∈ gTs := gTs_t (tb_3 (List.mem_of_getElem? (i := 129) rfl)) rfl
theorem mm_X1_wouldRather : gMi yX1_wouldRather cX1_wouldRather 4 (some .boolean) 3 := ⟨mt_X1_wouldRather, mi_X1_wouldRather, gTs_p (q := (yX1_wouldRather, 16)) (List.mem_of_getElem? (i := 19) (by decide +kernel)) (by decide +kernel)⟩
theorem mt_X10_takeIn : gMth yX10_takeIn cX10_takeIn 5 (some .int) 1 := ⟨gTs_t (tb_3 (List.mem_of_getElem? (i := 134) rfl)) rfl, wI_X10, by decide +kernel, by decide +kernel, by decide +kernel⟩
theorem mi_X10_takeIn : Cond.instanceMethod yX10_takeIn ∈ gTs := gTs_t (tb_3 (List.mem_of_getElem? (i := 132) rfl)) rfl
theorem mm_X10_takeIn : gMi yX10_takeIn cX10_takeIn 5 (some .int) 1 := ⟨mt_X10_takeIn, mi_X10_takeIn, gTs_t (tb_3 (List.mem_of_getElem? (i := 133) rfl)) rfl⟩
theorem mt_X10_note : gMth yX10_note cX10_note 7 (some .int) 5 := ⟨gTs_t (tb_3 (List.mem_of_getElem? (i := 138) rfl)) rfl, wI_X10, by decide +kernel, by decide +kernel, by decide +kernel⟩
theorem mi_X10_note : Cond.instanceMethod yX10_note ∈ gTs := gTs_t (tb_3 (List.mem_of_getElem? (i := 136) rfl)) rfl
theorem mm_X10_note : gMi yX10_note cX10_note 7 (some .int) 5 := ⟨mt_X10_note, mi_X10_note, gTs_t (tb_3 (List.mem_of_getElem? (i := 137) rfl)) rfl⟩
theorem mt_X3_add : gMth yX3_add cX3_add 7 (some .int) 5 := ⟨gTs_t (tb_3 (List.mem_of_getElem? (i := 142) rfl)) rfl, wI_X3, by decide +kernel, by decide +kernel, by decide +kernel⟩
theorem mi_X3_add : Cond.instanceMethod yX3_add ∈ gTs := gTs_t (tb_3 (List.mem_of_getElem? (i := 140) rfl)) rfl
theorem mm_X3_add : gMi yX3_add cX3_add 7 (some .int) 5 := ⟨mt_X3_add, mi_X3_add, gTs_t (tb_3 (List.mem_of_getElem? (i := 141) rfl)) rfl⟩
theorem mt_X10_forget : gMth yX10_forget cX10_forget 2 (some .int) 0 := ⟨gTs_t (tb_3 (List.mem_of_getElem? (i := 146) rfl)) rfl, wI_X10, by decide +kernel, by decide +kernel, by decide +kernel⟩
theorem mi_X10_forget : Cond.instanceMethod yX10_forget ∈ gTs := gTs_t (tb_3 (List.mem_of_getElem? (i := 144) rfl)) rfl
theorem mm_X10_forget : gMi yX10_forget cX10_forget 2 (some .int) 0 := ⟨mt_X10_forget, mi_X10_forget, gTs_t (tb_3 (List.mem_of_getElem? (i := 145) rfl)) rfl⟩
theorem mt_X10_wants : gMth yX10_wants cX10_wants 2 (some .int) 1 := ⟨gTs_t (tb_3 (List.mem_of_getElem? (i := 150) rfl)) rfl, wI_X10, by decide +kernel, by decide +kernel, by decide +kernel⟩
theorem mi_X10_wants : Cond.instanceMethod yX10_wants ∈ gTs := gTs_t (tb_3 (List.mem_of_getElem? (i := 148) rfl)) rfl
theorem mm_X10_wants : gMi yX10_wants cX10_wants 2 (some .int) 1 := ⟨mt_X10_wants, mi_X10_wants, gTs_t (tb_3 (List.mem_of_getElem? (i := 149) rfl)) rfl⟩
theorem mt_X1_wantsThatFit : gMth yX1_wantsThatFit cX1_wantsThatFit 3 (some .int) 2 := ⟨gTs_t (tb_3 (List.mem_of_getElem? (i := 154) rfl)) rfl, wI_X1, by decide +kernel, by decide +kernel, by decide +kernel⟩
theorem mi_X1_wantsThatFit : Cond.instanceMethod yX1_wantsThatFit ∈ gTs := gTs_t (tb_3 (List.mem_of_getElem? (i := 152) rfl)) rfl
theorem mm_X1_wantsThatFit : gMi yX1_wantsThatFit cX1_wantsThatFit 3 (some .int) 2 := ⟨mt_X1_wantsThatFit, mi_X1_wantsThatFit, gTs_t (tb_3 (List.mem_of_getElem? (i := 153) rfl)) rfl⟩
theorem mt_X3_wantsThatFit : gMth yX3_wantsThatFit cX3_wantsThatFit 5 (some .int) 2 := ⟨gTs_t (tb_3 (List.mem_of_getElem? (i := 158) rfl)) rfl, wI_X3, by decide +kernel, by decide +kernel, by decide +kernel⟩
theorem mi_X3_wantsThatFit : Cond.instanceMethod yX3_wantsThatFit ∈ gTs := gTs_t (tb_3 (List.mem_of_getElem? (i := 156) rfl)) rfl
theorem mm_X3_wantsThatFit : gMi yX3_wantsThatFit cX3_wantsThatFit 5 (some .int) 2 := ⟨mt_X3_wantsThatFit, mi_X3_wantsThatFit, gTs_t (tb_3 (List.mem_of_getElem? (i := 157) rfl)) rfl⟩
theorem mt_X3_allFit : gMth yX3_allFit cX3_allFit 7 (some .boolean) 3 := ⟨gTs_t (tb_3 (List.mem_of_getElem? (i := 162) rfl)) rfl, wI_X3, by decide +kernel, by decide +kernel, by decide +kernel⟩
theorem mi_X3_allFit : Cond.instanceMethod yX3_allFit ∈ gTs := gTs_t (tb_3 (List.mem_of_getElem? (i := 161) rfl)) rfl
theorem mm_X3_allFit : gMi yX3_allFit cX3_allFit 7 (some .boolean) 3 := ⟨mt_X3_allFit, mi_X3_allFit, gTs_p (q := (yX3_allFit, 2)) (List.mem_of_getElem? (i := 20) (by decide +kernel)) (by decide +kernel)⟩
theorem mt_X10_is : gMth yX10_is cX10_is 4 (some .int) 1 := ⟨gTs_t (tb_3 (List.mem_of_getElem? (i := 167) rfl)) rfl, wI_X10, by decide +kernel, by decide +kernel, by decide +kernel⟩
theorem mi_X10_is : Cond.instanceMethod yX10_is ∈ gTs := gTs_t (tb_3 (List.mem_of_getElem? (i := 165) rfl)) rfl
theorem mm_X10_is : gMi yX10_is cX10_is 4 (some .int) 1 := ⟨mt_X10_is, mi_X10_is, gTs_t (tb_3 (List.mem_of_getElem? (i := 166) rfl)) rfl⟩
theorem mt_X10_next : gMth yX10_next cX10_next 8 (some .int) 1 := ⟨gTs_t (tb_3 (List.mem_of_getElem? (i := 171) rfl)) rfl, wI_X10, by decide +kernel, by decide +kernel, by decide +kernel⟩
theorem mi_X10_next : Cond.instanceMethod yX10_next ∈ gTs := gTs_t (tb_3 (List.mem_of_getElem? (i := 169) rfl)) rfl
theorem mm_X10_next : gMi yX10_next cX10_next 8 (some .int) 1 := ⟨mt_X10_next, mi_X10_next, gTs_t (tb_3 (List.mem_of_getElem? (i := 170) rfl)) rfl⟩
theorem mt_J9_max_7cf53 : gMth yJ9_max_7cf53 cJ9_max_7cf53 2 (some .int) 2 := ⟨gTs_t (tb_3 (List.mem_of_getElem? (i := 174) rfl)) rfl, wI_J9, by decide +kernel, by decide +kernel, by decide +kernel⟩
theorem mm_J9_max_7cf53 : gMs yJ9_max_7cf53 cJ9_max_7cf53 2 (some .int) 2 := ⟨mt_J9_max_7cf53, gTs_t (tb_3 (List.mem_of_getElem? (i := 173) rfl)) rfl⟩
theorem mt_X10_tips : gMth yX10_tips cX10_tips 4 (some .int) 2 := ⟨gTs_t (tb_3 (List.mem_of_getElem? (i := 178) rfl)) rfl, wI_X10, by decide +kernel, by decide +kernel, by decide +kernel⟩
theorem mi_X10_tips : Cond.instanceMethod yX10_tips ∈ gTs := gTs_t (tb_3 (List.mem_of_getElem? (i := 176) rfl)) rfl
theorem mm_X10_tips : gMi yX10_tips cX10_tips 4 (some .int) 2 := ⟨mt_X10_tips, mi_X10_tips, gTs_t (tb_3 (List.mem_of_getElem? (i := 177) rfl)) rfl⟩
theorem mt_X10_moods : gMth yX10_moods cX10_moods 4 (some .int) 1 := ⟨gTs_t (tb_3 (List.mem_of_getElem? (i := 182) rfl)) rfl, wI_X10, by decide +kernel, by decide +kernel, by decide +kernel⟩
theorem mi_X10_moods : Cond.instanceMethod yX10_moods ∈ gTs := gTs_t (tb_3 (List.mem_of_getElem? (i := 180) rfl)) rfl
theorem mm_X10_moods : gMi yX10_moods cX10_moods 4 (some .int) 1 := ⟨mt_X10_moods, mi_X10_moods, gTs_t (tb_3 (List.mem_of_getElem? (i := 181) rfl)) rfl⟩
theorem mt_X1_serversOf : gMth yX1_serversOf cX1_serversOf 4 (some .int) 1 := ⟨gTs_t (tb_3 (List.mem_of_getElem? (i := 186) rfl)) rfl, wI_X1, by decide +kernel, by decide +kernel, by decide +kernel⟩
theorem mi_X1_serversOf : Cond.instanceMethod yX1_serversOf ∈ gTs := gTs_t (tb_3 (List.mem_of_getElem? (i := 184) rfl)) rfl
theorem mm_X1_serversOf : gMi yX1_serversOf cX1_serversOf 4 (some .int) 1 := ⟨mt_X1_serversOf, mi_X1_serversOf, gTs_t (tb_3 (List.mem_of_getElem? (i := 185) rfl)) rfl⟩
theorem mt_X10_oddsOfNone : gMth yX10_oddsOfNone cX10_oddsOfNone 4 (some .int) 2 := ⟨gTs_t (tb_3 (List.mem_of_getElem? (i := 189) rfl)) rfl, wI_X10, by decide +kernel, by decide +kernel, by decide +kernel⟩
theorem mm_X10_oddsOfNone : gMs yX10_oddsOfNone cX10_oddsOfNone 4 (some .int) 2 := ⟨mt_X10_oddsOfNone, gTs_t (tb_3 (List.mem_of_getElem? (i := 188) rfl)) rfl⟩
theorem mt_X10_keepFraction : gMth yX10_keepFraction cX10_keepFraction 7 none 2 := ⟨gTs_t (tb_3 (List.mem_of_getElem? (i := 193) rfl)) rfl, wI_X10, by decide +kernel, by decide +kernel, by decide +kernel⟩
theorem mi_X10_keepFraction : Cond.instanceMethod yX10_keepFraction ∈ gTs := gTs_t (tb_3 (List.mem_of_getElem? (i := 192) rfl)) rfl
theorem mm_X10_keepFraction : gMi yX10_keepFraction cX10_keepFraction 7 none 2 := ⟨mt_X10_keepFraction, mi_X10_keepFraction, gTs_p (q := (yX10_keepFraction, 9)) (List.mem_of_getElem? (i := 21) (by decide +kernel)) (by decide +kernel)⟩
theorem mt_X10_hours : gMth yX10_hours cX10_hours 8 (some .int) 2 := ⟨gTs_t (tb_3 (List.mem_of_getElem? (i := 197) rfl)) rfl, wI_X10, by decide +kernel, by decide +kernel, by decide +kernel⟩
theorem mi_X10_hours : Cond.instanceMethod yX10_hours ∈ gTs := gTs_t (tb_3 (List.mem_of_getElem? (i := 195) rfl)) rfl
theorem mm_X10_hours : gMi yX10_hours cX10_hours 8 (some .int) 2 := ⟨mt_X10_hours, mi_X10_hours, gTs_t (tb_3 (List.mem_of_getElem? (i := 196) rfl)) rfl⟩
theorem mt_X10_part : gMth yX10_part cX10_part 2 (some .long) 1 := ⟨gTs_t (tb_3 (List.mem_of_getElem? (i := 206) rfl)) rfl, wI_X10, by decide +kernel, by decide +kernel, by decide +kernel⟩
theorem mi_X10_part : Cond.instanceMethod yX10_part ∈ gTs := gTs_t (tb_3 (List.mem_of_getElem? (i := 204) rfl)) rfl
theorem mm_X10_part : gMi yX10_part cX10_part 2 (some .long) 1 := ⟨mt_X10_part, mi_X10_part, gTs_t (tb_3 (List.mem_of_getElem? (i := 205) rfl)) rfl⟩
theorem mt_X10_image : gMth yX10_image cX10_image 2 (some .int) 1 := ⟨gTs_t (tb_3 (List.mem_of_getElem? (i := 210) rfl)) rfl, wI_X10, by decide +kernel, by decide +kernel, by decide +kernel⟩
theorem mi_X10_image : Cond.instanceMethod yX10_image ∈ gTs := gTs_t (tb_3 (List.mem_of_getElem? (i := 208) rfl)) rfl
theorem mm_X10_image : gMi yX10_image cX10_image 2 (some .int) 1 := ⟨mt_X10_image, mi_X10_image, gTs_t (tb_3 (List.mem_of_getElem? (i := 209) rfl)) rfl⟩
theorem mt_X10_from : gMth yX10_from cX10_from 2 (some .int) 1 := ⟨gTs_t (tb_3 (List.mem_of_getElem? (i := 214) rfl)) rfl, wI_X10, by decide +kernel, by decide +kernel, by decide +kernel⟩
theorem mi_X10_from : Cond.instanceMethod yX10_from ∈ gTs := gTs_t (tb_3 (List.mem_of_getElem? (i := 212) rfl)) rfl
theorem mm_X10_from : gMi yX10_from cX10_from 2 (some .int) 1 := ⟨mt_X10_from, mi_X10_from, gTs_t (tb_3 (List.mem_of_getElem? (i := 213) rfl)) rfl⟩
theorem mt_X10_status : gMth yX10_status cX10_status 2 (some .int) 1 := ⟨gTs_t (tb_3 (List.mem_of_getElem? (i := 218) rfl)) rfl, wI_X10, by decide +kernel, by decide +kernel, by decide +kernel⟩
theorem mi_X10_status : Cond.instanceMethod yX10_status ∈ gTs := gTs_t (tb_3 (List.mem_of_getElem? (i := 216) rfl)) rfl
theorem mm_X10_status : gMi yX10_status cX10_status 2 (some .int) 1 := ⟨mt_X10_status, mi_X10_status, gTs_t (tb_3 (List.mem_of_getElem? (i := 217) rfl)) rfl⟩
theorem mt_X10_count : gMth yX10_count cX10_count 2 (some .int) 1 := ⟨gTs_t (tb_3 (List.mem_of_getElem? (i := 222) rfl)) rfl, wI_X10, by decide +kernel, by decide +kernel, by decide +kernel⟩
theorem mi_X10_count : Cond.instanceMethod yX10_count ∈ gTs := gTs_t (tb_3 (List.mem_of_getElem? (i := 220) rfl)) rfl
theorem mm_X10_count : gMi yX10_count cX10_count 2 (some .int) 1 := ⟨mt_X10_count, mi_X10_count, gTs_t (tb_3 (List.mem_of_getElem? (i := 221) rfl)) rfl⟩
theorem mt_X10_countOf : gMth yX10_countOf cX10_countOf 2 (some .int) 1 := ⟨gTs_t (tb_3 (List.mem_of_getElem? (i := 226) rfl)) rfl, wI_X10, by decide +kernel, by decide +kernel, by decide +kernel⟩
theorem mi_X10_countOf : Cond.instanceMethod yX10_countOf ∈ gTs := gTs_t (tb_3 (List.mem_of_getElem? (i := 225) rfl)) rfl
theorem mm_X10_countOf : gMi yX10_countOf cX10_countOf 2 (some .int) 1 := ⟨mt_X10_countOf, mi_X10_countOf, gTs_p (q := (yX10_countOf, 9)) (List.mem_of_getElem? (i := 22) (by decide +kernel)) (by decide +kernel)⟩
theorem mt_X1_servedCount : gMth yX1_servedCount cX1_servedCount 3 (some .int) 0 := ⟨gTs_t (tb_3 (List.mem_of_getElem? (i := 230) rfl)) rfl, wI_X1, by decide +kernel, by decide +kernel, by decide +kernel⟩
theorem mi_X1_servedCount : Cond.instanceMethod yX1_servedCount ∈ gTs := gTs_t (tb_3 (List.mem_of_getElem? (i := 228) rfl)) rfl
theorem mm_X1_servedCount : gMi yX1_servedCount cX1_servedCount 3 (some .int) 0 := ⟨mt_X1_servedCount, mi_X1_servedCount, gTs_t (tb_3 (List.mem_of_getElem? (i := 229) rfl)) rfl⟩
theorem mt_X10_digest : gMth yX10_digest cX10_digest 4 (some .long) 0 := ⟨gTs_t (tb_3 (List.mem_of_getElem? (i := 234) rfl)) rfl, wI_X10, by decide +kernel, by decide +kernel, by decide +kernel⟩
theorem mi_X10_digest : Cond.instanceMethod yX10_digest ∈ gTs := gTs_t (tb_3 (List.mem_of_getElem? (i := 232) rfl)) rfl
theorem mm_X10_digest : gMi yX10_digest cX10_digest 4 (some .long) 0 := ⟨mt_X10_digest, mi_X10_digest, gTs_t (tb_3 (List.mem_of_getElem? (i := 233) rfl)) rfl⟩
theorem mt_X1_addGuestsTo : gMth yX1_addGuestsTo cX1_addGuestsTo 6 (some .long) 1 := ⟨gTs_t (tb_4 (List.mem_of_getElem? (i := 0) rfl)) rfl, wI_X1, by decide +kernel, by decide +kernel, by decide +kernel⟩
theorem mi_X1_addGuestsTo : Cond.instanceMethod yX1_addGuestsTo ∈ gTs := gTs_t (tb_3 (List.mem_of_getElem? (i := 238) rfl)) rfl
theorem mm_X1_addGuestsTo : gMi yX1_addGuestsTo cX1_addGuestsTo 6 (some .long) 1 := ⟨mt_X1_addGuestsTo, mi_X1_addGuestsTo, gTs_t (tb_3 (List.mem_of_getElem? (i := 239) rfl)) rfl⟩
theorem mt_X3_addTo : gMth yX3_addTo cX3_addTo 7 (some .long) 1 := ⟨gTs_t (tb_4 (List.mem_of_getElem? (i := 5) rfl)) rfl, wI_X3, by decide +kernel, by decide +kernel, by decide +kernel⟩
theorem mi_X3_addTo : Cond.instanceMethod yX3_addTo ∈ gTs := gTs_t (tb_4 (List.mem_of_getElem? (i := 3) rfl)) rfl
theorem mm_X3_addTo : gMi yX3_addTo cX3_addTo 7 (some .long) 1 := ⟨mt_X3_addTo, mi_X3_addTo, gTs_t (tb_4 (List.mem_of_getElem? (i := 4) rfl)) rfl⟩
theorem mt_X11_init : gMth yX11_init cX11_init 1 none 0 := ⟨gTs_t (tb_4 (List.mem_of_getElem? (i := 11) rfl)) rfl, wI_X11, by decide +kernel, by decide +kernel, by decide +kernel⟩
theorem mt_X11_house : gMth yX11_house cX11_house 2 (some .int) 0 := ⟨gTs_t (tb_4 (List.mem_of_getElem? (i := 101) rfl)) rfl, wI_X11, by decide +kernel, by decide +kernel, by decide +kernel⟩
theorem mi_X11_house : Cond.instanceMethod yX11_house ∈ gTs := gTs_t (tb_4 (List.mem_of_getElem? (i := 99) rfl)) rfl
theorem mm_X11_house : gMi yX11_house cX11_house 2 (some .int) 0 := ⟨mt_X11_house, mi_X11_house, gTs_t (tb_4 (List.mem_of_getElem? (i := 100) rfl)) rfl⟩
theorem mt_X11_anew : gMth yX11_anew cX11_anew 2 none 0 := ⟨gTs_t (tb_4 (List.mem_of_getElem? (i := 105) rfl)) rfl, wI_X11, by decide +kernel, by decide +kernel, by decide +kernel⟩
theorem mi_X11_anew : Cond.instanceMethod yX11_anew ∈ gTs := gTs_t (tb_4 (List.mem_of_getElem? (i := 104) rfl)) rfl
theorem mm_X11_anew : gMi yX11_anew cX11_anew 2 none 0 := ⟨mt_X11_anew, mi_X11_anew, gTs_p (q := (yX11_anew, 28)) (List.mem_of_getElem? (i := 23) (by decide +kernel)) (by decide +kernel)⟩
theorem mt_X11_guest : gMth yX11_guest cX11_guest 4 (some .int) 3 := ⟨gTs_t (tb_4 (List.mem_of_getElem? (i := 109) rfl)) rfl, wI_X11, by decide +kernel, by decide +kernel, by decide +kernel⟩
theorem mi_X11_guest : Cond.instanceMethod yX11_guest ∈ gTs := gTs_t (tb_4 (List.mem_of_getElem? (i := 107) rfl)) rfl
theorem mm_X11_guest : gMi yX11_guest cX11_guest 4 (some .int) 3 := ⟨mt_X11_guest, mi_X11_guest, gTs_t (tb_4 (List.mem_of_getElem? (i := 108) rfl)) rfl⟩
theorem mt_X11_in : gMth yX11_in cX11_in 6 (some .boolean) 3 := ⟨gTs_t (tb_4 (List.mem_of_getElem? (i := 113) rfl)) rfl, wI_X11, by decide +kernel, by decide +kernel, by decide +kernel⟩
theorem mm_X11_in : gMs yX11_in cX11_in 6 (some .boolean) 3 := ⟨mt_X11_in, gTs_t (tb_4 (List.mem_of_getElem? (i := 112) rfl)) rfl⟩
theorem mt_X11_bad : gMth yX11_bad cX11_bad 1 (some .int) 0 := ⟨gTs_t (tb_4 (List.mem_of_getElem? (i := 119) rfl)) rfl, wI_X11, by decide +kernel, by decide +kernel, by decide +kernel⟩
theorem mi_X11_bad : Cond.instanceMethod yX11_bad ∈ gTs := gTs_t (tb_4 (List.mem_of_getElem? (i := 118) rfl)) rfl
theorem mm_X11_bad : gMi yX11_bad cX11_bad 1 (some .int) 0 := ⟨mt_X11_bad, mi_X11_bad, gTs_p (q := (yX11_bad, 28)) (List.mem_of_getElem? (i := 24) (by decide +kernel)) (by decide +kernel)⟩
theorem mt_X11_full : gMth yX11_full cX11_full 1 (some .int) 0 := ⟨gTs_t (tb_4 (List.mem_of_getElem? (i := 123) rfl)) rfl, wI_X11, by decide +kernel, by decide +kernel, by decide +kernel⟩
theorem mi_X11_full : Cond.instanceMethod yX11_full ∈ gTs := gTs_t (tb_4 (List.mem_of_getElem? (i := 122) rfl)) rfl
theorem mm_X11_full : gMi yX11_full cX11_full 1 (some .int) 0 := ⟨mt_X11_full, mi_X11_full, gTs_p (q := (yX11_full, 28)) (List.mem_of_getElem? (i := 25) (by decide +kernel)) (by decide +kernel)⟩
theorem mt_X11_add : gMth yX11_add cX11_add 5 none 3 := ⟨gTs_t (tb_4 (List.mem_of_getElem? (i := 127) rfl)) rfl, wI_X11, by decide +kernel, by decide +kernel, by decide +kernel⟩
theorem mi_X11_add : Cond.instanceMethod yX11_add ∈ gTs := gTs_t (tb_4 (List.mem_of_getElem? (i := 126) rfl)) rfl
theorem mm_X11_add : gMi yX11_add cX11_add 5 none 3 := ⟨mt_X11_add, mi_X11_add, gTs_p (q := (yX11_add, 28)) (List.mem_of_getElem? (i := 26) (by decide +kernel)) (by decide +kernel)⟩
theorem mt_X11_duty : gMth yX11_duty cX11_duty 4 (some .int) 2 := ⟨gTs_t (tb_4 (List.mem_of_getElem? (i := 131) rfl)) rfl, wI_X11, by decide +kernel, by decide +kernel, by decide +kernel⟩
theorem mi_X11_duty : Cond.instanceMethod yX11_duty ∈ gTs := gTs_t (tb_4 (List.mem_of_getElem? (i := 129) rfl)) rfl
theorem mm_X11_duty : gMi yX11_duty cX11_duty 4 (some .int) 2 := ⟨mt_X11_duty, mi_X11_duty, gTs_t (tb_4 (List.mem_of_getElem? (i := 130) rfl)) rfl⟩
theorem mt_X11_isGuest : gMth yX11_isGuest cX11_isGuest 2 (some .boolean) 1 := ⟨gTs_t (tb_4 (List.mem_of_getElem? (i := 135) rfl)) rfl, wI_X11, by decide +kernel, by decide +kernel, by decide +kernel⟩
theorem mi_X11_isGuest : Cond.instanceMethod yX11_isGuest ∈ gTs := gTs_t (tb_4 (List.mem_of_getElem? (i := 134) rfl)) rfl
theorem mm_X11_isGuest : gMi yX11_isGuest cX11_isGuest 2 (some .boolean) 1 := ⟨mt_X11_isGuest, mi_X11_isGuest, gTs_p (q := (yX11_isGuest, 28)) (List.mem_of_getElem? (i := 27) (by decide +kernel)) (by decide +kernel)⟩
theorem mt_X11_badFar : gMth yX11_badFar cX11_badFar 1 (some .int) 0 := ⟨gTs_t (tb_4 (List.mem_of_getElem? (i := 139) rfl)) rfl, wI_X11, by decide +kernel, by decide +kernel, by decide +kernel⟩
theorem mi_X11_badFar : Cond.instanceMethod yX11_badFar ∈ gTs := gTs_t (tb_4 (List.mem_of_getElem? (i := 138) rfl)) rfl
theorem mm_X11_badFar : gMi yX11_badFar cX11_badFar 1 (some .int) 0 := ⟨mt_X11_badFar, mi_X11_badFar, gTs_p (q := (yX11_badFar, 28)) (List.mem_of_getElem? (i := 28) (by decide +kernel)) (by decide +kernel)⟩
theorem mt_X11_noteStep : gMth yX11_noteStep cX11_noteStep 2 none 0 := ⟨gTs_t (tb_4 (List.mem_of_getElem? (i := 143) rfl)) rfl, wI_X11, by decide +kernel, by decide +kernel, by decide +kernel⟩
theorem mi_X11_noteStep : Cond.instanceMethod yX11_noteStep ∈ gTs := gTs_t (tb_4 (List.mem_of_getElem? (i := 142) rfl)) rfl
theorem mm_X11_noteStep : gMi yX11_noteStep cX11_noteStep 2 none 0 := ⟨mt_X11_noteStep, mi_X11_noteStep, gTs_p (q := (yX11_noteStep, 28)) (List.mem_of_getElem? (i := 29) (by decide +kernel)) (by decide +kernel)⟩
theorem mt_X11_type : gMth yX11_type cX11_type 2 (some .int) 1 := ⟨gTs_t (tb_4 (List.mem_of_getElem? (i := 147) rfl)) rfl, wI_X11, by decide +kernel, by decide +kernel, by decide +kernel⟩
theorem mi_X11_type : Cond.instanceMethod yX11_type ∈ gTs := gTs_t (tb_4 (List.mem_of_getElem? (i := 145) rfl)) rfl
theorem mm_X11_type : gMi yX11_type cX11_type 2 (some .int) 1 := ⟨mt_X11_type, mi_X11_type, gTs_t (tb_4 (List.mem_of_getElem? (i := 146) rfl)) rfl⟩
theorem mt_X11_clear : gMth yX11_clear cX11_clear 2 (some .int) 0 := ⟨gTs_t (tb_4 (List.mem_of_getElem? (i := 152) rfl)) rfl, wI_X11, by decide +kernel, by decide +kernel, by decide +kernel⟩
theorem mi_X11_clear : Cond.instanceMethod yX11_clear ∈ gTs := gTs_t (tb_4 (List.mem_of_getElem? (i := 150) rfl)) rfl
theorem mm_X11_clear : gMi yX11_clear cX11_clear 2 (some .int) 0 := ⟨mt_X11_clear, mi_X11_clear, gTs_t (tb_4 (List.mem_of_getElem? (i := 151) rfl)) rfl⟩
theorem mt_X11_read : gMth yX11_read cX11_read 1 (some .int) 0 := ⟨gTs_t (tb_4 (List.mem_of_getElem? (i := 156) rfl)) rfl, wI_X11, by decide +kernel, by decide +kernel, by decide +kernel⟩
theorem mi_X11_read : Cond.instanceMethod yX11_read ∈ gTs := gTs_t (tb_4 (List.mem_of_getElem? (i := 154) rfl)) rfl
theorem mm_X11_read : gMi yX11_read cX11_read 1 (some .int) 0 := ⟨mt_X11_read, mi_X11_read, gTs_t (tb_4 (List.mem_of_getElem? (i := 155) rfl)) rfl⟩
theorem mt_X11_readText : gMth yX11_readText cX11_readText 3 (some .int) 1 := ⟨gTs_t (tb_4 (List.mem_of_getElem? (i := 160) rfl)) rfl, wI_X11, by decide +kernel, by decide +kernel, by decide +kernel⟩
theorem mi_X11_readText : Cond.instanceMethod yX11_readText ∈ gTs := gTs_t (tb_4 (List.mem_of_getElem? (i := 159) rfl)) rfl
theorem mm_X11_readText : gMi yX11_readText cX11_readText 3 (some .int) 1 := ⟨mt_X11_readText, mi_X11_readText, gTs_p (q := (yX11_readText, 28)) (List.mem_of_getElem? (i := 30) (by decide +kernel)) (by decide +kernel)⟩
theorem mt_X11_nextToken : gMth yX11_nextToken cX11_nextToken 1 none 0 := ⟨gTs_t (tb_4 (List.mem_of_getElem? (i := 164) rfl)) rfl, wI_X11, by decide +kernel, by decide +kernel, by decide +kernel⟩
theorem mi_X11_nextToken : Cond.instanceMethod yX11_nextToken ∈ gTs := gTs_t (tb_4 (List.mem_of_getElem? (i := 163) rfl)) rfl
theorem mm_X11_nextToken : gMi yX11_nextToken cX11_nextToken 1 none 0 := ⟨mt_X11_nextToken, mi_X11_nextToken, gTs_p (q := (yX11_nextToken, 28)) (List.mem_of_getElem? (i := 31) (by decide +kernel)) (by decide +kernel)⟩
theorem mt_X11_byteAt : gMth yX11_byteAt cX11_byteAt 2 (some .int) 1 := ⟨gTs_t (tb_4 (List.mem_of_getElem? (i := 168) rfl)) rfl, wI_X11, by decide +kernel, by decide +kernel, by decide +kernel⟩
theorem mi_X11_byteAt : Cond.instanceMethod yX11_byteAt ∈ gTs := gTs_t (tb_4 (List.mem_of_getElem? (i := 167) rfl)) rfl
theorem mm_X11_byteAt : gMi yX11_byteAt cX11_byteAt 2 (some .int) 1 := ⟨mt_X11_byteAt, mi_X11_byteAt, gTs_p (q := (yX11_byteAt, 28)) (List.mem_of_getElem? (i := 32) (by decide +kernel)) (by decide +kernel)⟩
theorem mt_X11_readItem : gMth yX11_readItem cX11_readItem 4 (some .boolean) 2 := ⟨gTs_t (tb_4 (List.mem_of_getElem? (i := 176) rfl)) rfl, wI_X11, by decide +kernel, by decide +kernel, by decide +kernel⟩
theorem mi_X11_readItem : Cond.instanceMethod yX11_readItem ∈ gTs := gTs_t (tb_4 (List.mem_of_getElem? (i := 175) rfl)) rfl
theorem mm_X11_readItem : gMi yX11_readItem cX11_readItem 4 (some .boolean) 2 := ⟨mt_X11_readItem, mi_X11_readItem, gTs_p (q := (yX11_readItem, 28)) (List.mem_of_getElem? (i := 33) (by decide +kernel)) (by decide +kernel)⟩
theorem mt_X11_isWord : gMth yX11_isWord cX11_isWord 8 (some .boolean) 5 := ⟨gTs_t (tb_4 (List.mem_of_getElem? (i := 180) rfl)) rfl, wI_X11, by decide +kernel, by decide +kernel, by decide +kernel⟩
theorem mi_X11_isWord : Cond.instanceMethod yX11_isWord ∈ gTs := gTs_t (tb_4 (List.mem_of_getElem? (i := 179) rfl)) rfl
theorem mm_X11_isWord : gMi yX11_isWord cX11_isWord 8 (some .boolean) 5 := ⟨mt_X11_isWord, mi_X11_isWord, gTs_p (q := (yX11_isWord, 28)) (List.mem_of_getElem? (i := 34) (by decide +kernel)) (by decide +kernel)⟩
theorem mt_X11_reads : gMth yX11_reads cX11_reads 3 (some .boolean) 2 := ⟨gTs_t (tb_4 (List.mem_of_getElem? (i := 184) rfl)) rfl, wI_X11, by decide +kernel, by decide +kernel, by decide +kernel⟩
theorem mi_X11_reads : Cond.instanceMethod yX11_reads ∈ gTs := gTs_t (tb_4 (List.mem_of_getElem? (i := 183) rfl)) rfl
theorem mm_X11_reads : gMi yX11_reads cX11_reads 3 (some .boolean) 2 := ⟨mt_X11_reads, mi_X11_reads, gTs_p (q := (yX11_reads, 28)) (List.mem_of_getElem? (i := 35) (by decide +kernel)) (by decide +kernel)⟩
theorem mt_X11_readServices : gMth yX11_readServices cX11_readServices 1 (some .boolean) 0 := ⟨gTs_t (tb_4 (List.mem_of_getElem? (i := 188) rfl)) rfl, wI_X11, by decide +kernel, by decide +kernel, by decide +kernel⟩
theorem mi_X11_readServices : Cond.instanceMethod yX11_readServices ∈ gTs := gTs_t (tb_4 (List.mem_of_getElem? (i := 187) rfl)) rfl
theorem mm_X11_readServices : gMi yX11_readServices cX11_readServices 1 (some .boolean) 0 := ⟨mt_X11_readServices, mi_X11_readServices, gTs_p (q := (yX11_readServices, 28)) (List.mem_of_getElem? (i := 36) (by decide +kernel)) (by decide +kernel)⟩
theorem mt_X11_hour : gMth yX11_hour cX11_hour 3 (some .int) 1 := ⟨gTs_t (tb_4 (List.mem_of_getElem? (i := 192) rfl)) rfl, wI_X11, by decide +kernel, by decide +kernel, by decide +kernel⟩
theorem mi_X11_hour : Cond.instanceMethod yX11_hour ∈ gTs := gTs_t (tb_4 (List.mem_of_getElem? (i := 190) rfl)) rfl
theorem mm_X11_hour : gMi yX11_hour cX11_hour 3 (some .int) 1 := ⟨mt_X11_hour, mi_X11_hour, gTs_t (tb_4 (List.mem_of_getElem? (i := 191) rfl)) rfl⟩
theorem mt_X11_oneHour : gMth yX11_oneHour cX11_oneHour 3 none 0 := ⟨gTs_t (tb_4 (List.mem_of_getElem? (i := 197) rfl)) rfl, wI_X11, by decide +kernel, by decide +kernel, by decide +kernel⟩
theorem mi_X11_oneHour : Cond.instanceMethod yX11_oneHour ∈ gTs := gTs_t (tb_4 (List.mem_of_getElem? (i := 196) rfl)) rfl
theorem mm_X11_oneHour : gMi yX11_oneHour cX11_oneHour 3 none 0 := ⟨mt_X11_oneHour, mi_X11_oneHour, gTs_p (q := (yX11_oneHour, 28)) (List.mem_of_getElem? (i := 37) (by decide +kernel)) (by decide +kernel)⟩
theorem mt_X11_serverOf : gMth yX11_serverOf cX11_serverOf 3 (some .int) 1 := ⟨gTs_t (tb_4 (List.mem_of_getElem? (i := 201) rfl)) rfl, wI_X11, by decide +kernel, by decide +kernel, by decide +kernel⟩
theorem mi_X11_serverOf : Cond.instanceMethod yX11_serverOf ∈ gTs := gTs_t (tb_4 (List.mem_of_getElem? (i := 200) rfl)) rfl
theorem mm_X11_serverOf : gMi yX11_serverOf cX11_serverOf 3 (some .int) 1 := ⟨mt_X11_serverOf, mi_X11_serverOf, gTs_p (q := (yX11_serverOf, 28)) (List.mem_of_getElem? (i := 38) (by decide +kernel)) (by decide +kernel)⟩
theorem mt_X11_canServe : gMth yX11_canServe cX11_canServe 3 (some .boolean) 2 := ⟨gTs_t (tb_4 (List.mem_of_getElem? (i := 205) rfl)) rfl, wI_X11, by decide +kernel, by decide +kernel, by decide +kernel⟩
theorem mi_X11_canServe : Cond.instanceMethod yX11_canServe ∈ gTs := gTs_t (tb_4 (List.mem_of_getElem? (i := 204) rfl)) rfl
theorem mm_X11_canServe : gMi yX11_canServe cX11_canServe 3 (some .boolean) 2 := ⟨mt_X11_canServe, mi_X11_canServe, gTs_p (q := (yX11_canServe, 28)) (List.mem_of_getElem? (i := 39) (by decide +kernel)) (by decide +kernel)⟩
theorem mt_X11_has : gMth yX11_has cX11_has 2 (some .boolean) 2 := ⟨gTs_t (tb_4 (List.mem_of_getElem? (i := 208) rfl)) rfl, wI_X11, by decide +kernel, by decide +kernel, by decide +kernel⟩
theorem mm_X11_has : gMs yX11_has cX11_has 2 (some .boolean) 2 := ⟨mt_X11_has, gTs_t (tb_4 (List.mem_of_getElem? (i := 207) rfl)) rfl⟩
theorem mt_X11_contentOf : gMth yX11_contentOf cX11_contentOf 3 (some .int) 2 := ⟨gTs_t (tb_4 (List.mem_of_getElem? (i := 212) rfl)) rfl, wI_X11, by decide +kernel, by decide +kernel, by decide +kernel⟩
theorem mi_X11_contentOf : Cond.instanceMethod yX11_contentOf ∈ gTs := gTs_t (tb_4 (List.mem_of_getElem? (i := 211) rfl)) rfl
theorem mm_X11_contentOf : gMi yX11_contentOf cX11_contentOf 3 (some .int) 2 := ⟨mt_X11_contentOf, mi_X11_contentOf, gTs_p (q := (yX11_contentOf, 28)) (List.mem_of_getElem? (i := 40) (by decide +kernel)) (by decide +kernel)⟩
theorem mt_X11_contentBy : gMth yX11_contentBy cX11_contentBy 3 (some .int) 3 := ⟨gTs_t (tb_4 (List.mem_of_getElem? (i := 215) rfl)) rfl, wI_X11, by decide +kernel, by decide +kernel, by decide +kernel⟩
theorem mm_X11_contentBy : gMs yX11_contentBy cX11_contentBy 3 (some .int) 3 := ⟨mt_X11_contentBy, gTs_t (tb_4 (List.mem_of_getElem? (i := 214) rfl)) rfl⟩
theorem mt_X11_undo : gMth yX11_undo cX11_undo 2 (some .int) 0 := ⟨gTs_t (tb_4 (List.mem_of_getElem? (i := 219) rfl)) rfl, wI_X11, by decide +kernel, by decide +kernel, by decide +kernel⟩
theorem mi_X11_undo : Cond.instanceMethod yX11_undo ∈ gTs := gTs_t (tb_4 (List.mem_of_getElem? (i := 217) rfl)) rfl
theorem mm_X11_undo : gMi yX11_undo cX11_undo 2 (some .int) 0 := ⟨mt_X11_undo, mi_X11_undo, gTs_t (tb_4 (List.mem_of_getElem? (i := 218) rfl)) rfl⟩
theorem mt_X11_no : gMth yX11_no cX11_no 1 (some .int) 0 := ⟨gTs_t (tb_4 (List.mem_of_getElem? (i := 223) rfl)) rfl, wI_X11, by decide +kernel, by decide +kernel, by decide +kernel⟩
theorem mi_X11_no : Cond.instanceMethod yX11_no ∈ gTs := gTs_t (tb_4 (List.mem_of_getElem? (i := 222) rfl)) rfl
theorem mm_X11_no : gMi yX11_no cX11_no 1 (some .int) 0 := ⟨mt_X11_no, mi_X11_no, gTs_p (q := (yX11_no, 28)) (List.mem_of_getElem? (i := 41) (by decide +kernel)) (by decide +kernel)⟩
theorem mt_X11_of : gMth yX11_of cX11_of 3 (some .int) 2 := ⟨gTs_t (tb_4 (List.mem_of_getElem? (i := 227) rfl)) rfl, wI_X11, by decide +kernel, by decide +kernel, by decide +kernel⟩
theorem mi_X11_of : Cond.instanceMethod yX11_of ∈ gTs := gTs_t (tb_4 (List.mem_of_getElem? (i := 225) rfl)) rfl
theorem mm_X11_of : gMi yX11_of cX11_of 3 (some .int) 2 := ⟨mt_X11_of, mi_X11_of, gTs_t (tb_4 (List.mem_of_getElem? (i := 226) rfl)) rfl⟩
theorem mt_X11_can : gMth yX11_can cX11_can 3 (some .int) 2 := ⟨gTs_t (tb_4 (List.mem_of_getElem? (i := 232) rfl)) rfl, wI_X11, by decide +kernel, by decide +kernel, by decide +kernel⟩
theorem mi_X11_can : Cond.instanceMethod yX11_can ∈ gTs := gTs_t (tb_4 (List.mem_of_getElem? (i := 230) rfl)) rfl
theorem mm_X11_can : gMi yX11_can cX11_can 3 (some .int) 2 := ⟨mt_X11_can, mi_X11_can, gTs_t (tb_4 (List.mem_of_getElem? (i := 231) rfl)) rfl⟩
theorem mt_X11_work : gMth yX11_work cX11_work 3 (some .int) 2 := ⟨gTs_t (tb_4 (List.mem_of_getElem? (i := 236) rfl)) rfl, wI_X11, by decide +kernel, by decide +kernel, by decide +kernel⟩
theorem mi_X11_work : Cond.instanceMethod yX11_work ∈ gTs := gTs_t (tb_4 (List.mem_of_getElem? (i := 234) rfl)) rfl
theorem mm_X11_work : gMi yX11_work cX11_work 3 (some .int) 2 := ⟨mt_X11_work, mi_X11_work, gTs_t (tb_4 (List.mem_of_getElem? (i := 235) rfl)) rfl⟩
theorem mt_X11_workBy : gMth yX11_workBy cX11_workBy 5 (some .int) 2 := ⟨gTs_t (tb_5 (List.mem_of_getElem? (i := 0) rfl)) rfl, wI_X11, by decide +kernel, by decide +kernel, by decide +kernel⟩
theorem mi_X11_workBy : Cond.instanceMethod yX11_workBy ∈ gTs := gTs_t (tb_4 (List.mem_of_getElem? (i := 239) rfl)) rfl
theorem mm_X11_workBy : gMi yX11_workBy cX11_workBy 5 (some .int) 2 := ⟨mt_X11_workBy, mi_X11_workBy, gTs_p (q := (yX11_workBy, 28)) (List.mem_of_getElem? (i := 42) (by decide +kernel)) (by decide +kernel)⟩
theorem mt_X11_all : gMth yX11_all cX11_all 2 (some .int) 1 := ⟨gTs_t (tb_5 (List.mem_of_getElem? (i := 4) rfl)) rfl, wI_X11, by decide +kernel, by decide +kernel, by decide +kernel⟩
theorem mi_X11_all : Cond.instanceMethod yX11_all ∈ gTs := gTs_t (tb_5 (List.mem_of_getElem? (i := 2) rfl)) rfl
theorem mm_X11_all : gMi yX11_all cX11_all 2 (some .int) 1 := ⟨mt_X11_all, mi_X11_all, gTs_t (tb_5 (List.mem_of_getElem? (i := 3) rfl)) rfl⟩
theorem mt_X11_isOne : gMth yX11_isOne cX11_isOne 2 (some .boolean) 1 := ⟨gTs_t (tb_5 (List.mem_of_getElem? (i := 8) rfl)) rfl, wI_X11, by decide +kernel, by decide +kernel, by decide +kernel⟩
theorem mi_X11_isOne : Cond.instanceMethod yX11_isOne ∈ gTs := gTs_t (tb_5 (List.mem_of_getElem? (i := 7) rfl)) rfl
theorem mm_X11_isOne : gMi yX11_isOne cX11_isOne 2 (some .boolean) 1 := ⟨mt_X11_isOne, mi_X11_isOne, gTs_p (q := (yX11_isOne, 28)) (List.mem_of_getElem? (i := 43) (by decide +kernel)) (by decide +kernel)⟩
theorem mt_X11_findRows : gMth yX11_findRows cX11_findRows 6 none 0 := ⟨gTs_t (tb_5 (List.mem_of_getElem? (i := 12) rfl)) rfl, wI_X11, by decide +kernel, by decide +kernel, by decide +kernel⟩
theorem mi_X11_findRows : Cond.instanceMethod yX11_findRows ∈ gTs := gTs_t (tb_5 (List.mem_of_getElem? (i := 11) rfl)) rfl
theorem mm_X11_findRows : gMi yX11_findRows cX11_findRows 6 none 0 := ⟨mt_X11_findRows, mi_X11_findRows, gTs_p (q := (yX11_findRows, 28)) (List.mem_of_getElem? (i := 44) (by decide +kernel)) (by decide +kernel)⟩
theorem mt_X11_everybody : gMth yX11_everybody cX11_everybody 1 (some .int) 0 := ⟨gTs_t (tb_5 (List.mem_of_getElem? (i := 16) rfl)) rfl, wI_X11, by decide +kernel, by decide +kernel, by decide +kernel⟩
theorem mi_X11_everybody : Cond.instanceMethod yX11_everybody ∈ gTs := gTs_t (tb_5 (List.mem_of_getElem? (i := 15) rfl)) rfl
theorem mm_X11_everybody : gMi yX11_everybody cX11_everybody 1 (some .int) 0 := ⟨mt_X11_everybody, mi_X11_everybody, gTs_p (q := (yX11_everybody, 28)) (List.mem_of_getElem? (i := 45) (by decide +kernel)) (by decide +kernel)⟩
theorem mt_X11_takeSet : gMth yX11_takeSet cX11_takeSet 3 none 1 := ⟨gTs_t (tb_5 (List.mem_of_getElem? (i := 20) rfl)) rfl, wI_X11, by decide +kernel, by decide +kernel, by decide +kernel⟩
theorem mi_X11_takeSet : Cond.instanceMethod yX11_takeSet ∈ gTs := gTs_t (tb_5 (List.mem_of_getElem? (i := 19) rfl)) rfl
theorem mm_X11_takeSet : gMi yX11_takeSet cX11_takeSet 3 none 1 := ⟨mt_X11_takeSet, mi_X11_takeSet, gTs_p (q := (yX11_takeSet, 28)) (List.mem_of_getElem? (i := 46) (by decide +kernel)) (by decide +kernel)⟩
theorem mt_X11_factorial : gMth yX11_factorial cX11_factorial 3 (some .int) 1 := ⟨gTs_t (tb_5 (List.mem_of_getElem? (i := 23) rfl)) rfl, wI_X11, by decide +kernel, by decide +kernel, by decide +kernel⟩
theorem mm_X11_factorial : gMs yX11_factorial cX11_factorial 3 (some .int) 1 := ⟨mt_X11_factorial, gTs_t (tb_5 (List.mem_of_getElem? (i := 22) rfl)) rfl⟩
theorem mt_X11_isRow : gMth yX11_isRow cX11_isRow 10 (some .boolean) 1 := ⟨gTs_t (tb_5 (List.mem_of_getElem? (i := 27) rfl)) rfl, wI_X11, by decide +kernel, by decide +kernel, by decide +kernel⟩
theorem mi_X11_isRow : Cond.instanceMethod yX11_isRow ∈ gTs := gTs_t (tb_5 (List.mem_of_getElem? (i := 26) rfl)) rfl
theorem mm_X11_isRow : gMi yX11_isRow cX11_isRow 10 (some .boolean) 1 := ⟨mt_X11_isRow, mi_X11_isRow, gTs_p (q := (yX11_isRow, 28)) (List.mem_of_getElem? (i := 47) (by decide +kernel)) (by decide +kernel)⟩
theorem mt_X11_rowWork : gMth yX11_rowWork cX11_rowWork 3 (some .int) 0 := ⟨gTs_t (tb_5 (List.mem_of_getElem? (i := 31) rfl)) rfl, wI_X11, by decide +kernel, by decide +kernel, by decide +kernel⟩
theorem mi_X11_rowWork : Cond.instanceMethod yX11_rowWork ∈ gTs := gTs_t (tb_5 (List.mem_of_getElem? (i := 30) rfl)) rfl
theorem mm_X11_rowWork : gMi yX11_rowWork cX11_rowWork 3 (some .int) 0 := ⟨mt_X11_rowWork, mi_X11_rowWork, gTs_p (q := (yX11_rowWork, 28)) (List.mem_of_getElem? (i := 48) (by decide +kernel)) (by decide +kernel)⟩
theorem mt_X11_rowContent : gMth yX11_rowContent cX11_rowContent 3 (some .int) 0 := ⟨gTs_t (tb_5 (List.mem_of_getElem? (i := 35) rfl)) rfl, wI_X11, by decide +kernel, by decide +kernel, by decide +kernel⟩
theorem mi_X11_rowContent : Cond.instanceMethod yX11_rowContent ∈ gTs := gTs_t (tb_5 (List.mem_of_getElem? (i := 34) rfl)) rfl
theorem mm_X11_rowContent : gMi yX11_rowContent cX11_rowContent 3 (some .int) 0 := ⟨mt_X11_rowContent, mi_X11_rowContent, gTs_p (q := (yX11_rowContent, 28)) (List.mem_of_getElem? (i := 49) (by decide +kernel)) (by decide +kernel)⟩
theorem mt_X11_least : gMth yX11_least cX11_least 1 (some .int) 0 := ⟨gTs_t (tb_5 (List.mem_of_getElem? (i := 39) rfl)) rfl, wI_X11, by decide +kernel, by decide +kernel, by decide +kernel⟩
theorem mi_X11_least : Cond.instanceMethod yX11_least ∈ gTs := gTs_t (tb_5 (List.mem_of_getElem? (i := 37) rfl)) rfl
theorem mm_X11_least : gMi yX11_least cX11_least 1 (some .int) 0 := ⟨mt_X11_least, mi_X11_least, gTs_t (tb_5 (List.mem_of_getElem? (i := 38) rfl)) rfl⟩
theorem mt_X11_most : gMth yX11_most cX11_most 2 (some .int) 1 := ⟨gTs_t (tb_5 (List.mem_of_getElem? (i := 43) rfl)) rfl, wI_X11, by decide +kernel, by decide +kernel, by decide +kernel⟩
theorem mi_X11_most : Cond.instanceMethod yX11_most ∈ gTs := gTs_t (tb_5 (List.mem_of_getElem? (i := 41) rfl)) rfl
theorem mm_X11_most : gMi yX11_most cX11_most 2 (some .int) 1 := ⟨mt_X11_most, mi_X11_most, gTs_t (tb_5 (List.mem_of_getElem? (i := 42) rfl)) rfl⟩
theorem mt_X11_lone : gMth yX11_lone cX11_lone 5 (some .int) 0 := ⟨gTs_t (tb_5 (List.mem_of_getElem? (i := 47) rfl)) rfl, wI_X11, by decide +kernel, by decide +kernel, by decide +kernel⟩
theorem mi_X11_lone : Cond.instanceMethod yX11_lone ∈ gTs := gTs_t (tb_5 (List.mem_of_getElem? (i := 45) rfl)) rfl
theorem mm_X11_lone : gMi yX11_lone cX11_lone 5 (some .int) 0 := ⟨mt_X11_lone, mi_X11_lone, gTs_t (tb_5 (List.mem_of_getElem? (i := 46) rfl)) rfl⟩
theorem mt_X11_rings : gMth yX11_rings cX11_rings 4 (some .int) 1 := ⟨gTs_t (tb_5 (List.mem_of_getElem? (i := 51) rfl)) rfl, wI_X11, by decide +kernel, by decide +kernel, by decide +kernel⟩
theorem mi_X11_rings : Cond.instanceMethod yX11_rings ∈ gTs := gTs_t (tb_5 (List.mem_of_getElem? (i := 49) rfl)) rfl
theorem mm_X11_rings : gMi yX11_rings cX11_rings 4 (some .int) 1 := ⟨mt_X11_rings, mi_X11_rings, gTs_t (tb_5 (List.mem_of_getElem? (i := 50) rfl)) rfl⟩
theorem mt_X11_ringOf : gMth yX11_ringOf cX11_ringOf 4 (some .int) 1 := ⟨gTs_t (tb_5 (List.mem_of_getElem? (i := 55) rfl)) rfl, wI_X11, by decide +kernel, by decide +kernel, by decide +kernel⟩
theorem mi_X11_ringOf : Cond.instanceMethod yX11_ringOf ∈ gTs := gTs_t (tb_5 (List.mem_of_getElem? (i := 54) rfl)) rfl
theorem mm_X11_ringOf : gMi yX11_ringOf cX11_ringOf 4 (some .int) 1 := ⟨mt_X11_ringOf, mi_X11_ringOf, gTs_p (q := (yX11_ringOf, 28)) (List.mem_of_getElem? (i := 50) (by decide +kernel)) (by decide +kernel)⟩
theorem mt_X11_smallest : gMth yX11_smallest cX11_smallest 4 (some .int) 0 := ⟨gTs_t (tb_5 (List.mem_of_getElem? (i := 59) rfl)) rfl, wI_X11, by decide +kernel, by decide +kernel, by decide +kernel⟩
theorem mi_X11_smallest : Cond.instanceMethod yX11_smallest ∈ gTs := gTs_t (tb_5 (List.mem_of_getElem? (i := 57) rfl)) rfl
theorem mm_X11_smallest : gMi yX11_smallest cX11_smallest 4 (some .int) 0 := ⟨mt_X11_smallest, mi_X11_smallest, gTs_t (tb_5 (List.mem_of_getElem? (i := 58) rfl)) rfl⟩
theorem mt_X11_ones : gMth yX11_ones cX11_ones 3 (some .int) 1 := ⟨gTs_t (tb_5 (List.mem_of_getElem? (i := 62) rfl)) rfl, wI_X11, by decide +kernel, by decide +kernel, by decide +kernel⟩
theorem mm_X11_ones : gMs yX11_ones cX11_ones 3 (some .int) 1 := ⟨mt_X11_ones, gTs_t (tb_5 (List.mem_of_getElem? (i := 61) rfl)) rfl⟩
theorem mt_X11_closes : gMth yX11_closes cX11_closes 4 (some .boolean) 1 := ⟨gTs_t (tb_5 (List.mem_of_getElem? (i := 66) rfl)) rfl, wI_X11, by decide +kernel, by decide +kernel, by decide +kernel⟩
theorem mi_X11_closes : Cond.instanceMethod yX11_closes ∈ gTs := gTs_t (tb_5 (List.mem_of_getElem? (i := 65) rfl)) rfl
theorem mm_X11_closes : gMi yX11_closes cX11_closes 4 (some .boolean) 1 := ⟨mt_X11_closes, mi_X11_closes, gTs_p (q := (yX11_closes, 28)) (List.mem_of_getElem? (i := 51) (by decide +kernel)) (by decide +kernel)⟩
theorem mt_X11_swap : gMth yX11_swap cX11_swap 7 (some .int) 1 := ⟨gTs_t (tb_5 (List.mem_of_getElem? (i := 70) rfl)) rfl, wI_X11, by decide +kernel, by decide +kernel, by decide +kernel⟩
theorem mi_X11_swap : Cond.instanceMethod yX11_swap ∈ gTs := gTs_t (tb_5 (List.mem_of_getElem? (i := 68) rfl)) rfl
theorem mm_X11_swap : gMi yX11_swap cX11_swap 7 (some .int) 1 := ⟨mt_X11_swap, mi_X11_swap, gTs_t (tb_5 (List.mem_of_getElem? (i := 69) rfl)) rfl⟩
theorem mt_X11_gains : gMth yX11_gains cX11_gains 3 (some .boolean) 2 := ⟨gTs_t (tb_5 (List.mem_of_getElem? (i := 74) rfl)) rfl, wI_X11, by decide +kernel, by decide +kernel, by decide +kernel⟩
theorem mi_X11_gains : Cond.instanceMethod yX11_gains ∈ gTs := gTs_t (tb_5 (List.mem_of_getElem? (i := 73) rfl)) rfl
theorem mm_X11_gains : gMi yX11_gains cX11_gains 3 (some .boolean) 2 := ⟨mt_X11_gains, mi_X11_gains, gTs_p (q := (yX11_gains, 28)) (List.mem_of_getElem? (i := 52) (by decide +kernel)) (by decide +kernel)⟩
theorem mt_X11_takeIn : gMth yX11_takeIn cX11_takeIn 5 (some .int) 1 := ⟨gTs_t (tb_5 (List.mem_of_getElem? (i := 78) rfl)) rfl, wI_X11, by decide +kernel, by decide +kernel, by decide +kernel⟩
theorem mi_X11_takeIn : Cond.instanceMethod yX11_takeIn ∈ gTs := gTs_t (tb_5 (List.mem_of_getElem? (i := 76) rfl)) rfl
theorem mm_X11_takeIn : gMi yX11_takeIn cX11_takeIn 5 (some .int) 1 := ⟨mt_X11_takeIn, mi_X11_takeIn, gTs_t (tb_5 (List.mem_of_getElem? (i := 77) rfl)) rfl⟩
theorem mt_X11_note : gMth yX11_note cX11_note 7 (some .int) 5 := ⟨gTs_t (tb_5 (List.mem_of_getElem? (i := 82) rfl)) rfl, wI_X11, by decide +kernel, by decide +kernel, by decide +kernel⟩
theorem mi_X11_note : Cond.instanceMethod yX11_note ∈ gTs := gTs_t (tb_5 (List.mem_of_getElem? (i := 80) rfl)) rfl
theorem mm_X11_note : gMi yX11_note cX11_note 7 (some .int) 5 := ⟨mt_X11_note, mi_X11_note, gTs_t (tb_5 (List.mem_of_getElem? (i := 81) rfl)) rfl⟩
theorem mt_X11_forget : gMth yX11_forget cX11_forget 2 (some .int) 0 := ⟨gTs_t (tb_5 (List.mem_of_getElem? (i := 88) rfl)) rfl, wI_X11, by decide +kernel, by decide +kernel, by decide +kernel⟩
theorem mi_X11_forget : Cond.instanceMethod yX11_forget ∈ gTs := gTs_t (tb_5 (List.mem_of_getElem? (i := 86) rfl)) rfl
theorem mm_X11_forget : gMi yX11_forget cX11_forget 2 (some .int) 0 := ⟨mt_X11_forget, mi_X11_forget, gTs_t (tb_5 (List.mem_of_getElem? (i := 87) rfl)) rfl⟩
theorem mt_X11_wants : gMth yX11_wants cX11_wants 2 (some .int) 1 := ⟨gTs_t (tb_5 (List.mem_of_getElem? (i := 92) rfl)) rfl, wI_X11, by decide +kernel, by decide +kernel, by decide +kernel⟩
theorem mi_X11_wants : Cond.instanceMethod yX11_wants ∈ gTs := gTs_t (tb_5 (List.mem_of_getElem? (i := 90) rfl)) rfl
theorem mm_X11_wants : gMi yX11_wants cX11_wants 2 (some .int) 1 := ⟨mt_X11_wants, mi_X11_wants, gTs_t (tb_5 (List.mem_of_getElem? (i := 91) rfl)) rfl⟩
theorem mt_X11_wantsBy : gMth yX11_wantsBy cX11_wantsBy 9 (some .int) 2 := ⟨gTs_t (tb_5 (List.mem_of_getElem? (i := 96) rfl)) rfl, wI_X11, by decide +kernel, by decide +kernel, by decide +kernel⟩
theorem mi_X11_wantsBy : Cond.instanceMethod yX11_wantsBy ∈ gTs := gTs_t (tb_5 (List.mem_of_getElem? (i := 95) rfl)) rfl
theorem mm_X11_wantsBy : gMi yX11_wantsBy cX11_wantsBy 9 (some .int) 2 := ⟨mt_X11_wantsBy, mi_X11_wantsBy, gTs_p (q := (yX11_wantsBy, 28)) (List.mem_of_getElem? (i := 53) (by decide +kernel)) (by decide +kernel)⟩
theorem mt_X11_is : gMth yX11_is cX11_is 4 (some .int) 1 := ⟨gTs_t (tb_5 (List.mem_of_getElem? (i := 100) rfl)) rfl, wI_X11, by decide +kernel, by decide +kernel, by decide +kernel⟩
theorem mi_X11_is : Cond.instanceMethod yX11_is ∈ gTs := gTs_t (tb_5 (List.mem_of_getElem? (i := 98) rfl)) rfl
theorem mm_X11_is : gMi yX11_is cX11_is 4 (some .int) 1 := ⟨mt_X11_is, mi_X11_is, gTs_t (tb_5 (List.mem_of_getElem? (i := 99) rfl)) rfl⟩
theorem mt_X11_next : gMth yX11_next cX11_next 9 (some .int) 1 := ⟨gTs_t (tb_5 (List.mem_of_getElem? (i := 104) rfl)) rfl, wI_X11, by decide +kernel, by decide +kernel, by decide +kernel⟩
theorem mi_X11_next : Cond.instanceMethod yX11_next ∈ gTs := gTs_t (tb_5 (List.mem_of_getElem? (i := 102) rfl)) rfl
theorem mm_X11_next : gMi yX11_next cX11_next 9 (some .int) 1 := ⟨mt_X11_next, mi_X11_next, gTs_t (tb_5 (List.mem_of_getElem? (i := 103) rfl)) rfl⟩
theorem mt_X11_tips : gMth yX11_tips cX11_tips 4 (some .int) 2 := ⟨gTs_t (tb_5 (List.mem_of_getElem? (i := 108) rfl)) rfl, wI_X11, by decide +kernel, by decide +kernel, by decide +kernel⟩
theorem mi_X11_tips : Cond.instanceMethod yX11_tips ∈ gTs := gTs_t (tb_5 (List.mem_of_getElem? (i := 106) rfl)) rfl
theorem mm_X11_tips : gMi yX11_tips cX11_tips 4 (some .int) 2 := ⟨mt_X11_tips, mi_X11_tips, gTs_t (tb_5 (List.mem_of_getElem? (i := 107) rfl)) rfl⟩
theorem mt_X11_putAside : gMth yX11_putAside cX11_putAside 2 none 0 := ⟨gTs_t (tb_5 (List.mem_of_getElem? (i := 112) rfl)) rfl, wI_X11, by decide +kernel, by decide +kernel, by decide +kernel⟩
theorem mi_X11_putAside : Cond.instanceMethod yX11_putAside ∈ gTs := gTs_t (tb_5 (List.mem_of_getElem? (i := 111) rfl)) rfl
theorem mm_X11_putAside : gMi yX11_putAside cX11_putAside 2 none 0 := ⟨mt_X11_putAside, mi_X11_putAside, gTs_p (q := (yX11_putAside, 28)) (List.mem_of_getElem? (i := 54) (by decide +kernel)) (by decide +kernel)⟩
theorem mt_X11_takeBack : gMth yX11_takeBack cX11_takeBack 2 none 0 := ⟨gTs_t (tb_5 (List.mem_of_getElem? (i := 116) rfl)) rfl, wI_X11, by decide +kernel, by decide +kernel, by decide +kernel⟩
theorem mi_X11_takeBack : Cond.instanceMethod yX11_takeBack ∈ gTs := gTs_t (tb_5 (List.mem_of_getElem? (i := 115) rfl)) rfl
theorem mm_X11_takeBack : gMi yX11_takeBack cX11_takeBack 2 none 0 := ⟨mt_X11_takeBack, mi_X11_takeBack, gTs_p (q := (yX11_takeBack, 28)) (List.mem_of_getElem? (i := 55) (by decide +kernel)) (by decide +kernel)⟩
theorem mt_X11_moods : gMth yX11_moods cX11_moods 12 (some .int) 1 := ⟨gTs_t (tb_5 (List.mem_of_getElem? (i := 120) rfl)) rfl, wI_X11, by decide +kernel, by decide +kernel, by decide +kernel⟩
theorem mi_X11_moods : Cond.instanceMethod yX11_moods ∈ gTs := gTs_t (tb_5 (List.mem_of_getElem? (i := 118) rfl)) rfl
theorem mm_X11_moods : gMi yX11_moods cX11_moods 12 (some .int) 1 := ⟨mt_X11_moods, mi_X11_moods, gTs_t (tb_5 (List.mem_of_getElem? (i := 119) rfl)) rfl⟩
theorem mt_X11_servedMany : gMth yX11_servedMany cX11_servedMany 3 (some .int) 0 := ⟨gTs_t (tb_5 (List.mem_of_getElem? (i := 125) rfl)) rfl, wI_X11, by decide +kernel, by decide +kernel, by decide +kernel⟩
theorem mi_X11_servedMany : Cond.instanceMethod yX11_servedMany ∈ gTs := gTs_t (tb_5 (List.mem_of_getElem? (i := 124) rfl)) rfl
theorem mm_X11_servedMany : gMi yX11_servedMany cX11_servedMany 3 (some .int) 0 := ⟨mt_X11_servedMany, mi_X11_servedMany, gTs_p (q := (yX11_servedMany, 28)) (List.mem_of_getElem? (i := 56) (by decide +kernel)) (by decide +kernel)⟩
theorem mt_X11_hours : gMth yX11_hours cX11_hours 8 (some .int) 2 := ⟨gTs_t (tb_5 (List.mem_of_getElem? (i := 129) rfl)) rfl, wI_X11, by decide +kernel, by decide +kernel, by decide +kernel⟩
theorem mi_X11_hours : Cond.instanceMethod yX11_hours ∈ gTs := gTs_t (tb_5 (List.mem_of_getElem? (i := 127) rfl)) rfl
theorem mm_X11_hours : gMi yX11_hours cX11_hours 8 (some .int) 2 := ⟨mt_X11_hours, mi_X11_hours, gTs_t (tb_5 (List.mem_of_getElem? (i := 128) rfl)) rfl⟩
theorem mt_X11_part : gMth yX11_part cX11_part 2 (some .long) 1 := ⟨gTs_t (tb_5 (List.mem_of_getElem? (i := 139) rfl)) rfl, wI_X11, by decide +kernel, by decide +kernel, by decide +kernel⟩
theorem mi_X11_part : Cond.instanceMethod yX11_part ∈ gTs := gTs_t (tb_5 (List.mem_of_getElem? (i := 137) rfl)) rfl
theorem mm_X11_part : gMi yX11_part cX11_part 2 (some .long) 1 := ⟨mt_X11_part, mi_X11_part, gTs_t (tb_5 (List.mem_of_getElem? (i := 138) rfl)) rfl⟩
theorem mt_X11_image : gMth yX11_image cX11_image 3 (some .int) 1 := ⟨gTs_t (tb_5 (List.mem_of_getElem? (i := 143) rfl)) rfl, wI_X11, by decide +kernel, by decide +kernel, by decide +kernel⟩
theorem mi_X11_image : Cond.instanceMethod yX11_image ∈ gTs := gTs_t (tb_5 (List.mem_of_getElem? (i := 141) rfl)) rfl
theorem mm_X11_image : gMi yX11_image cX11_image 3 (some .int) 1 := ⟨mt_X11_image, mi_X11_image, gTs_t (tb_5 (List.mem_of_getElem? (i := 142) rfl)) rfl⟩
theorem mt_X11_from : gMth yX11_from cX11_from 3 (some .int) 1 := ⟨gTs_t (tb_5 (List.mem_of_getElem? (i := 147) rfl)) rfl, wI_X11, by decide +kernel, by decide +kernel, by decide +kernel⟩
theorem mi_X11_from : Cond.instanceMethod yX11_from ∈ gTs := gTs_t (tb_5 (List.mem_of_getElem? (i := 145) rfl)) rfl
theorem mm_X11_from : gMi yX11_from cX11_from 3 (some .int) 1 := ⟨mt_X11_from, mi_X11_from, gTs_t (tb_5 (List.mem_of_getElem? (i := 146) rfl)) rfl⟩
theorem mt_X11_status : gMth yX11_status cX11_status 2 (some .int) 1 := ⟨gTs_t (tb_5 (List.mem_of_getElem? (i := 151) rfl)) rfl, wI_X11, by decide +kernel, by decide +kernel, by decide +kernel⟩
theorem mi_X11_status : Cond.instanceMethod yX11_status ∈ gTs := gTs_t (tb_5 (List.mem_of_getElem? (i := 149) rfl)) rfl
theorem mm_X11_status : gMi yX11_status cX11_status 2 (some .int) 1 := ⟨mt_X11_status, mi_X11_status, gTs_t (tb_5 (List.mem_of_getElem? (i := 150) rfl)) rfl⟩
theorem mt_X11_count : gMth yX11_count cX11_count 2 (some .int) 1 := ⟨gTs_t (tb_5 (List.mem_of_getElem? (i := 156) rfl)) rfl, wI_X11, by decide +kernel, by decide +kernel, by decide +kernel⟩
theorem mi_X11_count : Cond.instanceMethod yX11_count ∈ gTs := gTs_t (tb_5 (List.mem_of_getElem? (i := 154) rfl)) rfl
theorem mm_X11_count : gMi yX11_count cX11_count 2 (some .int) 1 := ⟨mt_X11_count, mi_X11_count, gTs_t (tb_5 (List.mem_of_getElem? (i := 155) rfl)) rfl⟩
theorem mt_X11_countOf : gMth yX11_countOf cX11_countOf 2 (some .int) 1 := ⟨gTs_t (tb_5 (List.mem_of_getElem? (i := 160) rfl)) rfl, wI_X11, by decide +kernel, by decide +kernel, by decide +kernel⟩
theorem mi_X11_countOf : Cond.instanceMethod yX11_countOf ∈ gTs := gTs_t (tb_5 (List.mem_of_getElem? (i := 159) rfl)) rfl
theorem mm_X11_countOf : gMi yX11_countOf cX11_countOf 2 (some .int) 1 := ⟨mt_X11_countOf, mi_X11_countOf, gTs_p (q := (yX11_countOf, 28)) (List.mem_of_getElem? (i := 57) (by decide +kernel)) (by decide +kernel)⟩
theorem mt_X11_digest : gMth yX11_digest cX11_digest 4 (some .long) 0 := ⟨gTs_t (tb_5 (List.mem_of_getElem? (i := 164) rfl)) rfl, wI_X11, by decide +kernel, by decide +kernel, by decide +kernel⟩
theorem mi_X11_digest : Cond.instanceMethod yX11_digest ∈ gTs := gTs_t (tb_5 (List.mem_of_getElem? (i := 162) rfl)) rfl
theorem mm_X11_digest : gMi yX11_digest cX11_digest 4 (some .long) 0 := ⟨mt_X11_digest, mi_X11_digest, gTs_t (tb_5 (List.mem_of_getElem? (i := 163) rfl)) rfl⟩
theorem in_X0 : ∀ w ∈ u_ws RX0 TX0 0, w ∈ gTs := by decide +kernel
theorem in_X1 : ∀ w ∈ u_ws RX1 TX1 16, w ∈ gTs := by decide +kernel
theorem in_X2 : ∀ w ∈ u_ws RX2 TX2 0, w ∈ gTs := by decide +kernel
theorem in_X3 : ∀ w ∈ u_ws RX3 TX3 2, w ∈ gTs := by decide +kernel
theorem in_X4 : ∀ w ∈ u_ws RX4 TX4 0, w ∈ gTs := by decide +kernel
theorem in_X5 : ∀ w ∈ u_ws RX5 TX5 0, w ∈ gTs := by decide +kernel
theorem in_X6 : ∀ w ∈ u_ws RX6 TX6 0, w ∈ gTs := by decide +kernel
theorem in_X7 : ∀ w ∈ u_ws RX7 TX7 5, w ∈ gTs := by decide +kernel
theorem in_X8 : ∀ w ∈ u_ws RX8 TX8 0, w ∈ gTs := by decide +kernel
theorem in_X9 : ∀ w ∈ u_ws RX9 TX9 6, w ∈ gTs := by decide +kernel
theorem in_X10 : ∀ w ∈ u_ws RX10 TX10 9, w ∈ gTs := by decide +kernel
theorem in_X11 : ∀ w ∈ u_ws RX11 TX11 28, w ∈ gTs := by decide +kernel
theorem wcopy : Cond.native arraycopyName ∈ gTs ∧ Cond.static arraycopyName ∈ gTs ∧ Cond.initialized "java/lang/System" ∈ gTs := ⟨gTs_t (tb_2 (List.mem_of_getElem? (i := 43) rfl)) rfl, gTs_t (tb_2 (List.mem_of_getElem? (i := 42) rfl)) rfl, wI_J10⟩
end
section
section GFL
variable {X : gX} {Y : gY} {cc : ByteArray} {nL fr lo pc : Nat} {lv : List (Nat × Value)} {st : List Value} {M : gMem}
theorem gf_X10_9 (hC : gC X Y cc "GuestStaff" nL fr lo) (hd : decode cc pc = .ok (.getfield 9, 3)) (kk : gWW X Y nL (pc + 3) lv (.ref (gad Y 0 35) :: st) M) : gWW X Y nL pc lv (.ref (gad Y 0 34) :: st) M := q_get (k := 3) hC (gV_t (by decide) (by decide)) rfl rfl in_X10 (by decide) wF_X10_9 rfl hd kk
theorem gf_X10_16 (hC : gC X Y cc "GuestStaff" nL fr lo) (hd : decode cc pc = .ok (.getfield 16, 3)) (kk : gWW X Y nL (pc + 3) lv (.ref (gad Y 0 36) :: st) M) : gWW X Y nL pc lv (.ref (gad Y 0 34) :: st) M := q_get (k := 4) hC (gV_t (by decide) (by decide)) rfl rfl in_X10 (by decide) wF_X10_16 rfl hd kk
theorem gf_X10_23 (hC : gC X Y cc "GuestStaff" nL fr lo) (hd : decode cc pc = .ok (.getfield 23, 3)) (kk : gWW X Y nL (pc + 3) lv (.ref (gad Y 0 38) :: st) M) : gWW X Y nL pc lv (.ref (gad Y 0 34) :: st) M := q_get (k := 5) hC (gV_t (by decide) (by decide)) rfl rfl in_X10 (by decide) wF_X10_23 rfl hd kk
theorem gf_X10_27 (hC : gC X Y cc "GuestStaff" nL fr lo) (hd : decode cc pc = .ok (.getfield 27, 3)) (kk : gWW X Y nL (pc + 3) lv (.ref (gad Y 0 50) :: st) M) : gWW X Y nL pc lv (.ref (gad Y 0 34) :: st) M := q_get (k := 6) hC (gV_t (by decide) (by decide)) rfl rfl in_X10 (by decide) wF_X10_27 rfl hd kk
theorem gf_X10_31 (hC : gC X Y cc "GuestStaff" nL fr lo) (hd : decode cc pc = .ok (.getfield 31, 3)) (kk : gWW X Y nL (pc + 3) lv (.long (M.2 34 7) :: st) M) : gWW X Y nL pc lv (.ref (gad Y 0 34) :: st) M := q_get (k := 7) hC (gV_t (by decide) (by decide)) rfl rfl in_X10 (by decide) wF_X10_31 rfl hd kk
theorem pf_X10_31 (hC : gC X Y cc "GuestStaff" nL fr lo) {x : Int64} (hd : decode cc pc = .ok (.putfield 31, 3)) (kk : gWW X Y nL (pc + 3) lv st (gwl M 34 7 x)) : gWW X Y nL pc lv (.long x :: .ref (gad Y 0 34) :: st) M := q_put (k := 7) hC (gwl M 34 7 x) (gV_t (by decide) (by decide)) rfl rfl in_X10 tyX10_ok nmX10 (by decide) wF_X10_31 rfl (tyX10_ok 7 (by decide)) rfl rfl (Nat.le_of_ble_eq_true rfl) rfl (gwl_ne (by decide)) hd kk
theorem gf_X10_35 (hC : gC X Y cc "GuestStaff" nL fr lo) (hd : decode cc pc = .ok (.getfield 35, 3)) (kk : gWW X Y nL (pc + 3) lv (.long (M.2 34 8) :: st) M) : gWW X Y nL pc lv (.ref (gad Y 0 34) :: st) M := q_get (k := 8) hC (gV_t (by decide) (by decide)) rfl rfl in_X10 (by decide) wF_X10_35 rfl hd kk
theorem pf_X10_35 (hC : gC X Y cc "GuestStaff" nL fr lo) {x : Int64} (hd : decode cc pc = .ok (.putfield 35, 3)) (kk : gWW X Y nL (pc + 3) lv st (gwl M 34 8 x)) : gWW X Y nL pc lv (.long x :: .ref (gad Y 0 34) :: st) M := q_put (k := 8) hC (gwl M 34 8 x) (gV_t (by decide) (by decide)) rfl rfl in_X10 tyX10_ok nmX10 (by decide) wF_X10_35 rfl (tyX10_ok 8 (by decide)) rfl rfl (Nat.le_of_ble_eq_true rfl) rfl (gwl_ne (by decide)) hd kk
theorem gf_X10_61 (hC : gC X Y cc "GuestStaff" nL fr lo) (hd : decode cc pc = .ok (.getfield 61, 3)) (kk : gWW X Y nL (pc + 3) lv (.ref (gad Y 0 0) :: st) M) : gWW X Y nL pc lv (.ref (gad Y 0 34) :: st) M := q_get (k := 0) hC (gV_t (by decide) (by decide)) rfl rfl in_X10 (by decide) wF_X10_61 rfl hd kk
theorem gf_X10_65 (hC : gC X Y cc "GuestStaff" nL fr lo) (hd : decode cc pc = .ok (.getfield 65, 3)) (kk : gWW X Y nL (pc + 3) lv (.ref (gad Y 1 0) :: st) M) : gWW X Y nL pc lv (.ref (gad Y 0 34) :: st) M := q_get (k := 1) hC (gV_t (by decide) (by decide)) rfl rfl in_X10 (by decide) wF_X10_65 rfl hd kk
theorem gf_X10_68 (hC : gC X Y cc "GuestStaff" nL fr lo) (hd : decode cc pc = .ok (.getfield 68, 3)) (kk : gWW X Y nL (pc + 3) lv (.ref (gad Y 0 58) :: st) M) : gWW X Y nL pc lv (.ref (gad Y 0 34) :: st) M := q_get (k := 2) hC (gV_t (by decide) (by decide)) rfl rfl in_X10 (by decide) wF_X10_68 rfl hd kk
theorem gf_X10_72 (hC : gC X Y cc "GuestStaff" nL fr lo) {c : Nat} (hc : c < 4) (hd : decode cc pc = .ok (.getfield 72, 3)) (kk : gWW X Y nL (pc + 3) lv (.int (M.1 c 0 13) :: st) M) : gWW X Y nL pc lv (.ref (gad Y c 0) :: st) M := q_getN (k := 13) hC (gV_h hc (by decide)) rfl rfl in_X1 (by decide) wN_X10_72 rfl hd kk
theorem gf_X10_99 (hC : gC X Y cc "GuestStaff" nL fr lo) {c : Nat} (hc : c < 4) (hd : decode cc pc = .ok (.getfield 99, 3)) (kk : gWW X Y nL (pc + 3) lv (.ref (gad Y c 4) :: st) M) : gWW X Y nL pc lv (.ref (gad Y c 0) :: st) M := q_getN (k := 4) hC (gV_h hc (by decide)) rfl rfl in_X1 (by decide) wN_X10_99 rfl hd kk
theorem gf_X10_105 (hC : gC X Y cc "GuestStaff" nL fr lo) (hd : decode cc pc = .ok (.getfield 105, 3)) (kk : gWW X Y nL (pc + 3) lv (.int (M.1 0 36 1) :: st) M) : gWW X Y nL pc lv (.ref (gad Y 0 36) :: st) M := q_getN (k := 1) hC (gV_t (by decide) (by decide)) rfl rfl in_X9 (by decide) wN_X10_105 rfl hd kk
theorem pf_X10_105 (hC : gC X Y cc "GuestStaff" nL fr lo) {x : Int32} (hd : decode cc pc = .ok (.putfield 105, 3)) (kk : gWW X Y nL (pc + 3) lv st (gwr M 0 36 1 x)) : gWW X Y nL pc lv (.int x :: .ref (gad Y 0 36) :: st) M := q_putN (k := 1) hC (gwr M 0 36 1 x) (gV_t (by decide) (by decide)) rfl rfl in_X9 tyX9_ok nmX9 (by decide) wN_X10_105 rfl (tyX9_ok 1 (by decide)) rfl rfl (Nat.le_of_ble_eq_true rfl) (by show gce Y ((gup M 0 36 _).1 0 36) _ 0 36 = _; rw [gup_at]; rfl) gup_ne hd kk
theorem gf_X10_115 (hC : gC X Y cc "GuestStaff" nL fr lo) (hd : decode cc pc = .ok (.getfield 115, 3)) (kk : gWW X Y nL (pc + 3) lv (.int (M.1 0 36 2) :: st) M) : gWW X Y nL pc lv (.ref (gad Y 0 36) :: st) M := q_getN (k := 2) hC (gV_t (by decide) (by decide)) rfl rfl in_X9 (by decide) wN_X10_115 rfl hd kk
theorem gf_X10_125 (hC : gC X Y cc "GuestStaff" nL fr lo) {c : Nat} (hc : c < 4) (hd : decode cc pc = .ok (.getfield 125, 3)) (kk : gWW X Y nL (pc + 3) lv (.int (M.1 c 0 15) :: st) M) : gWW X Y nL pc lv (.ref (gad Y c 0) :: st) M := q_getN (k := 15) hC (gV_h hc (by decide)) rfl rfl in_X1 (by decide) wN_X10_125 rfl hd kk
theorem gf_X10_128 (hC : gC X Y cc "GuestStaff" nL fr lo) {c : Nat} (hc : c < 4) (hd : decode cc pc = .ok (.getfield 128, 3)) (kk : gWW X Y nL (pc + 3) lv (.int (M.1 c 0 12) :: st) M) : gWW X Y nL pc lv (.ref (gad Y c 0) :: st) M := q_getN (k := 12) hC (gV_h hc (by decide)) rfl rfl in_X1 (by decide) wN_X10_128 rfl hd kk
theorem gf_X10_137 (hC : gC X Y cc "GuestStaff" nL fr lo) {c : Nat} (hc : c < 4) (hd : decode cc pc = .ok (.getfield 137, 3)) (kk : gWW X Y nL (pc + 3) lv (.int (M.1 c 0 14) :: st) M) : gWW X Y nL pc lv (.ref (gad Y c 0) :: st) M := q_getN (k := 14) hC (gV_h hc (by decide)) rfl rfl in_X1 (by decide) wN_X10_137 rfl hd kk
theorem gf_X10_140 (hC : gC X Y cc "GuestStaff" nL fr lo) {c : Nat} (hc : c < 4) (hd : decode cc pc = .ok (.getfield 140, 3)) (kk : gWW X Y nL (pc + 3) lv (.ref (gad Y c 1) :: st) M) : gWW X Y nL pc lv (.ref (gad Y c 0) :: st) M := q_getN (k := 1) hC (gV_h hc (by decide)) rfl rfl in_X1 (by decide) wN_X10_140 rfl hd kk
theorem gf_X10_143 (hC : gC X Y cc "GuestStaff" nL fr lo) {c : Nat} (hc : c < 4) (hd : decode cc pc = .ok (.getfield 143, 3)) (kk : gWW X Y nL (pc + 3) lv (.ref (gad Y c 2) :: st) M) : gWW X Y nL pc lv (.ref (gad Y c 0) :: st) M := q_getN (k := 2) hC (gV_h hc (by decide)) rfl rfl in_X1 (by decide) wN_X10_143 rfl hd kk
theorem gf_X10_146 (hC : gC X Y cc "GuestStaff" nL fr lo) {c : Nat} (hc : c < 4) (hd : decode cc pc = .ok (.getfield 146, 3)) (kk : gWW X Y nL (pc + 3) lv (.ref (gad Y c 3) :: st) M) : gWW X Y nL pc lv (.ref (gad Y c 0) :: st) M := q_getN (k := 3) hC (gV_h hc (by decide)) rfl rfl in_X1 (by decide) wN_X10_146 rfl hd kk
theorem gf_X10_149 (hC : gC X Y cc "GuestStaff" nL fr lo) {c : Nat} (hc : c < 4) (hd : decode cc pc = .ok (.getfield 149, 3)) (kk : gWW X Y nL (pc + 3) lv (.ref (gad Y c 5) :: st) M) : gWW X Y nL pc lv (.ref (gad Y c 0) :: st) M := q_getN (k := 5) hC (gV_h hc (by decide)) rfl rfl in_X1 (by decide) wN_X10_149 rfl hd kk
theorem gf_X10_197 (hC : gC X Y cc "GuestStaff" nL fr lo) {c : Nat} (hc : c < 4) (hd : decode cc pc = .ok (.getfield 197, 3)) (kk : gWW X Y nL (pc + 3) lv (.ref (gad Y c 6) :: st) M) : gWW X Y nL pc lv (.ref (gad Y c 0) :: st) M := q_getN (k := 6) hC (gV_h hc (by decide)) rfl rfl in_X1 (by decide) wN_X10_197 rfl hd kk
theorem gf_X10_201 (hC : gC X Y cc "GuestStaff" nL fr lo) {c : Nat} (hc : c < 4) (hd : decode cc pc = .ok (.getfield 201, 3)) (kk : gWW X Y nL (pc + 3) lv (.int (M.1 c 6 1) :: st) M) : gWW X Y nL pc lv (.ref (gad Y c 6) :: st) M := q_getN (k := 1) hC (gV_h hc (by decide)) rfl rfl in_X3 (by decide) wN_X10_201 rfl hd kk
theorem pf_X10_201 (hC : gC X Y cc "GuestStaff" nL fr lo) {c : Nat} (hc : c < 4) {x : Int32} (hd : decode cc pc = .ok (.putfield 201, 3)) (kk : gWW X Y nL (pc + 3) lv st (gwr M c 6 1 x)) : gWW X Y nL pc lv (.int x :: .ref (gad Y c 6) :: st) M := q_putN (k := 1) hC (gwr M c 6 1 x) (gV_h hc (by decide)) rfl rfl in_X3 tyX3_ok nmX3 (by decide) wN_X10_201 rfl (tyX3_ok 1 (by decide)) rfl rfl (Nat.le_of_ble_eq_true rfl) (by show gce Y ((gup M c 6 _).1 c 6) _ c 6 = _; rw [gup_at]; rfl) gup_ne hd kk
theorem gf_X1_9 (hC : gC X Y cc "GuestStaff$House" nL fr lo) {c : Nat} (hc : c < 4) (hd : decode cc pc = .ok (.getfield 9, 3)) (kk : gWW X Y nL (pc + 3) lv (.ref (gad Y c 1) :: st) M) : gWW X Y nL pc lv (.ref (gad Y c 0) :: st) M := q_get (k := 1) hC (gV_h hc (by decide)) rfl rfl in_X1 (by decide) wF_X1_9 rfl hd kk
theorem gf_X1_15 (hC : gC X Y cc "GuestStaff$House" nL fr lo) {c : Nat} (hc : c < 4) (hd : decode cc pc = .ok (.getfield 15, 3)) (kk : gWW X Y nL (pc + 3) lv (.ref (gad Y c 2) :: st) M) : gWW X Y nL pc lv (.ref (gad Y c 0) :: st) M := q_get (k := 2) hC (gV_h hc (by decide)) rfl rfl in_X1 (by decide) wF_X1_15 rfl hd kk
theorem gf_X1_18 (hC : gC X Y cc "GuestStaff$House" nL fr lo) {c : Nat} (hc : c < 4) (hd : decode cc pc = .ok (.getfield 18, 3)) (kk : gWW X Y nL (pc + 3) lv (.ref (gad Y c 3) :: st) M) : gWW X Y nL pc lv (.ref (gad Y c 0) :: st) M := q_get (k := 3) hC (gV_h hc (by decide)) rfl rfl in_X1 (by decide) wF_X1_18 rfl hd kk
theorem gf_X1_21 (hC : gC X Y cc "GuestStaff$House" nL fr lo) {c : Nat} (hc : c < 4) (hd : decode cc pc = .ok (.getfield 21, 3)) (kk : gWW X Y nL (pc + 3) lv (.ref (gad Y c 4) :: st) M) : gWW X Y nL pc lv (.ref (gad Y c 0) :: st) M := q_get (k := 4) hC (gV_h hc (by decide)) rfl rfl in_X1 (by decide) wF_X1_21 rfl hd kk
theorem gf_X1_24 (hC : gC X Y cc "GuestStaff$House" nL fr lo) {c : Nat} (hc : c < 4) (hd : decode cc pc = .ok (.getfield 24, 3)) (kk : gWW X Y nL (pc + 3) lv (.ref (gad Y c 5) :: st) M) : gWW X Y nL pc lv (.ref (gad Y c 0) :: st) M := q_get (k := 5) hC (gV_h hc (by decide)) rfl rfl in_X1 (by decide) wF_X1_24 rfl hd kk
theorem gf_X1_30 (hC : gC X Y cc "GuestStaff$House" nL fr lo) {c : Nat} (hc : c < 4) (hd : decode cc pc = .ok (.getfield 30, 3)) (kk : gWW X Y nL (pc + 3) lv (.ref (gad Y c 6) :: st) M) : gWW X Y nL pc lv (.ref (gad Y c 0) :: st) M := q_get (k := 6) hC (gV_h hc (by decide)) rfl rfl in_X1 (by decide) wF_X1_30 rfl hd kk
theorem gf_X1_36 (hC : gC X Y cc "GuestStaff$House" nL fr lo) {c : Nat} (hc : c < 4) (hd : decode cc pc = .ok (.getfield 36, 3)) (kk : gWW X Y nL (pc + 3) lv (.ref (gad Y c 14) :: st) M) : gWW X Y nL pc lv (.ref (gad Y c 0) :: st) M := q_get (k := 7) hC (gV_h hc (by decide)) rfl rfl in_X1 (by decide) wF_X1_36 rfl hd kk
theorem gf_X1_39 (hC : gC X Y cc "GuestStaff$House" nL fr lo) {c : Nat} (hc : c < 4) (hd : decode cc pc = .ok (.getfield 39, 3)) (kk : gWW X Y nL (pc + 3) lv (.ref (gad Y c 23) :: st) M) : gWW X Y nL pc lv (.ref (gad Y c 0) :: st) M := q_get (k := 8) hC (gV_h hc (by decide)) rfl rfl in_X1 (by decide) wF_X1_39 rfl hd kk
theorem gf_X1_42 (hC : gC X Y cc "GuestStaff$House" nL fr lo) {c : Nat} (hc : c < 4) (hd : decode cc pc = .ok (.getfield 42, 3)) (kk : gWW X Y nL (pc + 3) lv (.ref (gad Y c 32) :: st) M) : gWW X Y nL pc lv (.ref (gad Y c 0) :: st) M := q_get (k := 9) hC (gV_h hc (by decide)) rfl rfl in_X1 (by decide) wF_X1_42 rfl hd kk
theorem gf_X1_45 (hC : gC X Y cc "GuestStaff$House" nL fr lo) {c : Nat} (hc : c < 4) (hd : decode cc pc = .ok (.getfield 45, 3)) (kk : gWW X Y nL (pc + 3) lv (.ref (gad Y c 33) :: st) M) : gWW X Y nL pc lv (.ref (gad Y c 0) :: st) M := q_get (k := 10) hC (gV_h hc (by decide)) rfl rfl in_X1 (by decide) wF_X1_45 rfl hd kk
theorem gf_X1_48 (hC : gC X Y cc "GuestStaff$House" nL fr lo) {c : Nat} (hc : c < 4) (hd : decode cc pc = .ok (.getfield 48, 3)) (kk : gWW X Y nL (pc + 3) lv (.int (M.1 c 0 11) :: st) M) : gWW X Y nL pc lv (.ref (gad Y c 0) :: st) M := q_get (k := 11) hC (gV_h hc (by decide)) rfl rfl in_X1 (by decide) wF_X1_48 rfl hd kk
theorem pf_X1_48 (hC : gC X Y cc "GuestStaff$House" nL fr lo) {c : Nat} (hc : c < 4) {x : Int32} (hd : decode cc pc = .ok (.putfield 48, 3)) (kk : gWW X Y nL (pc + 3) lv st (gwr M c 0 11 x)) : gWW X Y nL pc lv (.int x :: .ref (gad Y c 0) :: st) M := q_put (k := 11) hC (gwr M c 0 11 x) (gV_h hc (by decide)) rfl rfl in_X1 tyX1_ok nmX1 (by decide) wF_X1_48 rfl (tyX1_ok 11 (by decide)) rfl rfl (Nat.le_of_ble_eq_true rfl) (by show gce Y ((gup M c 0 _).1 c 0) _ c 0 = _; rw [gup_at]; rfl) gup_ne hd kk
theorem gf_X1_52 (hC : gC X Y cc "GuestStaff$House" nL fr lo) {c : Nat} (hc : c < 4) (hd : decode cc pc = .ok (.getfield 52, 3)) (kk : gWW X Y nL (pc + 3) lv (.int (M.1 c 0 12) :: st) M) : gWW X Y nL pc lv (.ref (gad Y c 0) :: st) M := q_get (k := 12) hC (gV_h hc (by decide)) rfl rfl in_X1 (by decide) wF_X1_52 rfl hd kk
theorem pf_X1_52 (hC : gC X Y cc "GuestStaff$House" nL fr lo) {c : Nat} (hc : c < 4) {x : Int32} (hd : decode cc pc = .ok (.putfield 52, 3)) (kk : gWW X Y nL (pc + 3) lv st (gwr M c 0 12 x)) : gWW X Y nL pc lv (.int x :: .ref (gad Y c 0) :: st) M := q_put (k := 12) hC (gwr M c 0 12 x) (gV_h hc (by decide)) rfl rfl in_X1 tyX1_ok nmX1 (by decide) wF_X1_52 rfl (tyX1_ok 12 (by decide)) rfl rfl (Nat.le_of_ble_eq_true rfl) (by show gce Y ((gup M c 0 _).1 c 0) _ c 0 = _; rw [gup_at]; rfl) gup_ne hd kk
theorem gf_X1_55 (hC : gC X Y cc "GuestStaff$House" nL fr lo) {c : Nat} (hc : c < 4) (hd : decode cc pc = .ok (.getfield 55, 3)) (kk : gWW X Y nL (pc + 3) lv (.int (M.1 c 0 13) :: st) M) : gWW X Y nL pc lv (.ref (gad Y c 0) :: st) M := q_get (k := 13) hC (gV_h hc (by decide)) rfl rfl in_X1 (by decide) wF_X1_55 rfl hd kk
theorem pf_X1_55 (hC : gC X Y cc "GuestStaff$House" nL fr lo) {c : Nat} (hc : c < 4) {x : Int32} (hd : decode cc pc = .ok (.putfield 55, 3)) (kk : gWW X Y nL (pc + 3) lv st (gwr M c 0 13 x)) : gWW X Y nL pc lv (.int x :: .ref (gad Y c 0) :: st) M := q_put (k := 13) hC (gwr M c 0 13 x) (gV_h hc (by decide)) rfl rfl in_X1 tyX1_ok nmX1 (by decide) wF_X1_55 rfl (tyX1_ok 13 (by decide)) rfl rfl (Nat.le_of_ble_eq_true rfl) (by show gce Y ((gup M c 0 _).1 c 0) _ c 0 = _; rw [gup_at]; rfl) gup_ne hd kk
theorem gf_X1_58 (hC : gC X Y cc "GuestStaff$House" nL fr lo) {c : Nat} (hc : c < 4) (hd : decode cc pc = .ok (.getfield 58, 3)) (kk : gWW X Y nL (pc + 3) lv (.int (M.1 c 0 14) :: st) M) : gWW X Y nL pc lv (.ref (gad Y c 0) :: st) M := q_get (k := 14) hC (gV_h hc (by decide)) rfl rfl in_X1 (by decide) wF_X1_58 rfl hd kk
theorem pf_X1_58 (hC : gC X Y cc "GuestStaff$House" nL fr lo) {c : Nat} (hc : c < 4) {x : Int32} (hd : decode cc pc = .ok (.putfield 58, 3)) (kk : gWW X Y nL (pc + 3) lv st (gwr M c 0 14 x)) : gWW X Y nL pc lv (.int x :: .ref (gad Y c 0) :: st) M := q_put (k := 14) hC (gwr M c 0 14 x) (gV_h hc (by decide)) rfl rfl in_X1 tyX1_ok nmX1 (by decide) wF_X1_58 rfl (tyX1_ok 14 (by decide)) rfl rfl (Nat.le_of_ble_eq_true rfl) (by show gce Y ((gup M c 0 _).1 c 0) _ c 0 = _; rw [gup_at]; rfl) gup_ne hd kk
theorem gf_X1_61 (hC : gC X Y cc "GuestStaff$House" nL fr lo) {c : Nat} (hc : c < 4) (hd : decode cc pc = .ok (.getfield 61, 3)) (kk : gWW X Y nL (pc + 3) lv (.int (M.1 c 0 15) :: st) M) : gWW X Y nL pc lv (.ref (gad Y c 0) :: st) M := q_get (k := 15) hC (gV_h hc (by decide)) rfl rfl in_X1 (by decide) wF_X1_61 rfl hd kk
theorem pf_X1_61 (hC : gC X Y cc "GuestStaff$House" nL fr lo) {c : Nat} (hc : c < 4) {x : Int32} (hd : decode cc pc = .ok (.putfield 61, 3)) (kk : gWW X Y nL (pc + 3) lv st (gwr M c 0 15 x)) : gWW X Y nL pc lv (.int x :: .ref (gad Y c 0) :: st) M := q_put (k := 15) hC (gwr M c 0 15 x) (gV_h hc (by decide)) rfl rfl in_X1 tyX1_ok nmX1 (by decide) wF_X1_61 rfl (tyX1_ok 15 (by decide)) rfl rfl (Nat.le_of_ble_eq_true rfl) (by show gce Y ((gup M c 0 _).1 c 0) _ c 0 = _; rw [gup_at]; rfl) gup_ne hd kk
theorem gf_X1_64 (hC : gC X Y cc "GuestStaff$House" nL fr lo) {c : Nat} (hc : c < 4) (hd : decode cc pc = .ok (.getfield 64, 3)) (kk : gWW X Y nL (pc + 3) lv (.ref (gad Y 0 51) :: st) M) : gWW X Y nL pc lv (.ref (gad Y c 0) :: st) M := q_get (k := 0) hC (gV_h hc (by decide)) rfl rfl in_X1 (by decide) wF_X1_64 rfl hd kk
theorem pf_X1_68 (hC : gC X Y cc "GuestStaff$House" nL fr lo) {c : Nat} (hc : c < 4) {x : Int32} (hd : decode cc pc = .ok (.putfield 68, 3)) (kk : gWW X Y nL (pc + 3) lv st (gwr M c 6 1 x)) : gWW X Y nL pc lv (.int x :: .ref (gad Y c 6) :: st) M := q_putN (k := 1) hC (gwr M c 6 1 x) (gV_h hc (by decide)) rfl rfl in_X3 tyX3_ok nmX3 (by decide) wN_X1_68 rfl (tyX3_ok 1 (by decide)) rfl rfl (Nat.le_of_ble_eq_true rfl) (by show gce Y ((gup M c 6 _).1 c 6) _ c 6 = _; rw [gup_at]; rfl) gup_ne hd kk
theorem gf_X3_13 (hC : gC X Y cc "GuestStaff$Notes" nL fr lo) {c : Nat} (hc : c < 4) (hd : decode cc pc = .ok (.getfield 13, 3)) (kk : gWW X Y nL (pc + 3) lv (.ref (gad Y c 7) :: st) M) : gWW X Y nL pc lv (.ref (gad Y c 6) :: st) M := q_get (k := 0) hC (gV_h hc (by decide)) rfl rfl in_X3 (by decide) wF_X3_13 rfl hd kk
theorem gf_X3_16 (hC : gC X Y cc "GuestStaff$Notes" nL fr lo) {c : Nat} (hc : c < 4) (hd : decode cc pc = .ok (.getfield 16, 3)) (kk : gWW X Y nL (pc + 3) lv (.int (M.1 c 6 1) :: st) M) : gWW X Y nL pc lv (.ref (gad Y c 6) :: st) M := q_get (k := 1) hC (gV_h hc (by decide)) rfl rfl in_X3 (by decide) wF_X3_16 rfl hd kk
theorem pf_X3_16 (hC : gC X Y cc "GuestStaff$Notes" nL fr lo) {c : Nat} (hc : c < 4) {x : Int32} (hd : decode cc pc = .ok (.putfield 16, 3)) (kk : gWW X Y nL (pc + 3) lv st (gwr M c 6 1 x)) : gWW X Y nL pc lv (.int x :: .ref (gad Y c 6) :: st) M := q_put (k := 1) hC (gwr M c 6 1 x) (gV_h hc (by decide)) rfl rfl in_X3 tyX3_ok nmX3 (by decide) wF_X3_16 rfl (tyX3_ok 1 (by decide)) rfl rfl (Nat.le_of_ble_eq_true rfl) (by show gce Y ((gup M c 6 _).1 c 6) _ c 6 = _; rw [gup_at]; rfl) gup_ne hd kk
theorem gf_X7_9 (hC : gC X Y cc "GuestStaff$Rows" nL fr lo) (hd : decode cc pc = .ok (.getfield 9, 3)) (kk : gWW X Y nL (pc + 3) lv (.ref (gad Y 0 39) :: st) M) : gWW X Y nL pc lv (.ref (gad Y 0 38) :: st) M := q_get (k := 0) hC (gV_t (by decide) (by decide)) rfl rfl in_X7 (by decide) wF_X7_9 rfl hd kk
theorem gf_X7_15 (hC : gC X Y cc "GuestStaff$Rows" nL fr lo) (hd : decode cc pc = .ok (.getfield 15, 3)) (kk : gWW X Y nL (pc + 3) lv (.ref (gad Y 0 40) :: st) M) : gWW X Y nL pc lv (.ref (gad Y 0 38) :: st) M := q_get (k := 1) hC (gV_t (by decide) (by decide)) rfl rfl in_X7 (by decide) wF_X7_15 rfl hd kk
theorem gf_X7_20 (hC : gC X Y cc "GuestStaff$Rows" nL fr lo) (hd : decode cc pc = .ok (.getfield 20, 3)) (kk : gWW X Y nL (pc + 3) lv (.ref (gad Y 0 41) :: st) M) : gWW X Y nL pc lv (.ref (gad Y 0 38) :: st) M := q_get (k := 2) hC (gV_t (by decide) (by decide)) rfl rfl in_X7 (by decide) wF_X7_20 rfl hd kk
theorem gf_X7_23 (hC : gC X Y cc "GuestStaff$Rows" nL fr lo) (hd : decode cc pc = .ok (.getfield 23, 3)) (kk : gWW X Y nL (pc + 3) lv (.ref (gad Y 0 49) :: st) M) : gWW X Y nL pc lv (.ref (gad Y 0 38) :: st) M := q_get (k := 3) hC (gV_t (by decide) (by decide)) rfl rfl in_X7 (by decide) wF_X7_23 rfl hd kk
theorem gf_X7_26 (hC : gC X Y cc "GuestStaff$Rows" nL fr lo) (hd : decode cc pc = .ok (.getfield 26, 3)) (kk : gWW X Y nL (pc + 3) lv (.int (M.1 0 38 4) :: st) M) : gWW X Y nL pc lv (.ref (gad Y 0 38) :: st) M := q_get (k := 4) hC (gV_t (by decide) (by decide)) rfl rfl in_X7 (by decide) wF_X7_26 rfl hd kk
theorem pf_X7_26 (hC : gC X Y cc "GuestStaff$Rows" nL fr lo) {x : Int32} (hd : decode cc pc = .ok (.putfield 26, 3)) (kk : gWW X Y nL (pc + 3) lv st (gwr M 0 38 4 x)) : gWW X Y nL pc lv (.int x :: .ref (gad Y 0 38) :: st) M := q_put (k := 4) hC (gwr M 0 38 4 x) (gV_t (by decide) (by decide)) rfl rfl in_X7 tyX7_ok nmX7 (by decide) wF_X7_26 rfl (tyX7_ok 4 (by decide)) rfl rfl (Nat.le_of_ble_eq_true rfl) (by show gce Y ((gup M 0 38 _).1 0 38) _ 0 38 = _; rw [gup_at]; rfl) gup_ne hd kk
theorem gf_X7_30 (hC : gC X Y cc "GuestStaff$Rows" nL fr lo) {c : Nat} (hc : c < 4) (hd : decode cc pc = .ok (.getfield 30, 3)) (kk : gWW X Y nL (pc + 3) lv (.int (M.1 c 0 13) :: st) M) : gWW X Y nL pc lv (.ref (gad Y c 0) :: st) M := q_getN (k := 13) hC (gV_h hc (by decide)) rfl rfl in_X1 (by decide) wN_X7_30 rfl hd kk
theorem gf_X7_43 (hC : gC X Y cc "GuestStaff$Rows" nL fr lo) {c : Nat} (hc : c < 4) (hd : decode cc pc = .ok (.getfield 43, 3)) (kk : gWW X Y nL (pc + 3) lv (.ref (gad Y c 2) :: st) M) : gWW X Y nL pc lv (.ref (gad Y c 0) :: st) M := q_getN (k := 2) hC (gV_h hc (by decide)) rfl rfl in_X1 (by decide) wN_X7_43 rfl hd kk
theorem gf_X9_9 (hC : gC X Y cc "GuestStaff$Text" nL fr lo) (hd : decode cc pc = .ok (.getfield 9, 3)) (kk : gWW X Y nL (pc + 3) lv (.ref (gad Y 0 37) :: st) M) : gWW X Y nL pc lv (.ref (gad Y 0 36) :: st) M := q_get (k := 0) hC (gV_t (by decide) (by decide)) rfl rfl in_X9 (by decide) wF_X9_9 rfl hd kk
theorem gf_X9_15 (hC : gC X Y cc "GuestStaff$Text" nL fr lo) (hd : decode cc pc = .ok (.getfield 15, 3)) (kk : gWW X Y nL (pc + 3) lv (.int (M.1 0 36 1) :: st) M) : gWW X Y nL pc lv (.ref (gad Y 0 36) :: st) M := q_get (k := 1) hC (gV_t (by decide) (by decide)) rfl rfl in_X9 (by decide) wF_X9_15 rfl hd kk
theorem pf_X9_15 (hC : gC X Y cc "GuestStaff$Text" nL fr lo) {x : Int32} (hd : decode cc pc = .ok (.putfield 15, 3)) (kk : gWW X Y nL (pc + 3) lv st (gwr M 0 36 1 x)) : gWW X Y nL pc lv (.int x :: .ref (gad Y 0 36) :: st) M := q_put (k := 1) hC (gwr M 0 36 1 x) (gV_t (by decide) (by decide)) rfl rfl in_X9 tyX9_ok nmX9 (by decide) wF_X9_15 rfl (tyX9_ok 1 (by decide)) rfl rfl (Nat.le_of_ble_eq_true rfl) (by show gce Y ((gup M 0 36 _).1 0 36) _ 0 36 = _; rw [gup_at]; rfl) gup_ne hd kk
theorem gf_X9_19 (hC : gC X Y cc "GuestStaff$Text" nL fr lo) (hd : decode cc pc = .ok (.getfield 19, 3)) (kk : gWW X Y nL (pc + 3) lv (.int (M.1 0 36 2) :: st) M) : gWW X Y nL pc lv (.ref (gad Y 0 36) :: st) M := q_get (k := 2) hC (gV_t (by decide) (by decide)) rfl rfl in_X9 (by decide) wF_X9_19 rfl hd kk
theorem pf_X9_19 (hC : gC X Y cc "GuestStaff$Text" nL fr lo) {x : Int32} (hd : decode cc pc = .ok (.putfield 19, 3)) (kk : gWW X Y nL (pc + 3) lv st (gwr M 0 36 2 x)) : gWW X Y nL pc lv (.int x :: .ref (gad Y 0 36) :: st) M := q_put (k := 2) hC (gwr M 0 36 2 x) (gV_t (by decide) (by decide)) rfl rfl in_X9 tyX9_ok nmX9 (by decide) wF_X9_19 rfl (tyX9_ok 2 (by decide)) rfl rfl (Nat.le_of_ble_eq_true rfl) (by show gce Y ((gup M 0 36 _).1 0 36) _ 0 36 = _; rw [gup_at]; rfl) gup_ne hd kk
theorem gf_X9_22 (hC : gC X Y cc "GuestStaff$Text" nL fr lo) (hd : decode cc pc = .ok (.getfield 22, 3)) (kk : gWW X Y nL (pc + 3) lv (.int (M.1 0 36 3) :: st) M) : gWW X Y nL pc lv (.ref (gad Y 0 36) :: st) M := q_get (k := 3) hC (gV_t (by decide) (by decide)) rfl rfl in_X9 (by decide) wF_X9_22 rfl hd kk
theorem pf_X9_22 (hC : gC X Y cc "GuestStaff$Text" nL fr lo) {x : Int32} (hd : decode cc pc = .ok (.putfield 22, 3)) (kk : gWW X Y nL (pc + 3) lv st (gwr M 0 36 3 x)) : gWW X Y nL pc lv (.int x :: .ref (gad Y 0 36) :: st) M := q_put (k := 3) hC (gwr M 0 36 3 x) (gV_t (by decide) (by decide)) rfl rfl in_X9 tyX9_ok nmX9 (by decide) wF_X9_22 rfl (tyX9_ok 3 (by decide)) rfl rfl (Nat.le_of_ble_eq_true rfl) (by show gce Y ((gup M 0 36 _).1 0 36) _ 0 36 = _; rw [gup_at]; rfl) gup_ne hd kk
theorem gf_X9_25 (hC : gC X Y cc "GuestStaff$Text" nL fr lo) (hd : decode cc pc = .ok (.getfield 25, 3)) (kk : gWW X Y nL (pc + 3) lv (.int (M.1 0 36 4) :: st) M) : gWW X Y nL pc lv (.ref (gad Y 0 36) :: st) M := q_get (k := 4) hC (gV_t (by decide) (by decide)) rfl rfl in_X9 (by decide) wF_X9_25 rfl hd kk
theorem pf_X9_25 (hC : gC X Y cc "GuestStaff$Text" nL fr lo) {x : Int32} (hd : decode cc pc = .ok (.putfield 25, 3)) (kk : gWW X Y nL (pc + 3) lv st (gwr M 0 36 4 x)) : gWW X Y nL pc lv (.int x :: .ref (gad Y 0 36) :: st) M := q_put (k := 4) hC (gwr M 0 36 4 x) (gV_t (by decide) (by decide)) rfl rfl in_X9 tyX9_ok nmX9 (by decide) wF_X9_25 rfl (tyX9_ok 4 (by decide)) rfl rfl (Nat.le_of_ble_eq_true rfl) (by show gce Y ((gup M 0 36 _).1 0 36) _ 0 36 = _; rw [gup_at]; rfl) gup_ne hd kk
theorem gf_X9_28 (hC : gC X Y cc "GuestStaff$Text" nL fr lo) (hd : decode cc pc = .ok (.getfield 28, 3)) (kk : gWW X Y nL (pc + 3) lv (.int (M.1 0 36 5) :: st) M) : gWW X Y nL pc lv (.ref (gad Y 0 36) :: st) M := q_get (k := 5) hC (gV_t (by decide) (by decide)) rfl rfl in_X9 (by decide) wF_X9_28 rfl hd kk
theorem pf_X9_28 (hC : gC X Y cc "GuestStaff$Text" nL fr lo) {x : Int32} (hd : decode cc pc = .ok (.putfield 28, 3)) (kk : gWW X Y nL (pc + 3) lv st (gwr M 0 36 5 x)) : gWW X Y nL pc lv (.int x :: .ref (gad Y 0 36) :: st) M := q_put (k := 5) hC (gwr M 0 36 5 x) (gV_t (by decide) (by decide)) rfl rfl in_X9 tyX9_ok nmX9 (by decide) wF_X9_28 rfl (tyX9_ok 5 (by decide)) rfl rfl (Nat.le_of_ble_eq_true rfl) (by show gce Y ((gup M 0 36 _).1 0 36) _ 0 36 = _; rw [gup_at]; rfl) gup_ne hd kk
theorem gf_X9_55 (hC : gC X Y cc "GuestStaff$Text" nL fr lo) {c : Nat} (hc : c < 4) (hd : decode cc pc = .ok (.getfield 55, 3)) (kk : gWW X Y nL (pc + 3) lv (.int (M.1 c 0 13) :: st) M) : gWW X Y nL pc lv (.ref (gad Y c 0) :: st) M := q_getN (k := 13) hC (gV_h hc (by decide)) rfl rfl in_X1 (by decide) wN_X9_55 rfl hd kk
theorem gf_X9_77 (hC : gC X Y cc "GuestStaff$Text" nL fr lo) {c : Nat} (hc : c < 4) (hd : decode cc pc = .ok (.getfield 77, 3)) (kk : gWW X Y nL (pc + 3) lv (.ref (gad Y c 4) :: st) M) : gWW X Y nL pc lv (.ref (gad Y c 0) :: st) M := q_getN (k := 4) hC (gV_h hc (by decide)) rfl rfl in_X1 (by decide) wN_X9_77 rfl hd kk
theorem gf_X11_7 (hC : gC X Y cc "GuestStaffModel" nL fr lo) (hd : decode cc pc = .ok (.getfield 7, 3)) (kk : gWW X Y nL (pc + 3) lv (.ref (gad Y 0 60) :: st) M) : gWW X Y nL pc lv (.ref (gad Y 0 59) :: st) M := q_get (k := 0) hC (gV_t (by decide) (by decide)) rfl rfl in_X11 (by decide) wF_X11_7 rfl hd kk
theorem gf_X11_13 (hC : gC X Y cc "GuestStaffModel" nL fr lo) (hd : decode cc pc = .ok (.getfield 13, 3)) (kk : gWW X Y nL (pc + 3) lv (.long (M.2 59 2) :: st) M) : gWW X Y nL pc lv (.ref (gad Y 0 59) :: st) M := q_get (k := 2) hC (gV_t (by decide) (by decide)) rfl rfl in_X11 (by decide) wF_X11_13 rfl hd kk
theorem pf_X11_13 (hC : gC X Y cc "GuestStaffModel" nL fr lo) {x : Int64} (hd : decode cc pc = .ok (.putfield 13, 3)) (kk : gWW X Y nL (pc + 3) lv st (gwl M 59 2 x)) : gWW X Y nL pc lv (.long x :: .ref (gad Y 0 59) :: st) M := q_put (k := 2) hC (gwl M 59 2 x) (gV_t (by decide) (by decide)) rfl rfl in_X11 tyX11_ok nmX11 (by decide) wF_X11_13 rfl (tyX11_ok 2 (by decide)) rfl rfl (Nat.le_of_ble_eq_true rfl) rfl (gwl_ne (by decide)) hd kk
theorem gf_X11_17 (hC : gC X Y cc "GuestStaffModel" nL fr lo) (hd : decode cc pc = .ok (.getfield 17, 3)) (kk : gWW X Y nL (pc + 3) lv (.ref (gad Y 0 61) :: st) M) : gWW X Y nL pc lv (.ref (gad Y 0 59) :: st) M := q_get (k := 3) hC (gV_t (by decide) (by decide)) rfl rfl in_X11 (by decide) wF_X11_17 rfl hd kk
theorem gf_X11_20 (hC : gC X Y cc "GuestStaffModel" nL fr lo) (hd : decode cc pc = .ok (.getfield 20, 3)) (kk : gWW X Y nL (pc + 3) lv (.ref (gad Y 0 62) :: st) M) : gWW X Y nL pc lv (.ref (gad Y 0 59) :: st) M := q_get (k := 4) hC (gV_t (by decide) (by decide)) rfl rfl in_X11 (by decide) wF_X11_20 rfl hd kk
theorem gf_X11_23 (hC : gC X Y cc "GuestStaffModel" nL fr lo) (hd : decode cc pc = .ok (.getfield 23, 3)) (kk : gWW X Y nL (pc + 3) lv (.ref (gad Y 0 63) :: st) M) : gWW X Y nL pc lv (.ref (gad Y 0 59) :: st) M := q_get (k := 10) hC (gV_t (by decide) (by decide)) rfl rfl in_X11 (by decide) wF_X11_23 rfl hd kk
theorem gf_X11_26 (hC : gC X Y cc "GuestStaffModel" nL fr lo) (hd : decode cc pc = .ok (.getfield 26, 3)) (kk : gWW X Y nL (pc + 3) lv (.ref (gad Y 0 64) :: st) M) : gWW X Y nL pc lv (.ref (gad Y 0 59) :: st) M := q_get (k := 13) hC (gV_t (by decide) (by decide)) rfl rfl in_X11 (by decide) wF_X11_26 rfl hd kk
theorem gf_X11_29 (hC : gC X Y cc "GuestStaffModel" nL fr lo) (hd : decode cc pc = .ok (.getfield 29, 3)) (kk : gWW X Y nL (pc + 3) lv (.ref (gad Y 0 65) :: st) M) : gWW X Y nL pc lv (.ref (gad Y 0 59) :: st) M := q_get (k := 15) hC (gV_t (by decide) (by decide)) rfl rfl in_X11 (by decide) wF_X11_29 rfl hd kk
theorem gf_X11_32 (hC : gC X Y cc "GuestStaffModel" nL fr lo) (hd : decode cc pc = .ok (.getfield 32, 3)) (kk : gWW X Y nL (pc + 3) lv (.ref (gad Y 0 66) :: st) M) : gWW X Y nL pc lv (.ref (gad Y 0 59) :: st) M := q_get (k := 17) hC (gV_t (by decide) (by decide)) rfl rfl in_X11 (by decide) wF_X11_32 rfl hd kk
theorem gf_X11_35 (hC : gC X Y cc "GuestStaffModel" nL fr lo) (hd : decode cc pc = .ok (.getfield 35, 3)) (kk : gWW X Y nL (pc + 3) lv (.ref (gad Y 0 67) :: st) M) : gWW X Y nL pc lv (.ref (gad Y 0 59) :: st) M := q_get (k := 18) hC (gV_t (by decide) (by decide)) rfl rfl in_X11 (by decide) wF_X11_35 rfl hd kk
theorem gf_X11_38 (hC : gC X Y cc "GuestStaffModel" nL fr lo) (hd : decode cc pc = .ok (.getfield 38, 3)) (kk : gWW X Y nL (pc + 3) lv (.ref (gad Y 0 68) :: st) M) : gWW X Y nL pc lv (.ref (gad Y 0 59) :: st) M := q_get (k := 22) hC (gV_t (by decide) (by decide)) rfl rfl in_X11 (by decide) wF_X11_38 rfl hd kk
theorem gf_X11_41 (hC : gC X Y cc "GuestStaffModel" nL fr lo) (hd : decode cc pc = .ok (.getfield 41, 3)) (kk : gWW X Y nL (pc + 3) lv (.ref (gad Y 0 69) :: st) M) : gWW X Y nL pc lv (.ref (gad Y 0 59) :: st) M := q_get (k := 23) hC (gV_t (by decide) (by decide)) rfl rfl in_X11 (by decide) wF_X11_41 rfl hd kk
theorem gf_X11_44 (hC : gC X Y cc "GuestStaffModel" nL fr lo) (hd : decode cc pc = .ok (.getfield 44, 3)) (kk : gWW X Y nL (pc + 3) lv (.ref (gad Y 0 70) :: st) M) : gWW X Y nL pc lv (.ref (gad Y 0 59) :: st) M := q_get (k := 24) hC (gV_t (by decide) (by decide)) rfl rfl in_X11 (by decide) wF_X11_44 rfl hd kk
theorem gf_X11_48 (hC : gC X Y cc "GuestStaffModel" nL fr lo) (hd : decode cc pc = .ok (.getfield 48, 3)) (kk : gWW X Y nL (pc + 3) lv (.ref (gad Y 0 71) :: st) M) : gWW X Y nL pc lv (.ref (gad Y 0 59) :: st) M := q_get (k := 25) hC (gV_t (by decide) (by decide)) rfl rfl in_X11 (by decide) wF_X11_48 rfl hd kk
theorem gf_X11_51 (hC : gC X Y cc "GuestStaffModel" nL fr lo) (hd : decode cc pc = .ok (.getfield 51, 3)) (kk : gWW X Y nL (pc + 3) lv (.ref (gad Y 0 72) :: st) M) : gWW X Y nL pc lv (.ref (gad Y 0 59) :: st) M := q_get (k := 26) hC (gV_t (by decide) (by decide)) rfl rfl in_X11 (by decide) wF_X11_51 rfl hd kk
theorem gf_X11_54 (hC : gC X Y cc "GuestStaffModel" nL fr lo) (hd : decode cc pc = .ok (.getfield 54, 3)) (kk : gWW X Y nL (pc + 3) lv (.ref (gad Y 0 73) :: st) M) : gWW X Y nL pc lv (.ref (gad Y 0 59) :: st) M := q_get (k := 27) hC (gV_t (by decide) (by decide)) rfl rfl in_X11 (by decide) wF_X11_54 rfl hd kk
theorem gf_X11_61 (hC : gC X Y cc "GuestStaffModel" nL fr lo) (hd : decode cc pc = .ok (.getfield 61, 3)) (kk : gWW X Y nL (pc + 3) lv (.int (M.1 0 59 14) :: st) M) : gWW X Y nL pc lv (.ref (gad Y 0 59) :: st) M := q_get (k := 14) hC (gV_t (by decide) (by decide)) rfl rfl in_X11 (by decide) wF_X11_61 rfl hd kk
theorem pf_X11_61 (hC : gC X Y cc "GuestStaffModel" nL fr lo) {x : Int32} (hd : decode cc pc = .ok (.putfield 61, 3)) (kk : gWW X Y nL (pc + 3) lv st (gwr M 0 59 14 x)) : gWW X Y nL pc lv (.int x :: .ref (gad Y 0 59) :: st) M := q_put (k := 14) hC (gwr M 0 59 14 x) (gV_t (by decide) (by decide)) rfl rfl in_X11 tyX11_ok nmX11 (by decide) wF_X11_61 rfl (tyX11_ok 14 (by decide)) rfl rfl (Nat.le_of_ble_eq_true rfl) (by show gce Y ((gup M 0 59 _).1 0 59) _ 0 59 = _; rw [gup_at]; rfl) gup_ne hd kk
theorem gf_X11_97 (hC : gC X Y cc "GuestStaffModel" nL fr lo) (hd : decode cc pc = .ok (.getfield 97, 3)) (kk : gWW X Y nL (pc + 3) lv (.int (M.1 0 59 5) :: st) M) : gWW X Y nL pc lv (.ref (gad Y 0 59) :: st) M := q_get (k := 5) hC (gV_t (by decide) (by decide)) rfl rfl in_X11 (by decide) wF_X11_97 rfl hd kk
theorem pf_X11_97 (hC : gC X Y cc "GuestStaffModel" nL fr lo) {x : Int32} (hd : decode cc pc = .ok (.putfield 97, 3)) (kk : gWW X Y nL (pc + 3) lv st (gwr M 0 59 5 x)) : gWW X Y nL pc lv (.int x :: .ref (gad Y 0 59) :: st) M := q_put (k := 5) hC (gwr M 0 59 5 x) (gV_t (by decide) (by decide)) rfl rfl in_X11 tyX11_ok nmX11 (by decide) wF_X11_97 rfl (tyX11_ok 5 (by decide)) rfl rfl (Nat.le_of_ble_eq_true rfl) (by show gce Y ((gup M 0 59 _).1 0 59) _ 0 59 = _; rw [gup_at]; rfl) gup_ne hd kk
theorem gf_X11_100 (hC : gC X Y cc "GuestStaffModel" nL fr lo) (hd : decode cc pc = .ok (.getfield 100, 3)) (kk : gWW X Y nL (pc + 3) lv (.int (M.1 0 59 6) :: st) M) : gWW X Y nL pc lv (.ref (gad Y 0 59) :: st) M := q_get (k := 6) hC (gV_t (by decide) (by decide)) rfl rfl in_X11 (by decide) wF_X11_100 rfl hd kk
theorem pf_X11_100 (hC : gC X Y cc "GuestStaffModel" nL fr lo) {x : Int32} (hd : decode cc pc = .ok (.putfield 100, 3)) (kk : gWW X Y nL (pc + 3) lv st (gwr M 0 59 6 x)) : gWW X Y nL pc lv (.int x :: .ref (gad Y 0 59) :: st) M := q_put (k := 6) hC (gwr M 0 59 6 x) (gV_t (by decide) (by decide)) rfl rfl in_X11 tyX11_ok nmX11 (by decide) wF_X11_100 rfl (tyX11_ok 6 (by decide)) rfl rfl (Nat.le_of_ble_eq_true rfl) (by show gce Y ((gup M 0 59 _).1 0 59) _ 0 59 = _; rw [gup_at]; rfl) gup_ne hd kk
theorem gf_X11_107 (hC : gC X Y cc "GuestStaffModel" nL fr lo) (hd : decode cc pc = .ok (.getfield 107, 3)) (kk : gWW X Y nL (pc + 3) lv (.int (M.1 0 59 9) :: st) M) : gWW X Y nL pc lv (.ref (gad Y 0 59) :: st) M := q_get (k := 9) hC (gV_t (by decide) (by decide)) rfl rfl in_X11 (by decide) wF_X11_107 rfl hd kk
theorem pf_X11_107 (hC : gC X Y cc "GuestStaffModel" nL fr lo) {x : Int32} (hd : decode cc pc = .ok (.putfield 107, 3)) (kk : gWW X Y nL (pc + 3) lv st (gwr M 0 59 9 x)) : gWW X Y nL pc lv (.int x :: .ref (gad Y 0 59) :: st) M := q_put (k := 9) hC (gwr M 0 59 9 x) (gV_t (by decide) (by decide)) rfl rfl in_X11 tyX11_ok nmX11 (by decide) wF_X11_107 rfl (tyX11_ok 9 (by decide)) rfl rfl (Nat.le_of_ble_eq_true rfl) (by show gce Y ((gup M 0 59 _).1 0 59) _ 0 59 = _; rw [gup_at]; rfl) gup_ne hd kk
theorem gf_X11_110 (hC : gC X Y cc "GuestStaffModel" nL fr lo) (hd : decode cc pc = .ok (.getfield 110, 3)) (kk : gWW X Y nL (pc + 3) lv (.int (M.1 0 59 8) :: st) M) : gWW X Y nL pc lv (.ref (gad Y 0 59) :: st) M := q_get (k := 8) hC (gV_t (by decide) (by decide)) rfl rfl in_X11 (by decide) wF_X11_110 rfl hd kk
theorem pf_X11_110 (hC : gC X Y cc "GuestStaffModel" nL fr lo) {x : Int32} (hd : decode cc pc = .ok (.putfield 110, 3)) (kk : gWW X Y nL (pc + 3) lv st (gwr M 0 59 8 x)) : gWW X Y nL pc lv (.int x :: .ref (gad Y 0 59) :: st) M := q_put (k := 8) hC (gwr M 0 59 8 x) (gV_t (by decide) (by decide)) rfl rfl in_X11 tyX11_ok nmX11 (by decide) wF_X11_110 rfl (tyX11_ok 8 (by decide)) rfl rfl (Nat.le_of_ble_eq_true rfl) (by show gce Y ((gup M 0 59 _).1 0 59) _ 0 59 = _; rw [gup_at]; rfl) gup_ne hd kk
theorem gf_X11_113 (hC : gC X Y cc "GuestStaffModel" nL fr lo) (hd : decode cc pc = .ok (.getfield 113, 3)) (kk : gWW X Y nL (pc + 3) lv (.int (M.1 0 59 7) :: st) M) : gWW X Y nL pc lv (.ref (gad Y 0 59) :: st) M := q_get (k := 7) hC (gV_t (by decide) (by decide)) rfl rfl in_X11 (by decide) wF_X11_113 rfl hd kk
theorem pf_X11_113 (hC : gC X Y cc "GuestStaffModel" nL fr lo) {x : Int32} (hd : decode cc pc = .ok (.putfield 113, 3)) (kk : gWW X Y nL (pc + 3) lv st (gwr M 0 59 7 x)) : gWW X Y nL pc lv (.int x :: .ref (gad Y 0 59) :: st) M := q_put (k := 7) hC (gwr M 0 59 7 x) (gV_t (by decide) (by decide)) rfl rfl in_X11 tyX11_ok nmX11 (by decide) wF_X11_113 rfl (tyX11_ok 7 (by decide)) rfl rfl (Nat.le_of_ble_eq_true rfl) (by show gce Y ((gup M 0 59 _).1 0 59) _ 0 59 = _; rw [gup_at]; rfl) gup_ne hd kk
theorem gf_X11_127 (hC : gC X Y cc "GuestStaffModel" nL fr lo) (hd : decode cc pc = .ok (.getfield 127, 3)) (kk : gWW X Y nL (pc + 3) lv (.int (M.1 0 59 11) :: st) M) : gWW X Y nL pc lv (.ref (gad Y 0 59) :: st) M := q_get (k := 11) hC (gV_t (by decide) (by decide)) rfl rfl in_X11 (by decide) wF_X11_127 rfl hd kk
theorem pf_X11_127 (hC : gC X Y cc "GuestStaffModel" nL fr lo) {x : Int32} (hd : decode cc pc = .ok (.putfield 127, 3)) (kk : gWW X Y nL (pc + 3) lv st (gwr M 0 59 11 x)) : gWW X Y nL pc lv (.int x :: .ref (gad Y 0 59) :: st) M := q_put (k := 11) hC (gwr M 0 59 11 x) (gV_t (by decide) (by decide)) rfl rfl in_X11 tyX11_ok nmX11 (by decide) wF_X11_127 rfl (tyX11_ok 11 (by decide)) rfl rfl (Nat.le_of_ble_eq_true rfl) (by show gce Y ((gup M 0 59 _).1 0 59) _ 0 59 = _; rw [gup_at]; rfl) gup_ne hd kk
theorem gf_X11_134 (hC : gC X Y cc "GuestStaffModel" nL fr lo) (hd : decode cc pc = .ok (.getfield 134, 3)) (kk : gWW X Y nL (pc + 3) lv (.int (M.1 0 59 12) :: st) M) : gWW X Y nL pc lv (.ref (gad Y 0 59) :: st) M := q_get (k := 12) hC (gV_t (by decide) (by decide)) rfl rfl in_X11 (by decide) wF_X11_134 rfl hd kk
theorem pf_X11_134 (hC : gC X Y cc "GuestStaffModel" nL fr lo) {x : Int32} (hd : decode cc pc = .ok (.putfield 134, 3)) (kk : gWW X Y nL (pc + 3) lv st (gwr M 0 59 12 x)) : gWW X Y nL pc lv (.int x :: .ref (gad Y 0 59) :: st) M := q_put (k := 12) hC (gwr M 0 59 12 x) (gV_t (by decide) (by decide)) rfl rfl in_X11 tyX11_ok nmX11 (by decide) wF_X11_134 rfl (tyX11_ok 12 (by decide)) rfl rfl (Nat.le_of_ble_eq_true rfl) (by show gce Y ((gup M 0 59 _).1 0 59) _ 0 59 = _; rw [gup_at]; rfl) gup_ne hd kk
theorem gf_X11_183 (hC : gC X Y cc "GuestStaffModel" nL fr lo) (hd : decode cc pc = .ok (.getfield 183, 3)) (kk : gWW X Y nL (pc + 3) lv (.int (M.1 0 59 16) :: st) M) : gWW X Y nL pc lv (.ref (gad Y 0 59) :: st) M := q_get (k := 16) hC (gV_t (by decide) (by decide)) rfl rfl in_X11 (by decide) wF_X11_183 rfl hd kk
theorem pf_X11_183 (hC : gC X Y cc "GuestStaffModel" nL fr lo) {x : Int32} (hd : decode cc pc = .ok (.putfield 183, 3)) (kk : gWW X Y nL (pc + 3) lv st (gwr M 0 59 16 x)) : gWW X Y nL pc lv (.int x :: .ref (gad Y 0 59) :: st) M := q_put (k := 16) hC (gwr M 0 59 16 x) (gV_t (by decide) (by decide)) rfl rfl in_X11 tyX11_ok nmX11 (by decide) wF_X11_183 rfl (tyX11_ok 16 (by decide)) rfl rfl (Nat.le_of_ble_eq_true rfl) (by show gce Y ((gup M 0 59 _).1 0 59) _ 0 59 = _; rw [gup_at]; rfl) gup_ne hd kk
theorem gf_X11_196 (hC : gC X Y cc "GuestStaffModel" nL fr lo) (hd : decode cc pc = .ok (.getfield 196, 3)) (kk : gWW X Y nL (pc + 3) lv (.int (M.1 0 59 19) :: st) M) : gWW X Y nL pc lv (.ref (gad Y 0 59) :: st) M := q_get (k := 19) hC (gV_t (by decide) (by decide)) rfl rfl in_X11 (by decide) wF_X11_196 rfl hd kk
theorem pf_X11_196 (hC : gC X Y cc "GuestStaffModel" nL fr lo) {x : Int32} (hd : decode cc pc = .ok (.putfield 196, 3)) (kk : gWW X Y nL (pc + 3) lv st (gwr M 0 59 19 x)) : gWW X Y nL pc lv (.int x :: .ref (gad Y 0 59) :: st) M := q_put (k := 19) hC (gwr M 0 59 19 x) (gV_t (by decide) (by decide)) rfl rfl in_X11 tyX11_ok nmX11 (by decide) wF_X11_196 rfl (tyX11_ok 19 (by decide)) rfl rfl (Nat.le_of_ble_eq_true rfl) (by show gce Y ((gup M 0 59 _).1 0 59) _ 0 59 = _; rw [gup_at]; rfl) gup_ne hd kk
theorem gf_X11_199 (hC : gC X Y cc "GuestStaffModel" nL fr lo) (hd : decode cc pc = .ok (.getfield 199, 3)) (kk : gWW X Y nL (pc + 3) lv (.int (M.1 0 59 20) :: st) M) : gWW X Y nL pc lv (.ref (gad Y 0 59) :: st) M := q_get (k := 20) hC (gV_t (by decide) (by decide)) rfl rfl in_X11 (by decide) wF_X11_199 rfl hd kk
theorem pf_X11_199 (hC : gC X Y cc "GuestStaffModel" nL fr lo) {x : Int32} (hd : decode cc pc = .ok (.putfield 199, 3)) (kk : gWW X Y nL (pc + 3) lv st (gwr M 0 59 20 x)) : gWW X Y nL pc lv (.int x :: .ref (gad Y 0 59) :: st) M := q_put (k := 20) hC (gwr M 0 59 20 x) (gV_t (by decide) (by decide)) rfl rfl in_X11 tyX11_ok nmX11 (by decide) wF_X11_199 rfl (tyX11_ok 20 (by decide)) rfl rfl (Nat.le_of_ble_eq_true rfl) (by show gce Y ((gup M 0 59 _).1 0 59) _ 0 59 = _; rw [gup_at]; rfl) gup_ne hd kk
theorem gf_X11_202 (hC : gC X Y cc "GuestStaffModel" nL fr lo) (hd : decode cc pc = .ok (.getfield 202, 3)) (kk : gWW X Y nL (pc + 3) lv (.int (M.1 0 59 21) :: st) M) : gWW X Y nL pc lv (.ref (gad Y 0 59) :: st) M := q_get (k := 21) hC (gV_t (by decide) (by decide)) rfl rfl in_X11 (by decide) wF_X11_202 rfl hd kk
theorem pf_X11_202 (hC : gC X Y cc "GuestStaffModel" nL fr lo) {x : Int32} (hd : decode cc pc = .ok (.putfield 202, 3)) (kk : gWW X Y nL (pc + 3) lv st (gwr M 0 59 21 x)) : gWW X Y nL pc lv (.int x :: .ref (gad Y 0 59) :: st) M := q_put (k := 21) hC (gwr M 0 59 21 x) (gV_t (by decide) (by decide)) rfl rfl in_X11 tyX11_ok nmX11 (by decide) wF_X11_202 rfl (tyX11_ok 21 (by decide)) rfl rfl (Nat.le_of_ble_eq_true rfl) (by show gce Y ((gup M 0 59 _).1 0 59) _ 0 59 = _; rw [gup_at]; rfl) gup_ne hd kk
theorem gf_X11_250 (hC : gC X Y cc "GuestStaffModel" nL fr lo) (hd : decode cc pc = .ok (.getfield 250, 3)) (kk : gWW X Y nL (pc + 3) lv (.long (M.2 59 1) :: st) M) : gWW X Y nL pc lv (.ref (gad Y 0 59) :: st) M := q_get (k := 1) hC (gV_t (by decide) (by decide)) rfl rfl in_X11 (by decide) wF_X11_250 rfl hd kk
theorem pf_X11_250 (hC : gC X Y cc "GuestStaffModel" nL fr lo) {x : Int64} (hd : decode cc pc = .ok (.putfield 250, 3)) (kk : gWW X Y nL (pc + 3) lv st (gwl M 59 1 x)) : gWW X Y nL pc lv (.long x :: .ref (gad Y 0 59) :: st) M := q_put (k := 1) hC (gwl M 59 1 x) (gV_t (by decide) (by decide)) rfl rfl in_X11 tyX11_ok nmX11 (by decide) wF_X11_250 rfl (tyX11_ok 1 (by decide)) rfl rfl (Nat.le_of_ble_eq_true rfl) rfl (gwl_ne (by decide)) hd kk
end GFL
abbrev gin (i : Int32) (n : Nat) : Prop := ¬ (i < 0 ∨ n ≤ i.toNatClampNeg)
theorem gin_lt {i : Int32} {n : Nat} (h : gin i n) : i.toNatClampNeg < n := Nat.not_le.mp fun q => h (Or.inr q)
theorem gl_of {b n m : Nat} {i : Int32} (hall : ∀ j, j < n → glen (b + j) = m) (h : gin i n) : glen (b + i.toNatClampNeg) = m := hall _ (gin_lt h)
theorem gV_hr {c b : Nat} {i : Int32} (n : Nat) (hc : c < 4) (h : gin i n) (hb : b + n ≤ 34) : gV c (b + i.toNatClampNeg) := gV_h hc (by have := gin_lt h; omega)
theorem gV_tr {b : Nat} {i : Int32} (n : Nat) (h : gin i n) (h1 : 34 ≤ b) (hb : b + n ≤ 74) : gV 0 (b + i.toNatClampNeg) := gV_t (by omega) (by have := gin_lt h; omega)
theorem gc_img {i : Int32} (h : gin i 2) : 2 + i.toNatClampNeg < 4 := by have := gin_lt h; omega
theorem grow_i {Y : gY} {c b n : Nat} {i : Int32} (h : gin i n) : grow Y c b n i.toNatClampNeg = some (gad Y c (b + i.toNatClampNeg)) := if_pos (gin_lt h)
theorem gimg_i {Y : gY} {i : Int32} (h : gin i 2) : gimg Y i.toNatClampNeg = some (gad Y (2 + i.toNatClampNeg) 0) := if_pos (gin_lt h)
section GSW
variable {X : gX} {Y : gY} {cc : ByteArray} {own : String} {nL fr lo pc : Nat} {lv : List (Nat × Value)} {st : List Value} {M : gMem}
theorem q_tin (hC : gC X Y cc own nL fr lo) {dflt a b : Int} {offs : Array Int} {len : Nat} {x : Int32} (k : Int32) {off : Int} (tgt : Nat) (hx : x = k) (hd : decode cc pc = .ok (.tableswitch dflt a b offs, len)) (h1 : ¬ k.toInt < a) (h2 : ¬ b < k.toInt) (ho : offs[(k.toInt - a).toNat]? = some off) (ht : (pc : Int) + off = (tgt : Int)) (kk : gWW X Y nL tgt lv st M) : gWW X Y nL pc lv (.int x :: st) M := by
  subst hx
  exact fun H locs ls hS h => lv_tableIn hC.1 hC.2.1 hd h1 h2 ho ht (kk H locs ls hS h)
theorem q_tout (hC : gC X Y cc own nL fr lo) {dflt a b : Int} {offs : Array Int} {len : Nat} {x : Int32} (tgt : Nat) (hx : x.toInt < a ∨ b < x.toInt) (hd : decode cc pc = .ok (.tableswitch dflt a b offs, len)) (ht : (pc : Int) + dflt = (tgt : Int)) (kk : gWW X Y nL tgt lv st M) : gWW X Y nL pc lv (.int x :: st) M :=
  fun H locs ls hS h => lv_tableOut hC.1 hC.2.1 hd hx ht (kk H locs ls hS h)
theorem q_lsw (hC : gC X Y cc own nL fr lo) {dflt : Int} {ps : Array (Int × Int)} {len : Nat} {x : Int32} {off : Int} (tgt : Nat) (hd : decode cc pc = .ok (.lookupswitch dflt ps, len)) (hp : (ps.toList.zip (ps.toList.drop 1)).all (fun (a, next) => a.1 < next.1) = true) (ho : Op.lookupswitch.offset ps.toList dflt x.toInt = off) (ht : (pc : Int) + off = (tgt : Int)) (kk : gWW X Y nL tgt lv st M) : gWW X Y nL pc lv (.int x :: st) M :=
  fun H locs ls hS h => lv_lookup hC.1 hC.2.1 hd hp ho ht (kk H locs ls hS h)
theorem q_max (hC : gC X Y cc own nL fr lo) {idx : Nat} {x y : Int32} (hl : Cond.methodLink own idx Lib.Math.max.name ∈ gTs) (hfr : 1 ≤ fr) (hlo : (st.map fun v => v.category).sum + 13 ≤ lo) (hd : decode cc pc = .ok (.invokestatic idx, 3)) (kk : gWW X Y nL (pc + 3) lv (.int (if x < y then y else x) :: st) M) : gWW X Y nL pc lv (.int y :: .int x :: st) M := by
  intro H locs ls hS h
  have hts := hC.2.2.2.2.1
  have hR := hC.2.2.2.2.2.2.2.2
  exact va_mmax hC.1 hC.2.1 (hC.2.2.1.trans h.1.symm) hC.2.2.2.1 (hts _ hl) (hts _ mm_J9_max_7cf53.2) (hts _ wI_J9) (hts _ mm_J9_max_7cf53.1.1) (by rw [hR.1]; exact hfr) (by rw [hR.2.1]; exact hlo) (Nat.zero_le _) (Nat.zero_le _) hd (kk H locs ls hS h)
theorem q_min (hC : gC X Y cc own nL fr lo) {idx : Nat} {x y : Int32} (hl : Cond.methodLink own idx Lib.Math.min.name ∈ gTs) (hfr : 1 ≤ fr) (hlo : (st.map fun v => v.category).sum + 13 ≤ lo) (hd : decode cc pc = .ok (.invokestatic idx, 3)) (kk : gWW X Y nL (pc + 3) lv (.int (if y < x then y else x) :: st) M) : gWW X Y nL pc lv (.int y :: .int x :: st) M := by
  intro H locs ls hS h
  have hts := hC.2.2.2.2.1
  have hR := hC.2.2.2.2.2.2.2.2
  exact va_mmin hC.1 hC.2.1 (hC.2.2.1.trans h.1.symm) hC.2.2.2.1 (hts _ hl) (hts _ mm_J9_min_7cf53.2) (hts _ wI_J9) (hts _ mm_J9_min_7cf53.1.1) (by rw [hR.1]; exact hfr) (by rw [hR.2.1]; exact hlo) (Nat.zero_le _) (Nat.zero_le _) hd (kk H locs ls hS h)
end GSW
end
section
section GK2
variable {X : gX} {Y : gY} {cc : ByteArray} {own : String} {nL fr lo pc : Nat} {lv : List (Nat × Value)} {st : List Value} {M : gMem}
theorem q_kip {rest : List Value} {v : Int32} {M' : gMem} {a : Array Value} (hr : gRun X Y nL pc lv st rest M (gQi Y (v, M') a)) (kk : gWW X Y nL (pc + 3) lv (.int v :: rest) M') : gWW X Y nL pc lv st M := q_ki hr kk
theorem q_kzp {rest : List Value} {v : Int32} {M' : gMem} {a : Array Value} (hr : gRun X Y nL pc lv st rest M (gQz Y (v, M') a)) (kk : (v = 0 ∨ v = 1) → gWW X Y nL (pc + 3) lv (.int v :: rest) M') : gWW X Y nL pc lv st M := q_kz hr kk
theorem q_klp {rest : List Value} {v : Int64} {M' : gMem} {a : Array Value} (hr : gRun X Y nL pc lv st rest M (gQl Y (v, M') a)) (kk : gWW X Y nL (pc + 3) lv (.long v :: rest) M') : gWW X Y nL pc lv st M := q_kl hr kk
theorem q_ialdk (hC : gC X Y cc own nL fr lo) {c o : Nat} {i : Int32} (j n : Nat) (hV : gV c o) (hn : glen o = n + 1) (hi : gin i (n + 1)) (hj : i.toNatClampNeg = j) (hd : decode cc pc = .ok (.iaload, 1)) (kk : gWW X Y nL (pc + 1) lv (.int (M.1 c o j) :: st) M) : gWW X Y nL pc lv (.int i :: .ref (gad Y c o) :: st) M := by
  subst hj
  exact q_iald hC n hV hn hi hd kk
theorem q_iastk (hC : gC X Y cc own nL fr lo) {c o : Nat} {i x : Int32} (j n : Nat) (hV : gV c o) (hn : glen o = n + 1) (hi : gin i (n + 1)) (hj : i.toNatClampNeg = j) (hd : decode cc pc = .ok (.iastore, 1)) (kk : gWW X Y nL (pc + 1) lv st (gwr M c o j x)) : gWW X Y nL pc lv (.int x :: .int i :: .ref (gad Y c o) :: st) M := by
  subst hj
  exact q_iast hC n hV hn hi hd kk
end GK2
theorem gkind (Y : gY) (M : gMem) {kd : Nat} (h : kd < 6) : ∃ (ci : Nat) (C : String) (T : u_T) (N : Nat), gcel Y M 0 (52 + kd) = .inr (ci, []) ∧ vwCl[ci]? = some (C, T, N) := by
  match kd, h with
  | 0, _ => exact ⟨4, _, _, _, rfl, rfl⟩
  | 1, _ => exact ⟨6, _, _, _, rfl, rfl⟩
  | 2, _ => exact ⟨0, _, _, _, rfl, rfl⟩
  | 3, _ => exact ⟨8, _, _, _, rfl, rfl⟩
  | 4, _ => exact ⟨2, _, _, _, rfl, rfl⟩
  | 5, _ => exact ⟨5, _, _, _, rfl, rfl⟩
end
section
theorem dX4_contentBy_0 : decode cX4_contentBy 0 = .ok (.iconst 5, 1) := by decide +kernel
theorem dX4_contentBy_1 : decode cX4_contentBy 1 = .ok (.ireturn, 1) := by decide +kernel
def x_X4_contentBy (kd : Nat) (p1 : Int32) (p2 : Int32) : Option Int32 := some 5
set_option maxRecDepth 100000 in
set_option maxHeartbeats 4000000 in
theorem c_X4_contentBy {l : Launch} {Y : gY} {M : gMem} {kd : Nat} {p1 : Int32} {p2 : Int32} {r : Int32} (hkd : kd < 6) (hx : x_X4_contentBy kd p1 p2 = some r) : Met l yX4_contentBy (gws yX4_contentBy cX4_contentBy 3 (some .int)) { frames := 0, cells := 0, slots := 0, locals := 0 } (va_Pc [.ref (gad Y 0 (52 + kd)), .int p1, .int p2] (gS0 Y M)) (gQi Y (r, M)) 0 0 (gA Y) := by
  refine gmet (lv := [(0, .ref (gad Y 0 (52 + kd))), (1, .int p1), (2, .int p2)]) "GuestStaff$Plain" (by decide) rfl (Nat.le_of_ble_eq_true rfl) rfl (fun X hC hF => ?_)
  unfold x_X4_contentBy at hx
  refine q_iconst hC 5 dX4_contentBy_0 rfl ?_
  exact q_iret hC hF dX4_contentBy_1 (congrArg (fun z => (z, M)) (Option.some.inj hx))

theorem dX0_contentBy_0 : decode cX0_contentBy 0 = .ok (.iconst 2, 1) := by decide +kernel
theorem dX0_contentBy_1 : decode cX0_contentBy 1 = .ok (.aload_n 0, 1) := by decide +kernel
theorem dX0_contentBy_2 : decode cX0_contentBy 2 = .ok (.iload_n 1, 1) := by decide +kernel
theorem dX0_contentBy_3 : decode cX0_contentBy 3 = .ok (.iload_n 2, 1) := by decide +kernel
theorem dX0_contentBy_4 : decode cX0_contentBy 4 = .ok (.invokespecial 7, 3) := by decide +kernel
theorem dX0_contentBy_7 : decode cX0_contentBy 7 = .ok (.imul, 1) := by decide +kernel
theorem dX0_contentBy_8 : decode cX0_contentBy 8 = .ok (.ireturn, 1) := by decide +kernel
def x_X0_contentBy (kd : Nat) (p1 : Int32) (p2 : Int32) : Option Int32 := Option.bind (x_X4_contentBy kd p1 p2) (fun v1 => some (2 * v1))
set_option maxRecDepth 100000 in
set_option maxHeartbeats 4000000 in
theorem c_X0_contentBy {l : Launch} {Y : gY} {M : gMem} {kd : Nat} {p1 : Int32} {p2 : Int32} {r : Int32} (hkd : kd < 6) (hx : x_X0_contentBy kd p1 p2 = some r) : Met l yX0_contentBy (gws yX0_contentBy cX0_contentBy 3 (some .int)) { frames := 1, cells := 0, slots := 0, locals := 22 } (va_Pc [.ref (gad Y 0 (52 + kd)), .int p1, .int p2] (gS0 Y M)) (gQi Y (r, M)) 0 0 (gA Y) := by
  refine gmet (lv := [(0, .ref (gad Y 0 (52 + kd))), (1, .int p1), (2, .int p2)]) "GuestStaff$Banker" (by decide) rfl (Nat.le_of_ble_eq_true rfl) rfl (fun X hC hF => ?_)
  unfold x_X0_contentBy at hx
  obtain ⟨ci, C, T, N, hek, hek2⟩ := gkind Y M hkd
  refine q_iconst hC 2 dX0_contentBy_0 rfl ?_
  refine q_aload_n hC 0 dX0_contentBy_1 rfl rfl ?_
  refine q_iload_n hC 1 dX0_contentBy_2 rfl rfl ?_
  refine q_iload_n hC 2 dX0_contentBy_3 rfl rfl ?_
  obtain ⟨v1, q2, hx⟩ := gb_e hx
  refine q_kip (q_rU (As := [.int p1, .int p2]) (rest := [.int 2]) hC mt_X4_contentBy mi_X4_contentBy wM_X0_7 wA_X4_contentBy wU_X0 (by decide) (c_X4_contentBy hkd q2) ⟨rfl, rfl, Nat.le_of_ble_eq_true rfl, Nat.le_of_ble_eq_true rfl⟩ (gV_t (by omega) (by omega)) hek hek2 rfl rfl (Nat.le_of_ble_eq_true rfl) dX0_contentBy_4) ?_
  refine q_imul hC dX0_contentBy_7 ?_
  exact q_iret hC hF dX0_contentBy_8 (congrArg (fun z => (z, M)) (Option.some.inj hx))

theorem dX4_workOn_0 : decode cX4_workOn 0 = .ok (.iconst 2, 1) := by decide +kernel
theorem dX4_workOn_1 : decode cX4_workOn 1 = .ok (.ireturn, 1) := by decide +kernel
def x_X4_workOn (kd : Nat) (p1 : Int32) : Option Int32 := some 2
set_option maxRecDepth 100000 in
set_option maxHeartbeats 4000000 in
theorem c_X4_workOn {l : Launch} {Y : gY} {M : gMem} {kd : Nat} {p1 : Int32} {r : Int32} (hkd : kd < 6) (hx : x_X4_workOn kd p1 = some r) : Met l yX4_workOn (gws yX4_workOn cX4_workOn 2 (some .int)) { frames := 0, cells := 0, slots := 0, locals := 0 } (va_Pc [.ref (gad Y 0 (52 + kd)), .int p1] (gS0 Y M)) (gQi Y (r, M)) 0 0 (gA Y) := by
  refine gmet (lv := [(0, .ref (gad Y 0 (52 + kd))), (1, .int p1)]) "GuestStaff$Plain" (by decide) rfl (Nat.le_of_ble_eq_true rfl) rfl (fun X hC hF => ?_)
  unfold x_X4_workOn at hx
  refine q_iconst hC 2 dX4_workOn_0 rfl ?_
  exact q_iret hC hF dX4_workOn_1 (congrArg (fun z => (z, M)) (Option.some.inj hx))

theorem dX0_workOn_0 : decode cX0_workOn 0 = .ok (.aload_n 0, 1) := by decide +kernel
theorem dX0_workOn_1 : decode cX0_workOn 1 = .ok (.iload_n 1, 1) := by decide +kernel
theorem dX0_workOn_2 : decode cX0_workOn 2 = .ok (.invokespecial 11, 3) := by decide +kernel
theorem dX0_workOn_5 : decode cX0_workOn 5 = .ok (.iload_n 1, 1) := by decide +kernel
theorem dX0_workOn_6 : decode cX0_workOn 6 = .ok (.iadd, 1) := by decide +kernel
theorem dX0_workOn_7 : decode cX0_workOn 7 = .ok (.ireturn, 1) := by decide +kernel
def x_X0_workOn (kd : Nat) (p1 : Int32) : Option Int32 := Option.bind (x_X4_workOn kd p1) (fun v1 => some (v1 + p1))
set_option maxRecDepth 100000 in
set_option maxHeartbeats 4000000 in
theorem c_X0_workOn {l : Launch} {Y : gY} {M : gMem} {kd : Nat} {p1 : Int32} {r : Int32} (hkd : kd < 6) (hx : x_X0_workOn kd p1 = some r) : Met l yX0_workOn (gws yX0_workOn cX0_workOn 2 (some .int)) { frames := 1, cells := 0, slots := 0, locals := 21 } (va_Pc [.ref (gad Y 0 (52 + kd)), .int p1] (gS0 Y M)) (gQi Y (r, M)) 0 0 (gA Y) := by
  refine gmet (lv := [(0, .ref (gad Y 0 (52 + kd))), (1, .int p1)]) "GuestStaff$Banker" (by decide) rfl (Nat.le_of_ble_eq_true rfl) rfl (fun X hC hF => ?_)
  unfold x_X0_workOn at hx
  obtain ⟨ci, C, T, N, hek, hek2⟩ := gkind Y M hkd
  refine q_aload_n hC 0 dX0_workOn_0 rfl rfl ?_
  refine q_iload_n hC 1 dX0_workOn_1 rfl rfl ?_
  obtain ⟨v1, q2, hx⟩ := gb_e hx
  refine q_kip (q_rU (As := [.int p1]) (rest := []) hC mt_X4_workOn mi_X4_workOn wM_X0_11 wA_X4_workOn wU_X0 (by decide) (c_X4_workOn hkd q2) ⟨rfl, rfl, Nat.le_of_ble_eq_true rfl, Nat.le_of_ble_eq_true rfl⟩ (gV_t (by omega) (by omega)) hek hek2 rfl rfl (Nat.le_of_ble_eq_true rfl) dX0_workOn_2) ?_
  refine q_iload_n hC 1 dX0_workOn_5 rfl rfl ?_
  refine q_iadd hC dX0_workOn_6 ?_
  exact q_iret hC hF dX0_workOn_7 (congrArg (fun z => (z, M)) (Option.some.inj hx))

theorem dX6_contentBy_0 : decode cX6_contentBy 0 = .ok (.aload_n 0, 1) := by decide +kernel
theorem dX6_contentBy_1 : decode cX6_contentBy 1 = .ok (.iload_n 1, 1) := by decide +kernel
theorem dX6_contentBy_2 : decode cX6_contentBy 2 = .ok (.iload_n 2, 1) := by decide +kernel
theorem dX6_contentBy_3 : decode cX6_contentBy 3 = .ok (.invokespecial 9, 3) := by decide +kernel
theorem dX6_contentBy_6 : decode cX6_contentBy 6 = .ok (.istore_n 3, 1) := by decide +kernel
theorem dX6_contentBy_7 : decode cX6_contentBy 7 = .ok (.iload_n 1, 1) := by decide +kernel
theorem dX6_contentBy_8 : decode cX6_contentBy 8 = .ok (.iconst 1, 1) := by decide +kernel
theorem dX6_contentBy_9 : decode cX6_contentBy 9 = .ok (.if_icmp .ne 9, 3) := by decide +kernel
theorem dX6_contentBy_12 : decode cX6_contentBy 12 = .ok (.iload_n 3, 1) := by decide +kernel
theorem dX6_contentBy_13 : decode cX6_contentBy 13 = .ok (.iconst 3, 1) := by decide +kernel
theorem dX6_contentBy_14 : decode cX6_contentBy 14 = .ok (.iadd, 1) := by decide +kernel
theorem dX6_contentBy_15 : decode cX6_contentBy 15 = .ok (.goto 4, 3) := by decide +kernel
theorem dX6_contentBy_18 : decode cX6_contentBy 18 = .ok (.iload_n 3, 1) := by decide +kernel
theorem dX6_contentBy_19 : decode cX6_contentBy 19 = .ok (.ireturn, 1) := by decide +kernel
def x_X6_contentBy (kd : Nat) (p1 : Int32) (p2 : Int32) : Option Int32 := Option.bind (x_X4_contentBy kd p1 p2) (fun v1 => (if p1 = 1 then some (v1 + 3) else some v1))
set_option maxRecDepth 100000 in
set_option maxHeartbeats 4000000 in
theorem c_X6_contentBy {l : Launch} {Y : gY} {M : gMem} {kd : Nat} {p1 : Int32} {p2 : Int32} {r : Int32} (hkd : kd < 6) (hx : x_X6_contentBy kd p1 p2 = some r) : Met l yX6_contentBy (gws yX6_contentBy cX6_contentBy 4 (some .int)) { frames := 1, cells := 0, slots := 0, locals := 22 } (va_Pc [.ref (gad Y 0 (52 + kd)), .int p1, .int p2] (gS0 Y M)) (gQi Y (r, M)) 0 0 (gA Y) := by
  refine gmet (lv := [(0, .ref (gad Y 0 (52 + kd))), (1, .int p1), (2, .int p2)]) "GuestStaff$Quiet" (by decide) rfl (Nat.le_of_ble_eq_true rfl) rfl (fun X hC hF => ?_)
  unfold x_X6_contentBy at hx
  obtain ⟨ci, C, T, N, hek, hek2⟩ := gkind Y M hkd
  refine q_aload_n hC 0 dX6_contentBy_0 rfl rfl ?_
  refine q_iload_n hC 1 dX6_contentBy_1 rfl rfl ?_
  refine q_iload_n hC 2 dX6_contentBy_2 rfl rfl ?_
  obtain ⟨v1, q2, hx⟩ := gb_e hx
  refine q_kip (q_rU (As := [.int p1, .int p2]) (rest := []) hC mt_X4_contentBy mi_X4_contentBy wM_X6_9 wA_X4_contentBy wU_X6 (by decide) (c_X4_contentBy hkd q2) ⟨rfl, rfl, Nat.le_of_ble_eq_true rfl, Nat.le_of_ble_eq_true rfl⟩ (gV_t (by omega) (by omega)) hek hek2 rfl rfl (Nat.le_of_ble_eq_true rfl) dX6_contentBy_3) ?_
  refine q_istore_n hC [(3, .int v1), (0, .ref (gad Y 0 (52 + kd))), (1, .int p1), (2, .int p2)] dX6_contentBy_6 rfl (by decide) rfl ?_
  refine q_iload_n hC 2 dX6_contentBy_7 rfl rfl ?_
  refine q_iconst hC 1 dX6_contentBy_8 rfl ?_
  refine q_ic_ne hC 18 dX6_contentBy_9 rfl (fun h3 => ?_) (fun h3 => ?_)
  · have hx := gi_n h3 hx
    refine q_iload_n hC 0 dX6_contentBy_18 rfl rfl ?_
    exact q_iret hC hF dX6_contentBy_19 (congrArg (fun z => (z, M)) (Option.some.inj hx))
  · have hx := gi_p h3 hx
    refine q_iload_n hC 0 dX6_contentBy_12 rfl rfl ?_
    refine q_iconst hC 3 dX6_contentBy_13 rfl ?_
    refine q_iadd hC dX6_contentBy_14 ?_
    refine q_goto hC 19 dX6_contentBy_15 rfl ?_
    exact q_iret hC hF dX6_contentBy_19 (congrArg (fun z => (z, M)) (Option.some.inj hx))

theorem dX2_contentBy_0 : decode cX2_contentBy 0 = .ok (.iload_n 2, 1) := by decide +kernel
theorem dX2_contentBy_1 : decode cX2_contentBy 1 = .ok (.iconst 4, 1) := by decide +kernel
theorem dX2_contentBy_2 : decode cX2_contentBy 2 = .ok (.irem, 1) := by decide +kernel
theorem dX2_contentBy_3 : decode cX2_contentBy 3 = .ok (.ifCond .ne 7, 3) := by decide +kernel
theorem dX2_contentBy_6 : decode cX2_contentBy 6 = .ok (.iconst 0, 1) := by decide +kernel
theorem dX2_contentBy_7 : decode cX2_contentBy 7 = .ok (.goto 9, 3) := by decide +kernel
theorem dX2_contentBy_10 : decode cX2_contentBy 10 = .ok (.aload_n 0, 1) := by decide +kernel
theorem dX2_contentBy_11 : decode cX2_contentBy 11 = .ok (.iload_n 1, 1) := by decide +kernel
theorem dX2_contentBy_12 : decode cX2_contentBy 12 = .ok (.iload_n 2, 1) := by decide +kernel
theorem dX2_contentBy_13 : decode cX2_contentBy 13 = .ok (.invokespecial 7, 3) := by decide +kernel
theorem dX2_contentBy_16 : decode cX2_contentBy 16 = .ok (.ireturn, 1) := by decide +kernel
def x_X2_contentBy (kd : Nat) (p1 : Int32) (p2 : Int32) : Option Int32 := (if (p2 - p2 / 4 * 4) = 0 then some 0 else Option.bind (x_X6_contentBy kd p1 p2) (fun v2 => some v2))
set_option maxRecDepth 100000 in
set_option maxHeartbeats 4000000 in
theorem c_X2_contentBy {l : Launch} {Y : gY} {M : gMem} {kd : Nat} {p1 : Int32} {p2 : Int32} {r : Int32} (hkd : kd < 6) (hx : x_X2_contentBy kd p1 p2 = some r) : Met l yX2_contentBy (gws yX2_contentBy cX2_contentBy 3 (some .int)) { frames := 2, cells := 0, slots := 0, locals := 45 } (va_Pc [.ref (gad Y 0 (52 + kd)), .int p1, .int p2] (gS0 Y M)) (gQi Y (r, M)) 0 0 (gA Y) := by
  refine gmet (lv := [(0, .ref (gad Y 0 (52 + kd))), (1, .int p1), (2, .int p2)]) "GuestStaff$Late" (by decide) rfl (Nat.le_of_ble_eq_true rfl) rfl (fun X hC hF => ?_)
  unfold x_X2_contentBy at hx
  obtain ⟨ci, C, T, N, hek, hek2⟩ := gkind Y M hkd
  refine q_iload_n hC 2 dX2_contentBy_0 rfl rfl ?_
  refine q_iconst hC 4 dX2_contentBy_1 rfl ?_
  refine q_irem hC dX2_contentBy_2 (by decide) ?_
  refine q_if_ne hC 10 dX2_contentBy_3 rfl (fun h1 => ?_) (fun h1 => ?_)
  · have hx := gi_n h1 hx
    refine q_aload_n hC 0 dX2_contentBy_10 rfl rfl ?_
    refine q_iload_n hC 1 dX2_contentBy_11 rfl rfl ?_
    refine q_iload_n hC 2 dX2_contentBy_12 rfl rfl ?_
    obtain ⟨v2, q3, hx⟩ := gb_e hx
    refine q_kip (q_rU (As := [.int p1, .int p2]) (rest := []) hC mt_X6_contentBy mi_X6_contentBy wM_X2_7 wA_X6_contentBy wU_X2 (by decide) (c_X6_contentBy hkd q3) ⟨rfl, rfl, Nat.le_of_ble_eq_true rfl, Nat.le_of_ble_eq_true rfl⟩ (gV_t (by omega) (by omega)) hek hek2 rfl rfl (Nat.le_of_ble_eq_true rfl) dX2_contentBy_13) ?_
    exact q_iret hC hF dX2_contentBy_16 (congrArg (fun z => (z, M)) (Option.some.inj hx))
  · have hx := gi_p h1 hx
    refine q_iconst hC 0 dX2_contentBy_6 rfl ?_
    refine q_goto hC 16 dX2_contentBy_7 rfl ?_
    exact q_iret hC hF dX2_contentBy_16 (congrArg (fun z => (z, M)) (Option.some.inj hx))

theorem dX5_contentBy_0 : decode cX5_contentBy 0 = .ok (.aload_n 0, 1) := by decide +kernel
theorem dX5_contentBy_1 : decode cX5_contentBy 1 = .ok (.iload_n 1, 1) := by decide +kernel
theorem dX5_contentBy_2 : decode cX5_contentBy 2 = .ok (.iload_n 2, 1) := by decide +kernel
theorem dX5_contentBy_3 : decode cX5_contentBy 3 = .ok (.invokespecial 7, 3) := by decide +kernel
theorem dX5_contentBy_6 : decode cX5_contentBy 6 = .ok (.iconst 4, 1) := by decide +kernel
theorem dX5_contentBy_7 : decode cX5_contentBy 7 = .ok (.isub, 1) := by decide +kernel
theorem dX5_contentBy_8 : decode cX5_contentBy 8 = .ok (.ireturn, 1) := by decide +kernel
def x_X5_contentBy (kd : Nat) (p1 : Int32) (p2 : Int32) : Option Int32 := Option.bind (x_X0_contentBy kd p1 p2) (fun v1 => some (v1 - 4))
set_option maxRecDepth 100000 in
set_option maxHeartbeats 4000000 in
theorem c_X5_contentBy {l : Launch} {Y : gY} {M : gMem} {kd : Nat} {p1 : Int32} {p2 : Int32} {r : Int32} (hkd : kd < 6) (hx : x_X5_contentBy kd p1 p2 = some r) : Met l yX5_contentBy (gws yX5_contentBy cX5_contentBy 3 (some .int)) { frames := 2, cells := 0, slots := 0, locals := 44 } (va_Pc [.ref (gad Y 0 (52 + kd)), .int p1, .int p2] (gS0 Y M)) (gQi Y (r, M)) 0 0 (gA Y) := by
  refine gmet (lv := [(0, .ref (gad Y 0 (52 + kd))), (1, .int p1), (2, .int p2)]) "GuestStaff$Polisher" (by decide) rfl (Nat.le_of_ble_eq_true rfl) rfl (fun X hC hF => ?_)
  unfold x_X5_contentBy at hx
  obtain ⟨ci, C, T, N, hek, hek2⟩ := gkind Y M hkd
  refine q_aload_n hC 0 dX5_contentBy_0 rfl rfl ?_
  refine q_iload_n hC 1 dX5_contentBy_1 rfl rfl ?_
  refine q_iload_n hC 2 dX5_contentBy_2 rfl rfl ?_
  obtain ⟨v1, q2, hx⟩ := gb_e hx
  refine q_kip (q_rU (As := [.int p1, .int p2]) (rest := []) hC mt_X0_contentBy mi_X0_contentBy wM_X5_7 wA_X0_contentBy wU_X5 (by decide) (c_X0_contentBy hkd q2) ⟨rfl, rfl, Nat.le_of_ble_eq_true rfl, Nat.le_of_ble_eq_true rfl⟩ (gV_t (by omega) (by omega)) hek hek2 rfl rfl (Nat.le_of_ble_eq_true rfl) dX5_contentBy_3) ?_
  refine q_iconst hC 4 dX5_contentBy_6 rfl ?_
  refine q_isub hC dX5_contentBy_7 ?_
  exact q_iret hC hF dX5_contentBy_8 (congrArg (fun z => (z, M)) (Option.some.inj hx))

theorem dX5_workOn_0 : decode cX5_workOn 0 = .ok (.aload_n 0, 1) := by decide +kernel
theorem dX5_workOn_1 : decode cX5_workOn 1 = .ok (.iload_n 1, 1) := by decide +kernel
theorem dX5_workOn_2 : decode cX5_workOn 2 = .ok (.invokespecial 11, 3) := by decide +kernel
theorem dX5_workOn_5 : decode cX5_workOn 5 = .ok (.iconst 2, 1) := by decide +kernel
theorem dX5_workOn_6 : decode cX5_workOn 6 = .ok (.idiv, 1) := by decide +kernel
theorem dX5_workOn_7 : decode cX5_workOn 7 = .ok (.ireturn, 1) := by decide +kernel
def x_X5_workOn (kd : Nat) (p1 : Int32) : Option Int32 := Option.bind (x_X0_workOn kd p1) (fun v1 => some (v1 / 2))
set_option maxRecDepth 100000 in
set_option maxHeartbeats 4000000 in
theorem c_X5_workOn {l : Launch} {Y : gY} {M : gMem} {kd : Nat} {p1 : Int32} {r : Int32} (hkd : kd < 6) (hx : x_X5_workOn kd p1 = some r) : Met l yX5_workOn (gws yX5_workOn cX5_workOn 2 (some .int)) { frames := 2, cells := 0, slots := 0, locals := 42 } (va_Pc [.ref (gad Y 0 (52 + kd)), .int p1] (gS0 Y M)) (gQi Y (r, M)) 0 0 (gA Y) := by
  refine gmet (lv := [(0, .ref (gad Y 0 (52 + kd))), (1, .int p1)]) "GuestStaff$Polisher" (by decide) rfl (Nat.le_of_ble_eq_true rfl) rfl (fun X hC hF => ?_)
  unfold x_X5_workOn at hx
  obtain ⟨ci, C, T, N, hek, hek2⟩ := gkind Y M hkd
  refine q_aload_n hC 0 dX5_workOn_0 rfl rfl ?_
  refine q_iload_n hC 1 dX5_workOn_1 rfl rfl ?_
  obtain ⟨v1, q2, hx⟩ := gb_e hx
  refine q_kip (q_rU (As := [.int p1]) (rest := []) hC mt_X0_workOn mi_X0_workOn wM_X5_11 wA_X0_workOn wU_X5 (by decide) (c_X0_workOn hkd q2) ⟨rfl, rfl, Nat.le_of_ble_eq_true rfl, Nat.le_of_ble_eq_true rfl⟩ (gV_t (by omega) (by omega)) hek hek2 rfl rfl (Nat.le_of_ble_eq_true rfl) dX5_workOn_2) ?_
  refine q_iconst hC 2 dX5_workOn_5 rfl ?_
  refine q_idiv hC dX5_workOn_6 (by decide) ?_
  exact q_iret hC hF dX5_workOn_7 (congrArg (fun z => (z, M)) (Option.some.inj hx))

theorem dX6_workOn_0 : decode cX6_workOn 0 = .ok (.aload_n 0, 1) := by decide +kernel
theorem dX6_workOn_1 : decode cX6_workOn 1 = .ok (.iload_n 1, 1) := by decide +kernel
theorem dX6_workOn_2 : decode cX6_workOn 2 = .ok (.invokespecial 13, 3) := by decide +kernel
theorem dX6_workOn_5 : decode cX6_workOn 5 = .ok (.iconst 1, 1) := by decide +kernel
theorem dX6_workOn_6 : decode cX6_workOn 6 = .ok (.isub, 1) := by decide +kernel
theorem dX6_workOn_7 : decode cX6_workOn 7 = .ok (.ireturn, 1) := by decide +kernel
def x_X6_workOn (kd : Nat) (p1 : Int32) : Option Int32 := Option.bind (x_X4_workOn kd p1) (fun v1 => some (v1 - 1))
set_option maxRecDepth 100000 in
set_option maxHeartbeats 4000000 in
theorem c_X6_workOn {l : Launch} {Y : gY} {M : gMem} {kd : Nat} {p1 : Int32} {r : Int32} (hkd : kd < 6) (hx : x_X6_workOn kd p1 = some r) : Met l yX6_workOn (gws yX6_workOn cX6_workOn 2 (some .int)) { frames := 1, cells := 0, slots := 0, locals := 21 } (va_Pc [.ref (gad Y 0 (52 + kd)), .int p1] (gS0 Y M)) (gQi Y (r, M)) 0 0 (gA Y) := by
  refine gmet (lv := [(0, .ref (gad Y 0 (52 + kd))), (1, .int p1)]) "GuestStaff$Quiet" (by decide) rfl (Nat.le_of_ble_eq_true rfl) rfl (fun X hC hF => ?_)
  unfold x_X6_workOn at hx
  obtain ⟨ci, C, T, N, hek, hek2⟩ := gkind Y M hkd
  refine q_aload_n hC 0 dX6_workOn_0 rfl rfl ?_
  refine q_iload_n hC 1 dX6_workOn_1 rfl rfl ?_
  obtain ⟨v1, q2, hx⟩ := gb_e hx
  refine q_kip (q_rU (As := [.int p1]) (rest := []) hC mt_X4_workOn mi_X4_workOn wM_X6_13 wA_X4_workOn wU_X6 (by decide) (c_X4_workOn hkd q2) ⟨rfl, rfl, Nat.le_of_ble_eq_true rfl, Nat.le_of_ble_eq_true rfl⟩ (gV_t (by omega) (by omega)) hek hek2 rfl rfl (Nat.le_of_ble_eq_true rfl) dX6_workOn_2) ?_
  refine q_iconst hC 1 dX6_workOn_5 rfl ?_
  refine q_isub hC dX6_workOn_6 ?_
  exact q_iret hC hF dX6_workOn_7 (congrArg (fun z => (z, M)) (Option.some.inj hx))

theorem dX8_contentBy_0 : decode cX8_contentBy 0 = .ok (.aload_n 0, 1) := by decide +kernel
theorem dX8_contentBy_1 : decode cX8_contentBy 1 = .ok (.iload_n 1, 1) := by decide +kernel
theorem dX8_contentBy_2 : decode cX8_contentBy 2 = .ok (.iload_n 2, 1) := by decide +kernel
theorem dX8_contentBy_3 : decode cX8_contentBy 3 = .ok (.invokespecial 7, 3) := by decide +kernel
theorem dX8_contentBy_6 : decode cX8_contentBy 6 = .ok (.istore_n 3, 1) := by decide +kernel
theorem dX8_contentBy_7 : decode cX8_contentBy 7 = .ok (.iload_n 2, 1) := by decide +kernel
theorem dX8_contentBy_8 : decode cX8_contentBy 8 = .ok (.iconst 2, 1) := by decide +kernel
theorem dX8_contentBy_9 : decode cX8_contentBy 9 = .ok (.irem, 1) := by decide +kernel
theorem dX8_contentBy_10 : decode cX8_contentBy 10 = .ok (.ifCond .ne 9, 3) := by decide +kernel
theorem dX8_contentBy_13 : decode cX8_contentBy 13 = .ok (.iload_n 3, 1) := by decide +kernel
theorem dX8_contentBy_14 : decode cX8_contentBy 14 = .ok (.iconst 2, 1) := by decide +kernel
theorem dX8_contentBy_15 : decode cX8_contentBy 15 = .ok (.isub, 1) := by decide +kernel
theorem dX8_contentBy_16 : decode cX8_contentBy 16 = .ok (.goto 4, 3) := by decide +kernel
theorem dX8_contentBy_19 : decode cX8_contentBy 19 = .ok (.iload_n 3, 1) := by decide +kernel
theorem dX8_contentBy_20 : decode cX8_contentBy 20 = .ok (.ireturn, 1) := by decide +kernel
def x_X8_contentBy (kd : Nat) (p1 : Int32) (p2 : Int32) : Option Int32 := Option.bind (x_X4_contentBy kd p1 p2) (fun v1 => (if (p2 - p2 / 2 * 2) = 0 then some (v1 - 2) else some v1))
set_option maxRecDepth 100000 in
set_option maxHeartbeats 4000000 in
theorem c_X8_contentBy {l : Launch} {Y : gY} {M : gMem} {kd : Nat} {p1 : Int32} {p2 : Int32} {r : Int32} (hkd : kd < 6) (hx : x_X8_contentBy kd p1 p2 = some r) : Met l yX8_contentBy (gws yX8_contentBy cX8_contentBy 4 (some .int)) { frames := 1, cells := 0, slots := 0, locals := 22 } (va_Pc [.ref (gad Y 0 (52 + kd)), .int p1, .int p2] (gS0 Y M)) (gQi Y (r, M)) 0 0 (gA Y) := by
  refine gmet (lv := [(0, .ref (gad Y 0 (52 + kd))), (1, .int p1), (2, .int p2)]) "GuestStaff$Shouter" (by decide) rfl (Nat.le_of_ble_eq_true rfl) rfl (fun X hC hF => ?_)
  unfold x_X8_contentBy at hx
  obtain ⟨ci, C, T, N, hek, hek2⟩ := gkind Y M hkd
  refine q_aload_n hC 0 dX8_contentBy_0 rfl rfl ?_
  refine q_iload_n hC 1 dX8_contentBy_1 rfl rfl ?_
  refine q_iload_n hC 2 dX8_contentBy_2 rfl rfl ?_
  obtain ⟨v1, q2, hx⟩ := gb_e hx
  refine q_kip (q_rU (As := [.int p1, .int p2]) (rest := []) hC mt_X4_contentBy mi_X4_contentBy wM_X8_7 wA_X4_contentBy wU_X8 (by decide) (c_X4_contentBy hkd q2) ⟨rfl, rfl, Nat.le_of_ble_eq_true rfl, Nat.le_of_ble_eq_true rfl⟩ (gV_t (by omega) (by omega)) hek hek2 rfl rfl (Nat.le_of_ble_eq_true rfl) dX8_contentBy_3) ?_
  refine q_istore_n hC [(3, .int v1), (0, .ref (gad Y 0 (52 + kd))), (1, .int p1), (2, .int p2)] dX8_contentBy_6 rfl (by decide) rfl ?_
  refine q_iload_n hC 3 dX8_contentBy_7 rfl rfl ?_
  refine q_iconst hC 2 dX8_contentBy_8 rfl ?_
  refine q_irem hC dX8_contentBy_9 (by decide) ?_
  refine q_if_ne hC 19 dX8_contentBy_10 rfl (fun h3 => ?_) (fun h3 => ?_)
  · have hx := gi_n h3 hx
    refine q_iload_n hC 0 dX8_contentBy_19 rfl rfl ?_
    exact q_iret hC hF dX8_contentBy_20 (congrArg (fun z => (z, M)) (Option.some.inj hx))
  · have hx := gi_p h3 hx
    refine q_iload_n hC 0 dX8_contentBy_13 rfl rfl ?_
    refine q_iconst hC 2 dX8_contentBy_14 rfl ?_
    refine q_isub hC dX8_contentBy_15 ?_
    refine q_goto hC 20 dX8_contentBy_16 rfl ?_
    exact q_iret hC hF dX8_contentBy_20 (congrArg (fun z => (z, M)) (Option.some.inj hx))
end
section
def x_K_contentBy (kd : Nat) (p1 p2 : Int32) : Option Int32 := if kd = 0 then x_X4_contentBy kd p1 p2 else if kd = 1 then x_X6_contentBy kd p1 p2 else if kd = 2 then x_X0_contentBy kd p1 p2 else if kd = 3 then x_X8_contentBy kd p1 p2 else if kd = 4 then x_X2_contentBy kd p1 p2 else x_X5_contentBy kd p1 p2
set_option maxRecDepth 100000 in
theorem q_rKc {X : gX} {Y : gY} {cc : ByteArray} {own : String} {nL fr lo pc idx kd : Nat} {lv : List (Nat × Value)} {st As rest : List Value} {M : gMem} {p1 p2 v : Int32} (hC : gC X Y cc own nL fr lo) (hl : Cond.methodLink own idx yX4_contentBy ∈ gTs) (hk : kd < 6) (hx : x_K_contentBy kd p1 p2 = some v) (hfr : 4 ≤ fr) (hlo : 87 ≤ lo) (hA : As = [.int p1, .int p2]) (hst : st = As.reverse ++ .ref (gad Y 0 (52 + kd)) :: rest) (hrest : (rest.map fun v => v.category).sum ≤ 8) (hd : decode cc pc = .ok (.invokevirtual idx, 3)) : ∃ a, gRun X Y nL pc lv st rest M (gQi Y (v, M) a) := by
  subst hA
  match kd, hk, hx, hst with
  | 0, hk, hx, hst => exact ⟨_, q_rD (C := "GuestStaff$Plain") (o := 52) hC mt_X4_contentBy mi_X4_contentBy mi_X4_contentBy ⟨by decide, by decide, rfl⟩ hl wA_X4_contentBy mm_X4_contentBy.2.2 ⟨_, _, _, mt_X4_contentBy.1⟩ (c_X4_contentBy hk hx) ⟨rfl, rfl, Nat.le_trans (Nat.le_of_ble_eq_true rfl) hfr, Nat.le_trans (Nat.le_of_ble_eq_true rfl) hlo⟩ (gV_t (by decide) (by decide)) rfl rfl rfl hst hrest hd⟩
  | 1, hk, hx, hst => exact ⟨_, q_rD (C := "GuestStaff$Quiet") (o := 53) hC mt_X6_contentBy mi_X6_contentBy mi_X4_contentBy ⟨by decide, by decide, rfl⟩ hl wA_X4_contentBy wS_X6_contentBy ⟨_, _, _, mt_X4_contentBy.1⟩ (c_X6_contentBy hk hx) ⟨rfl, rfl, Nat.le_trans (Nat.le_of_ble_eq_true rfl) hfr, Nat.le_trans (Nat.le_of_ble_eq_true rfl) hlo⟩ (gV_t (by decide) (by decide)) rfl rfl rfl hst hrest hd⟩
  | 2, hk, hx, hst => exact ⟨_, q_rD (C := "GuestStaff$Banker") (o := 54) hC mt_X0_contentBy mi_X0_contentBy mi_X4_contentBy ⟨by decide, by decide, rfl⟩ hl wA_X4_contentBy wS_X0_contentBy ⟨_, _, _, mt_X4_contentBy.1⟩ (c_X0_contentBy hk hx) ⟨rfl, rfl, Nat.le_trans (Nat.le_of_ble_eq_true rfl) hfr, Nat.le_trans (Nat.le_of_ble_eq_true rfl) hlo⟩ (gV_t (by decide) (by decide)) rfl rfl rfl hst hrest hd⟩
  | 3, hk, hx, hst => exact ⟨_, q_rD (C := "GuestStaff$Shouter") (o := 55) hC mt_X8_contentBy mi_X8_contentBy mi_X4_contentBy ⟨by decide, by decide, rfl⟩ hl wA_X4_contentBy wS_X8_contentBy ⟨_, _, _, mt_X4_contentBy.1⟩ (c_X8_contentBy hk hx) ⟨rfl, rfl, Nat.le_trans (Nat.le_of_ble_eq_true rfl) hfr, Nat.le_trans (Nat.le_of_ble_eq_true rfl) hlo⟩ (gV_t (by decide) (by decide)) rfl rfl rfl hst hrest hd⟩
  | 4, hk, hx, hst => exact ⟨_, q_rD (C := "GuestStaff$Late") (o := 56) hC mt_X2_contentBy mi_X2_contentBy mi_X4_contentBy ⟨by decide, by decide, rfl⟩ hl wA_X4_contentBy wS_X2_contentBy ⟨_, _, _, mt_X4_contentBy.1⟩ (c_X2_contentBy hk hx) ⟨rfl, rfl, Nat.le_trans (Nat.le_of_ble_eq_true rfl) hfr, Nat.le_trans (Nat.le_of_ble_eq_true rfl) hlo⟩ (gV_t (by decide) (by decide)) rfl rfl rfl hst hrest hd⟩
  | 5, hk, hx, hst => exact ⟨_, q_rD (C := "GuestStaff$Polisher") (o := 57) hC mt_X5_contentBy mi_X5_contentBy mi_X4_contentBy ⟨by decide, by decide, rfl⟩ hl wA_X4_contentBy wS_X5_contentBy ⟨_, _, _, mt_X4_contentBy.1⟩ (c_X5_contentBy hk hx) ⟨rfl, rfl, Nat.le_trans (Nat.le_of_ble_eq_true rfl) hfr, Nat.le_trans (Nat.le_of_ble_eq_true rfl) hlo⟩ (gV_t (by decide) (by decide)) rfl rfl rfl hst hrest hd⟩
def x_K_workOn (kd : Nat) (p1 : Int32) : Option Int32 := if kd = 0 then x_X4_workOn kd p1 else if kd = 1 then x_X6_workOn kd p1 else if kd = 2 then x_X0_workOn kd p1 else if kd = 3 then x_X4_workOn kd p1 else if kd = 4 then x_X6_workOn kd p1 else x_X5_workOn kd p1
set_option maxRecDepth 100000 in
theorem q_rKw {X : gX} {Y : gY} {cc : ByteArray} {own : String} {nL fr lo pc idx kd : Nat} {lv : List (Nat × Value)} {st As rest : List Value} {M : gMem} {p1 v : Int32} (hC : gC X Y cc own nL fr lo) (hl : Cond.methodLink own idx yX4_workOn ∈ gTs) (hk : kd < 6) (hx : x_K_workOn kd p1 = some v) (hfr : 4 ≤ fr) (hlo : 87 ≤ lo) (hA : As = [.int p1]) (hst : st = As.reverse ++ .ref (gad Y 0 (52 + kd)) :: rest) (hrest : (rest.map fun v => v.category).sum ≤ 8) (hd : decode cc pc = .ok (.invokevirtual idx, 3)) : ∃ a, gRun X Y nL pc lv st rest M (gQi Y (v, M) a) := by
  subst hA
  match kd, hk, hx, hst with
  | 0, hk, hx, hst => exact ⟨_, q_rD (C := "GuestStaff$Plain") (o := 52) hC mt_X4_workOn mi_X4_workOn mi_X4_workOn ⟨by decide, by decide, rfl⟩ hl wA_X4_workOn mm_X4_workOn.2.2 ⟨_, _, _, mt_X4_workOn.1⟩ (c_X4_workOn hk hx) ⟨rfl, rfl, Nat.le_trans (Nat.le_of_ble_eq_true rfl) hfr, Nat.le_trans (Nat.le_of_ble_eq_true rfl) hlo⟩ (gV_t (by decide) (by decide)) rfl rfl rfl hst hrest hd⟩
  | 1, hk, hx, hst => exact ⟨_, q_rD (C := "GuestStaff$Quiet") (o := 53) hC mt_X6_workOn mi_X6_workOn mi_X4_workOn ⟨by decide, by decide, rfl⟩ hl wA_X4_workOn wS_X6_workOn ⟨_, _, _, mt_X4_workOn.1⟩ (c_X6_workOn hk hx) ⟨rfl, rfl, Nat.le_trans (Nat.le_of_ble_eq_true rfl) hfr, Nat.le_trans (Nat.le_of_ble_eq_true rfl) hlo⟩ (gV_t (by decide) (by decide)) rfl rfl rfl hst hrest hd⟩
  | 2, hk, hx, hst => exact ⟨_, q_rD (C := "GuestStaff$Banker") (o := 54) hC mt_X0_workOn mi_X0_workOn mi_X4_workOn ⟨by decide, by decide, rfl⟩ hl wA_X4_workOn wS_X0_workOn ⟨_, _, _, mt_X4_workOn.1⟩ (c_X0_workOn hk hx) ⟨rfl, rfl, Nat.le_trans (Nat.le_of_ble_eq_true rfl) hfr, Nat.le_trans (Nat.le_of_ble_eq_true rfl) hlo⟩ (gV_t (by decide) (by decide)) rfl rfl rfl hst hrest hd⟩
  | 3, hk, hx, hst => exact ⟨_, q_rD (C := "GuestStaff$Shouter") (o := 55) hC mt_X4_workOn mi_X4_workOn mi_X4_workOn ⟨by decide, by decide, rfl⟩ hl wA_X4_workOn wS_X8_workOn ⟨_, _, _, mt_X4_workOn.1⟩ (c_X4_workOn hk hx) ⟨rfl, rfl, Nat.le_trans (Nat.le_of_ble_eq_true rfl) hfr, Nat.le_trans (Nat.le_of_ble_eq_true rfl) hlo⟩ (gV_t (by decide) (by decide)) rfl rfl rfl hst hrest hd⟩
  | 4, hk, hx, hst => exact ⟨_, q_rD (C := "GuestStaff$Late") (o := 56) hC mt_X6_workOn mi_X6_workOn mi_X4_workOn ⟨by decide, by decide, rfl⟩ hl wA_X4_workOn wS_X2_workOn ⟨_, _, _, mt_X4_workOn.1⟩ (c_X6_workOn hk hx) ⟨rfl, rfl, Nat.le_trans (Nat.le_of_ble_eq_true rfl) hfr, Nat.le_trans (Nat.le_of_ble_eq_true rfl) hlo⟩ (gV_t (by decide) (by decide)) rfl rfl rfl hst hrest hd⟩
  | 5, hk, hx, hst => exact ⟨_, q_rD (C := "GuestStaff$Polisher") (o := 57) hC mt_X5_workOn mi_X5_workOn mi_X4_workOn ⟨by decide, by decide, rfl⟩ hl wA_X4_workOn wS_X5_workOn ⟨_, _, _, mt_X4_workOn.1⟩ (c_X5_workOn hk hx) ⟨rfl, rfl, Nat.le_trans (Nat.le_of_ble_eq_true rfl) hfr, Nat.le_trans (Nat.le_of_ble_eq_true rfl) hlo⟩ (gV_t (by decide) (by decide)) rfl rfl rfl hst hrest hd⟩
end
section
theorem dX1_empty_0 : decode cX1_empty 0 = .ok (.aload_n 0, 1) := by decide +kernel
theorem dX1_empty_1 : decode cX1_empty 1 = .ok (.iconst 0, 1) := by decide +kernel
theorem dX1_empty_2 : decode cX1_empty 2 = .ok (.putfield 55, 3) := by decide +kernel
theorem dX1_empty_5 : decode cX1_empty 5 = .ok (.aload_n 0, 1) := by decide +kernel
theorem dX1_empty_6 : decode cX1_empty 6 = .ok (.iconst 0, 1) := by decide +kernel
theorem dX1_empty_7 : decode cX1_empty 7 = .ok (.putfield 58, 3) := by decide +kernel
theorem dX1_empty_10 : decode cX1_empty 10 = .ok (.aload_n 0, 1) := by decide +kernel
theorem dX1_empty_11 : decode cX1_empty 11 = .ok (.iconst 0, 1) := by decide +kernel
theorem dX1_empty_12 : decode cX1_empty 12 = .ok (.putfield 61, 3) := by decide +kernel
theorem dX1_empty_15 : decode cX1_empty 15 = .ok (.aload_n 0, 1) := by decide +kernel
theorem dX1_empty_16 : decode cX1_empty 16 = .ok (.iconst 0, 1) := by decide +kernel
theorem dX1_empty_17 : decode cX1_empty 17 = .ok (.putfield 52, 3) := by decide +kernel
theorem dX1_empty_20 : decode cX1_empty 20 = .ok (.aload_n 0, 1) := by decide +kernel
theorem dX1_empty_21 : decode cX1_empty 21 = .ok (.getfield 30, 3) := by decide +kernel
theorem dX1_empty_24 : decode cX1_empty 24 = .ok (.iconst 0, 1) := by decide +kernel
theorem dX1_empty_25 : decode cX1_empty 25 = .ok (.putfield 68, 3) := by decide +kernel
theorem dX1_empty_28 : decode cX1_empty 28 = .ok (.return_, 1) := by decide +kernel
def x_X1_empty (M : gMem) (c : Nat) : Option gMem := some (gwr (gwr (gwr (gwr (gwr M c 0 13 0) c 0 14 0) c 0 15 0) c 0 12 0) c 6 1 0)
set_option maxRecDepth 100000 in
set_option maxHeartbeats 4000000 in
theorem c_X1_empty {l : Launch} {Y : gY} {M : gMem} {c : Nat} {r : gMem} (hc : c < 4) (hx : x_X1_empty M c = some r) : Met l yX1_empty (gws yX1_empty cX1_empty 1 none) { frames := 0, cells := 0, slots := 0, locals := 0 } (va_Pc [.ref (gad Y c 0)] (gS0 Y M)) (gQv Y r) 0 0 (gA Y) := by
  refine gmet (lv := [(0, .ref (gad Y c 0))]) "GuestStaff$House" (by decide) rfl (Nat.le_of_ble_eq_true rfl) rfl (fun X hC hF => ?_)
  unfold x_X1_empty at hx
  refine q_aload_n hC 0 dX1_empty_0 rfl rfl ?_
  refine q_iconst hC 0 dX1_empty_1 rfl ?_
  refine pf_X1_55 hC hc dX1_empty_2 ?_
  refine q_aload_n hC 0 dX1_empty_5 rfl rfl ?_
  refine q_iconst hC 0 dX1_empty_6 rfl ?_
  refine pf_X1_58 hC hc dX1_empty_7 ?_
  refine q_aload_n hC 0 dX1_empty_10 rfl rfl ?_
  refine q_iconst hC 0 dX1_empty_11 rfl ?_
  refine pf_X1_61 hC hc dX1_empty_12 ?_
  refine q_aload_n hC 0 dX1_empty_15 rfl rfl ?_
  refine q_iconst hC 0 dX1_empty_16 rfl ?_
  refine pf_X1_52 hC hc dX1_empty_17 ?_
  refine q_aload_n hC 0 dX1_empty_20 rfl rfl ?_
  refine gf_X1_30 hC hc dX1_empty_21 ?_
  refine q_iconst hC 0 dX1_empty_24 rfl ?_
  refine pf_X1_68 hC hc dX1_empty_25 ?_
  exact q_vret hC hF dX1_empty_28 (Option.some.inj hx)

theorem dX1_copyRow_0 : decode cX1_copyRow 0 = .ok (.aload_n 0, 1) := by decide +kernel
theorem dX1_copyRow_1 : decode cX1_copyRow 1 = .ok (.iconst 0, 1) := by decide +kernel
theorem dX1_copyRow_2 : decode cX1_copyRow 2 = .ok (.aload_n 1, 1) := by decide +kernel
theorem dX1_copyRow_3 : decode cX1_copyRow 3 = .ok (.iconst 0, 1) := by decide +kernel
theorem dX1_copyRow_4 : decode cX1_copyRow 4 = .ok (.bipush 7, 2) := by decide +kernel
theorem dX1_copyRow_6 : decode cX1_copyRow 6 = .ok (.invokestatic 79, 3) := by decide +kernel
theorem dX1_copyRow_9 : decode cX1_copyRow 9 = .ok (.return_, 1) := by decide +kernel
def x_X1_copyRow (M : gMem) (c0 : Nat) (o0 : Nat) (c1 : Nat) (o1 : Nat) : Option gMem := some (gup M c1 o1 (va_cpy (M.1 c0 o0) (M.1 c1 o1) 0 0 7))
set_option maxRecDepth 100000 in
set_option maxHeartbeats 4000000 in
theorem c_X1_copyRow {l : Launch} {Y : gY} {M : gMem} {c0 : Nat} {o0 : Nat} {c1 : Nat} {o1 : Nat} {r : gMem} (hV0 : gV c0 o0) (hL0 : glen o0 = 7) (hV1 : gV c1 o1) (hL1 : glen o1 = 7) (hx : x_X1_copyRow M c0 o0 c1 o1 = some r) : Met l yX1_copyRow (gws yX1_copyRow cX1_copyRow 2 none) { frames := 1, cells := 0, slots := 0, locals := 40 } (va_Pc [.ref (gad Y c0 o0), .ref (gad Y c1 o1)] (gS0 Y M)) (gQv Y r) 0 0 (gA Y) := by
  refine gmet (lv := [(0, .ref (gad Y c0 o0)), (1, .ref (gad Y c1 o1))]) "GuestStaff$House" (by decide) rfl (Nat.le_of_ble_eq_true rfl) rfl (fun X hC hF => ?_)
  unfold x_X1_copyRow at hx
  refine q_aload_n hC 0 dX1_copyRow_0 rfl rfl ?_
  refine q_iconst hC 0 dX1_copyRow_1 rfl ?_
  refine q_aload_n hC 1 dX1_copyRow_2 rfl rfl ?_
  refine q_iconst hC 0 dX1_copyRow_3 rfl ?_
  refine q_bipush hC 7 dX1_copyRow_4 rfl ?_
  refine q_copy hC 6 6 hV0 hV1 hL0 hL1 wM_X1_79 (by decide) wcopy (by decide) (Nat.le_of_ble_eq_true rfl) dX1_copyRow_6 ?_
  exact q_vret hC hF dX1_copyRow_9 (Option.some.inj hx)

theorem dX3_copy_0 : decode cX3_copy 0 = .ok (.aload_n 0, 1) := by decide +kernel
theorem dX3_copy_1 : decode cX3_copy 1 = .ok (.aload_n 1, 1) := by decide +kernel
theorem dX3_copy_2 : decode cX3_copy 2 = .ok (.getfield 16, 3) := by decide +kernel
theorem dX3_copy_5 : decode cX3_copy 5 = .ok (.putfield 16, 3) := by decide +kernel
theorem dX3_copy_8 : decode cX3_copy 8 = .ok (.iconst 0, 1) := by decide +kernel
theorem dX3_copy_9 : decode cX3_copy 9 = .ok (.istore_n 2, 1) := by decide +kernel
theorem dX3_copy_10 : decode cX3_copy 10 = .ok (.iload_n 2, 1) := by decide +kernel
theorem dX3_copy_11 : decode cX3_copy 11 = .ok (.bipush 6, 2) := by decide +kernel
theorem dX3_copy_13 : decode cX3_copy 13 = .ok (.if_icmp .ge 27, 3) := by decide +kernel
theorem dX3_copy_16 : decode cX3_copy 16 = .ok (.aload_n 1, 1) := by decide +kernel
theorem dX3_copy_17 : decode cX3_copy 17 = .ok (.getfield 13, 3) := by decide +kernel
theorem dX3_copy_20 : decode cX3_copy 20 = .ok (.iload_n 2, 1) := by decide +kernel
theorem dX3_copy_21 : decode cX3_copy 21 = .ok (.aaload, 1) := by decide +kernel
theorem dX3_copy_22 : decode cX3_copy 22 = .ok (.iconst 0, 1) := by decide +kernel
theorem dX3_copy_23 : decode cX3_copy 23 = .ok (.aload_n 0, 1) := by decide +kernel
theorem dX3_copy_24 : decode cX3_copy 24 = .ok (.getfield 13, 3) := by decide +kernel
theorem dX3_copy_27 : decode cX3_copy 27 = .ok (.iload_n 2, 1) := by decide +kernel
theorem dX3_copy_28 : decode cX3_copy 28 = .ok (.aaload, 1) := by decide +kernel
theorem dX3_copy_29 : decode cX3_copy 29 = .ok (.iconst 0, 1) := by decide +kernel
theorem dX3_copy_30 : decode cX3_copy 30 = .ok (.iconst 5, 1) := by decide +kernel
theorem dX3_copy_31 : decode cX3_copy 31 = .ok (.invokestatic 20, 3) := by decide +kernel
theorem dX3_copy_34 : decode cX3_copy 34 = .ok (.iinc 2 1, 3) := by decide +kernel
theorem dX3_copy_37 : decode cX3_copy 37 = .ok (.goto (-27), 3) := by decide +kernel
theorem dX3_copy_40 : decode cX3_copy 40 = .ok (.return_, 1) := by decide +kernel
def s_X3_copy_10 (c : Nat) (d : Nat) (b2 : Int32) (N : gMem) : Option ((Int32 × gMem) ⊕ (Int32 × gMem)) := (if 6 ≤ b2 then some (.inr (b2, N)) else gd (gin b2 6) (gd (gin b2 6) (some (.inl (b2 + 1, gup N c (8 + (b2).toNatClampNeg) (va_cpy (N.1 d (8 + (b2).toNatClampNeg)) (N.1 c (8 + (b2).toNatClampNeg)) 0 0 5))))))
def x_X3_copy (M : gMem) (c : Nat) (d : Nat) : Option gMem := Option.bind (itr FU (fun s => s_X3_copy_10 c d s.1 s.2) (0, gwr M c 6 1 (M.1 d 6 1))) (fun e4 => some e4.2)
set_option maxRecDepth 100000 in
set_option maxHeartbeats 4000000 in
theorem w_X3_copy_10 {X : gX} {Y : gY} {c : Nat} {d : Nat} {r : gMem} (hC : gC X Y cX3_copy "GuestStaff$Notes" 3 1 40) (hF : gF X Y none (gQv Y r)) (hc : c < 4) (hd : d < 4) {e : (Int32 × gMem)} (kE : ∀ s : (Int32 × gMem), e = s → gWW X Y 3 40 [] [] s.2) : ∀ (F : Nat) (s : (Int32 × gMem)), itr F (fun s => s_X3_copy_10 c d s.1 s.2) s = some e → gWW X Y 3 10 [(0, .ref (gad Y c 6)), (1, .ref (gad Y d 6)), (2, .int s.1)] [] s.2 := by
  intro F s
  refine itr_w (P := fun s => gWW X Y 3 10 [(0, .ref (gad Y c 6)), (1, .ref (gad Y d 6)), (2, .int s.1)] [] s.2) (fun s o hx kI kx => ?_) F s
  obtain ⟨b2, N⟩ := s
  have hx : s_X3_copy_10 c d b2 N = some o := hx
  have kE : ∀ s : (Int32 × gMem), o = .inr s → gWW X Y 3 40 [] [] s.2 := fun s q => kE s (kx _ q).symm
  unfold s_X3_copy_10 at hx
  refine q_iload_n hC 2 dX3_copy_10 rfl rfl ?_
  refine q_bipush hC 6 dX3_copy_11 rfl ?_
  refine q_ic_ge hC 40 dX3_copy_13 rfl (fun h1 => ?_) (fun h1 => ?_)
  · have hx := gi_p h1 hx
    exact q_sub [] rfl (kE (b2, N) (Option.some.inj hx).symm)
  · have hx := gi_n h1 hx
    refine q_aload_n hC 1 dX3_copy_16 rfl rfl ?_
    refine gf_X3_13 hC hd dX3_copy_17 ?_
    refine q_iload_n hC 2 dX3_copy_20 rfl rfl ?_
    have g2 := (gd_e hx).1
    have hx := (gd_e hx).2
    refine q_aald (t0 := 4) hC (gV_h hd (by decide)) rfl rfl rfl g2 (grow_i g2) dX3_copy_21 ?_
    refine q_iconst hC 0 dX3_copy_22 rfl ?_
    refine q_aload_n hC 0 dX3_copy_23 rfl rfl ?_
    refine gf_X3_13 hC hc dX3_copy_24 ?_
    refine q_iload_n hC 2 dX3_copy_27 rfl rfl ?_
    have g3 := (gd_e hx).1
    have hx := (gd_e hx).2
    refine q_aald (t0 := 4) hC (gV_h hc (by decide)) rfl rfl rfl g3 (grow_i g3) dX3_copy_28 ?_
    refine q_iconst hC 0 dX3_copy_29 rfl ?_
    refine q_iconst hC 5 dX3_copy_30 rfl ?_
    refine q_copy hC 4 4 (gV_hr 6 hd g2 (by decide)) (gV_hr 6 hc g3 (by decide)) (gl_of (by decide) g2) (gl_of (by decide) g3) wM_X3_20 (by decide) wcopy (by decide) (Nat.le_of_ble_eq_true rfl) dX3_copy_31 ?_
    refine q_iinc hC 2 1 [(2, .int (b2 + 1)), (0, .ref (gad Y c 6)), (1, .ref (gad Y d 6))] dX3_copy_34 rfl rfl (by decide) rfl ?_
    refine q_goto hC 10 dX3_copy_37 rfl ?_
    exact q_sub [1, 2, 0] rfl (kI (b2 + 1, gup N c (8 + (b2).toNatClampNeg) (va_cpy (N.1 d (8 + (b2).toNatClampNeg)) (N.1 c (8 + (b2).toNatClampNeg)) 0 0 5)) (Option.some.inj hx).symm)
set_option maxRecDepth 100000 in
set_option maxHeartbeats 4000000 in
theorem c_X3_copy {l : Launch} {Y : gY} {M : gMem} {c : Nat} {d : Nat} {r : gMem} (hc : c < 4) (hd : d < 4) (hx : x_X3_copy M c d = some r) : Met l yX3_copy (gws yX3_copy cX3_copy 3 none) { frames := 1, cells := 0, slots := 0, locals := 40 } (va_Pc [.ref (gad Y c 6), .ref (gad Y d 6)] (gS0 Y M)) (gQv Y r) 0 0 (gA Y) := by
  refine gmet (lv := [(0, .ref (gad Y c 6)), (1, .ref (gad Y d 6))]) "GuestStaff$Notes" (by decide) rfl (Nat.le_of_ble_eq_true rfl) rfl (fun X hC hF => ?_)
  unfold x_X3_copy at hx
  refine q_aload_n hC 0 dX3_copy_0 rfl rfl ?_
  refine q_aload_n hC 1 dX3_copy_1 rfl rfl ?_
  refine gf_X3_16 hC hd dX3_copy_2 ?_
  refine pf_X3_16 hC hc dX3_copy_5 ?_
  refine q_iconst hC 0 dX3_copy_8 rfl ?_
  refine q_istore_n hC [(2, .int 0), (0, .ref (gad Y c 6)), (1, .ref (gad Y d 6))] dX3_copy_9 rfl (by decide) rfl ?_
  obtain ⟨e4, qe4, hx⟩ := gb_e hx
  refine q_sub [1, 2, 0] rfl (w_X3_copy_10 hC hF hc hd (e := e4) (fun s q => ?_) _ _ qe4)
  · subst q
    exact q_vret hC hF dX3_copy_40 (Option.some.inj hx)

theorem dX1_copy_0 : decode cX1_copy 0 = .ok (.aload_n 0, 1) := by decide +kernel
theorem dX1_copy_1 : decode cX1_copy 1 = .ok (.aload_n 1, 1) := by decide +kernel
theorem dX1_copy_2 : decode cX1_copy 2 = .ok (.getfield 55, 3) := by decide +kernel
theorem dX1_copy_5 : decode cX1_copy 5 = .ok (.putfield 55, 3) := by decide +kernel
theorem dX1_copy_8 : decode cX1_copy 8 = .ok (.aload_n 0, 1) := by decide +kernel
theorem dX1_copy_9 : decode cX1_copy 9 = .ok (.aload_n 1, 1) := by decide +kernel
theorem dX1_copy_10 : decode cX1_copy 10 = .ok (.getfield 58, 3) := by decide +kernel
theorem dX1_copy_13 : decode cX1_copy 13 = .ok (.putfield 58, 3) := by decide +kernel
theorem dX1_copy_16 : decode cX1_copy 16 = .ok (.aload_n 0, 1) := by decide +kernel
theorem dX1_copy_17 : decode cX1_copy 17 = .ok (.aload_n 1, 1) := by decide +kernel
theorem dX1_copy_18 : decode cX1_copy 18 = .ok (.getfield 61, 3) := by decide +kernel
theorem dX1_copy_21 : decode cX1_copy 21 = .ok (.putfield 61, 3) := by decide +kernel
theorem dX1_copy_24 : decode cX1_copy 24 = .ok (.aload_n 1, 1) := by decide +kernel
theorem dX1_copy_25 : decode cX1_copy 25 = .ok (.getfield 9, 3) := by decide +kernel
theorem dX1_copy_28 : decode cX1_copy 28 = .ok (.aload_n 0, 1) := by decide +kernel
theorem dX1_copy_29 : decode cX1_copy 29 = .ok (.getfield 9, 3) := by decide +kernel
theorem dX1_copy_32 : decode cX1_copy 32 = .ok (.invokestatic 71, 3) := by decide +kernel
theorem dX1_copy_35 : decode cX1_copy 35 = .ok (.aload_n 1, 1) := by decide +kernel
theorem dX1_copy_36 : decode cX1_copy 36 = .ok (.getfield 15, 3) := by decide +kernel
theorem dX1_copy_39 : decode cX1_copy 39 = .ok (.aload_n 0, 1) := by decide +kernel
theorem dX1_copy_40 : decode cX1_copy 40 = .ok (.getfield 15, 3) := by decide +kernel
theorem dX1_copy_43 : decode cX1_copy 43 = .ok (.invokestatic 71, 3) := by decide +kernel
theorem dX1_copy_46 : decode cX1_copy 46 = .ok (.aload_n 1, 1) := by decide +kernel
theorem dX1_copy_47 : decode cX1_copy 47 = .ok (.getfield 18, 3) := by decide +kernel
theorem dX1_copy_50 : decode cX1_copy 50 = .ok (.aload_n 0, 1) := by decide +kernel
theorem dX1_copy_51 : decode cX1_copy 51 = .ok (.getfield 18, 3) := by decide +kernel
theorem dX1_copy_54 : decode cX1_copy 54 = .ok (.invokestatic 71, 3) := by decide +kernel
theorem dX1_copy_57 : decode cX1_copy 57 = .ok (.aload_n 1, 1) := by decide +kernel
theorem dX1_copy_58 : decode cX1_copy 58 = .ok (.getfield 21, 3) := by decide +kernel
theorem dX1_copy_61 : decode cX1_copy 61 = .ok (.aload_n 0, 1) := by decide +kernel
theorem dX1_copy_62 : decode cX1_copy 62 = .ok (.getfield 21, 3) := by decide +kernel
theorem dX1_copy_65 : decode cX1_copy 65 = .ok (.invokestatic 71, 3) := by decide +kernel
theorem dX1_copy_68 : decode cX1_copy 68 = .ok (.aload_n 1, 1) := by decide +kernel
theorem dX1_copy_69 : decode cX1_copy 69 = .ok (.getfield 24, 3) := by decide +kernel
theorem dX1_copy_72 : decode cX1_copy 72 = .ok (.aload_n 0, 1) := by decide +kernel
theorem dX1_copy_73 : decode cX1_copy 73 = .ok (.getfield 24, 3) := by decide +kernel
theorem dX1_copy_76 : decode cX1_copy 76 = .ok (.invokestatic 71, 3) := by decide +kernel
theorem dX1_copy_79 : decode cX1_copy 79 = .ok (.aload_n 0, 1) := by decide +kernel
theorem dX1_copy_80 : decode cX1_copy 80 = .ok (.getfield 30, 3) := by decide +kernel
theorem dX1_copy_83 : decode cX1_copy 83 = .ok (.aload_n 1, 1) := by decide +kernel
theorem dX1_copy_84 : decode cX1_copy 84 = .ok (.getfield 30, 3) := by decide +kernel
theorem dX1_copy_87 : decode cX1_copy 87 = .ok (.invokevirtual 75, 3) := by decide +kernel
theorem dX1_copy_90 : decode cX1_copy 90 = .ok (.aload_n 0, 1) := by decide +kernel
theorem dX1_copy_91 : decode cX1_copy 91 = .ok (.aload_n 1, 1) := by decide +kernel
theorem dX1_copy_92 : decode cX1_copy 92 = .ok (.getfield 48, 3) := by decide +kernel
theorem dX1_copy_95 : decode cX1_copy 95 = .ok (.putfield 48, 3) := by decide +kernel
theorem dX1_copy_98 : decode cX1_copy 98 = .ok (.aload_n 0, 1) := by decide +kernel
theorem dX1_copy_99 : decode cX1_copy 99 = .ok (.aload_n 1, 1) := by decide +kernel
theorem dX1_copy_100 : decode cX1_copy 100 = .ok (.getfield 52, 3) := by decide +kernel
theorem dX1_copy_103 : decode cX1_copy 103 = .ok (.putfield 52, 3) := by decide +kernel
theorem dX1_copy_106 : decode cX1_copy 106 = .ok (.aload_n 1, 1) := by decide +kernel
theorem dX1_copy_107 : decode cX1_copy 107 = .ok (.getfield 42, 3) := by decide +kernel
theorem dX1_copy_110 : decode cX1_copy 110 = .ok (.iconst 0, 1) := by decide +kernel
theorem dX1_copy_111 : decode cX1_copy 111 = .ok (.aload_n 0, 1) := by decide +kernel
theorem dX1_copy_112 : decode cX1_copy 112 = .ok (.getfield 42, 3) := by decide +kernel
theorem dX1_copy_115 : decode cX1_copy 115 = .ok (.iconst 0, 1) := by decide +kernel
theorem dX1_copy_116 : decode cX1_copy 116 = .ok (.bipush 8, 2) := by decide +kernel
theorem dX1_copy_118 : decode cX1_copy 118 = .ok (.invokestatic 79, 3) := by decide +kernel
theorem dX1_copy_121 : decode cX1_copy 121 = .ok (.aload_n 1, 1) := by decide +kernel
theorem dX1_copy_122 : decode cX1_copy 122 = .ok (.getfield 45, 3) := by decide +kernel
theorem dX1_copy_125 : decode cX1_copy 125 = .ok (.iconst 0, 1) := by decide +kernel
theorem dX1_copy_126 : decode cX1_copy 126 = .ok (.aload_n 0, 1) := by decide +kernel
theorem dX1_copy_127 : decode cX1_copy 127 = .ok (.getfield 45, 3) := by decide +kernel
theorem dX1_copy_130 : decode cX1_copy 130 = .ok (.iconst 0, 1) := by decide +kernel
theorem dX1_copy_131 : decode cX1_copy 131 = .ok (.bipush 8, 2) := by decide +kernel
theorem dX1_copy_133 : decode cX1_copy 133 = .ok (.invokestatic 79, 3) := by decide +kernel
theorem dX1_copy_136 : decode cX1_copy 136 = .ok (.iconst 0, 1) := by decide +kernel
theorem dX1_copy_137 : decode cX1_copy 137 = .ok (.istore_n 2, 1) := by decide +kernel
theorem dX1_copy_138 : decode cX1_copy 138 = .ok (.iload_n 2, 1) := by decide +kernel
theorem dX1_copy_139 : decode cX1_copy 139 = .ok (.bipush 8, 2) := by decide +kernel
theorem dX1_copy_141 : decode cX1_copy 141 = .ok (.if_icmp .ge 39, 3) := by decide +kernel
theorem dX1_copy_144 : decode cX1_copy 144 = .ok (.aload_n 1, 1) := by decide +kernel
theorem dX1_copy_145 : decode cX1_copy 145 = .ok (.getfield 36, 3) := by decide +kernel
theorem dX1_copy_148 : decode cX1_copy 148 = .ok (.iload_n 2, 1) := by decide +kernel
theorem dX1_copy_149 : decode cX1_copy 149 = .ok (.aaload, 1) := by decide +kernel
theorem dX1_copy_150 : decode cX1_copy 150 = .ok (.aload_n 0, 1) := by decide +kernel
theorem dX1_copy_151 : decode cX1_copy 151 = .ok (.getfield 36, 3) := by decide +kernel
theorem dX1_copy_154 : decode cX1_copy 154 = .ok (.iload_n 2, 1) := by decide +kernel
theorem dX1_copy_155 : decode cX1_copy 155 = .ok (.aaload, 1) := by decide +kernel
theorem dX1_copy_156 : decode cX1_copy 156 = .ok (.invokestatic 71, 3) := by decide +kernel
theorem dX1_copy_159 : decode cX1_copy 159 = .ok (.aload_n 1, 1) := by decide +kernel
theorem dX1_copy_160 : decode cX1_copy 160 = .ok (.getfield 39, 3) := by decide +kernel
theorem dX1_copy_163 : decode cX1_copy 163 = .ok (.iload_n 2, 1) := by decide +kernel
theorem dX1_copy_164 : decode cX1_copy 164 = .ok (.aaload, 1) := by decide +kernel
theorem dX1_copy_165 : decode cX1_copy 165 = .ok (.aload_n 0, 1) := by decide +kernel
theorem dX1_copy_166 : decode cX1_copy 166 = .ok (.getfield 39, 3) := by decide +kernel
theorem dX1_copy_169 : decode cX1_copy 169 = .ok (.iload_n 2, 1) := by decide +kernel
theorem dX1_copy_170 : decode cX1_copy 170 = .ok (.aaload, 1) := by decide +kernel
theorem dX1_copy_171 : decode cX1_copy 171 = .ok (.invokestatic 71, 3) := by decide +kernel
theorem dX1_copy_174 : decode cX1_copy 174 = .ok (.iinc 2 1, 3) := by decide +kernel
theorem dX1_copy_177 : decode cX1_copy 177 = .ok (.goto (-39), 3) := by decide +kernel
theorem dX1_copy_180 : decode cX1_copy 180 = .ok (.return_, 1) := by decide +kernel
def s_X1_copy_138 (c : Nat) (d : Nat) (b2 : Int32) (N : gMem) : Option ((Int32 × gMem) ⊕ (Int32 × gMem)) := (if 8 ≤ b2 then some (.inr (b2, N)) else gd (gin b2 8) (gd (gin b2 8) (Option.bind (x_X1_copyRow N d (15 + (b2).toNatClampNeg) c (15 + (b2).toNatClampNeg)) (fun v16 => gd (gin b2 8) (gd (gin b2 8) (Option.bind (x_X1_copyRow v16 d (24 + (b2).toNatClampNeg) c (24 + (b2).toNatClampNeg)) (fun v20 => some (.inl (b2 + 1, v20)))))))))
def x_X1_copy (M : gMem) (c : Nat) (d : Nat) : Option gMem := Option.bind (x_X1_copyRow (gwr (gwr (gwr M c 0 13 (M.1 d 0 13)) c 0 14 ((gwr M c 0 13 (M.1 d 0 13)).1 d 0 14)) c 0 15 ((gwr (gwr M c 0 13 (M.1 d 0 13)) c 0 14 ((gwr M c 0 13 (M.1 d 0 13)).1 d 0 14)).1 d 0 15)) d 1 c 1) (fun v1 => Option.bind (x_X1_copyRow v1 d 2 c 2) (fun v3 => Option.bind (x_X1_copyRow v3 d 3 c 3) (fun v5 => Option.bind (x_X1_copyRow v5 d 4 c 4) (fun v7 => Option.bind (x_X1_copyRow v7 d 5 c 5) (fun v9 => Option.bind (x_X3_copy v9 c d) (fun v11 => Option.bind (itr FU (fun s => s_X1_copy_138 c d s.1 s.2) (0, gup (gup (gwr (gwr v11 c 0 11 (v11.1 d 0 11)) c 0 12 ((gwr v11 c 0 11 (v11.1 d 0 11)).1 d 0 12)) c 32 (va_cpy ((gwr (gwr v11 c 0 11 (v11.1 d 0 11)) c 0 12 ((gwr v11 c 0 11 (v11.1 d 0 11)).1 d 0 12)).1 d 32) ((gwr (gwr v11 c 0 11 (v11.1 d 0 11)) c 0 12 ((gwr v11 c 0 11 (v11.1 d 0 11)).1 d 0 12)).1 c 32) 0 0 8)) c 33 (va_cpy ((gup (gwr (gwr v11 c 0 11 (v11.1 d 0 11)) c 0 12 ((gwr v11 c 0 11 (v11.1 d 0 11)).1 d 0 12)) c 32 (va_cpy ((gwr (gwr v11 c 0 11 (v11.1 d 0 11)) c 0 12 ((gwr v11 c 0 11 (v11.1 d 0 11)).1 d 0 12)).1 d 32) ((gwr (gwr v11 c 0 11 (v11.1 d 0 11)) c 0 12 ((gwr v11 c 0 11 (v11.1 d 0 11)).1 d 0 12)).1 c 32) 0 0 8)).1 d 33) ((gup (gwr (gwr v11 c 0 11 (v11.1 d 0 11)) c 0 12 ((gwr v11 c 0 11 (v11.1 d 0 11)).1 d 0 12)) c 32 (va_cpy ((gwr (gwr v11 c 0 11 (v11.1 d 0 11)) c 0 12 ((gwr v11 c 0 11 (v11.1 d 0 11)).1 d 0 12)).1 d 32) ((gwr (gwr v11 c 0 11 (v11.1 d 0 11)) c 0 12 ((gwr v11 c 0 11 (v11.1 d 0 11)).1 d 0 12)).1 c 32) 0 0 8)).1 c 33) 0 0 8))) (fun e22 => some e22.2)))))))
set_option maxRecDepth 100000 in
set_option maxHeartbeats 4000000 in
theorem w_X1_copy_138 {X : gX} {Y : gY} {c : Nat} {d : Nat} {r : gMem} (hC : gC X Y cX1_copy "GuestStaff$House" 3 2 62) (hF : gF X Y none (gQv Y r)) (hc : c < 4) (hd : d < 4) {e : (Int32 × gMem)} (kE : ∀ s : (Int32 × gMem), e = s → gWW X Y 3 180 [] [] s.2) : ∀ (F : Nat) (s : (Int32 × gMem)), itr F (fun s => s_X1_copy_138 c d s.1 s.2) s = some e → gWW X Y 3 138 [(0, .ref (gad Y c 0)), (1, .ref (gad Y d 0)), (2, .int s.1)] [] s.2 := by
  intro F s
  refine itr_w (P := fun s => gWW X Y 3 138 [(0, .ref (gad Y c 0)), (1, .ref (gad Y d 0)), (2, .int s.1)] [] s.2) (fun s o hx kI kx => ?_) F s
  obtain ⟨b2, N⟩ := s
  have hx : s_X1_copy_138 c d b2 N = some o := hx
  have kE : ∀ s : (Int32 × gMem), o = .inr s → gWW X Y 3 180 [] [] s.2 := fun s q => kE s (kx _ q).symm
  unfold s_X1_copy_138 at hx
  refine q_iload_n hC 2 dX1_copy_138 rfl rfl ?_
  refine q_bipush hC 8 dX1_copy_139 rfl ?_
  refine q_ic_ge hC 180 dX1_copy_141 rfl (fun h13 => ?_) (fun h13 => ?_)
  · have hx := gi_p h13 hx
    exact q_sub [] rfl (kE (b2, N) (Option.some.inj hx).symm)
  · have hx := gi_n h13 hx
    refine q_aload_n hC 1 dX1_copy_144 rfl rfl ?_
    refine gf_X1_36 hC hd dX1_copy_145 ?_
    refine q_iload_n hC 2 dX1_copy_148 rfl rfl ?_
    have g14 := (gd_e hx).1
    have hx := (gd_e hx).2
    refine q_aald (t0 := 4) hC (gV_h hd (by decide)) rfl rfl rfl g14 (grow_i g14) dX1_copy_149 ?_
    refine q_aload_n hC 0 dX1_copy_150 rfl rfl ?_
    refine gf_X1_36 hC hc dX1_copy_151 ?_
    refine q_iload_n hC 2 dX1_copy_154 rfl rfl ?_
    have g15 := (gd_e hx).1
    have hx := (gd_e hx).2
    refine q_aald (t0 := 4) hC (gV_h hc (by decide)) rfl rfl rfl g15 (grow_i g15) dX1_copy_155 ?_
    obtain ⟨v16, q17, hx⟩ := gb_e hx
    refine q_kv (q_rS (As := [.ref (gad Y d (15 + (b2).toNatClampNeg)), .ref (gad Y c (15 + (b2).toNatClampNeg))]) (rest := []) hC mm_X1_copyRow wM_X1_71 (c_X1_copyRow (gV_hr 8 hd g14 (by decide)) (gl_of (by decide) g14) (gV_hr 8 hc g15 (by decide)) (gl_of (by decide) g15) q17) ⟨rfl, rfl, Nat.le_of_ble_eq_true rfl, Nat.le_of_ble_eq_true rfl⟩ rfl rfl (Nat.le_of_ble_eq_true rfl) dX1_copy_156) ?_
    refine q_aload_n hC 1 dX1_copy_159 rfl rfl ?_
    refine gf_X1_39 hC hd dX1_copy_160 ?_
    refine q_iload_n hC 2 dX1_copy_163 rfl rfl ?_
    have g18 := (gd_e hx).1
    have hx := (gd_e hx).2
    refine q_aald (t0 := 4) hC (gV_h hd (by decide)) rfl rfl rfl g18 (grow_i g18) dX1_copy_164 ?_
    refine q_aload_n hC 0 dX1_copy_165 rfl rfl ?_
    refine gf_X1_39 hC hc dX1_copy_166 ?_
    refine q_iload_n hC 2 dX1_copy_169 rfl rfl ?_
    have g19 := (gd_e hx).1
    have hx := (gd_e hx).2
    refine q_aald (t0 := 4) hC (gV_h hc (by decide)) rfl rfl rfl g19 (grow_i g19) dX1_copy_170 ?_
    obtain ⟨v20, q21, hx⟩ := gb_e hx
    refine q_kv (q_rS (As := [.ref (gad Y d (24 + (b2).toNatClampNeg)), .ref (gad Y c (24 + (b2).toNatClampNeg))]) (rest := []) hC mm_X1_copyRow wM_X1_71 (c_X1_copyRow (gV_hr 8 hd g18 (by decide)) (gl_of (by decide) g18) (gV_hr 8 hc g19 (by decide)) (gl_of (by decide) g19) q21) ⟨rfl, rfl, Nat.le_of_ble_eq_true rfl, Nat.le_of_ble_eq_true rfl⟩ rfl rfl (Nat.le_of_ble_eq_true rfl) dX1_copy_171) ?_
    refine q_iinc hC 2 1 [(2, .int (b2 + 1)), (0, .ref (gad Y c 0)), (1, .ref (gad Y d 0))] dX1_copy_174 rfl rfl (by decide) rfl ?_
    refine q_goto hC 138 dX1_copy_177 rfl ?_
    exact q_sub [1, 2, 0] rfl (kI (b2 + 1, v20) (Option.some.inj hx).symm)
set_option maxRecDepth 100000 in
set_option maxHeartbeats 4000000 in
theorem c_X1_copy {l : Launch} {Y : gY} {M : gMem} {c : Nat} {d : Nat} {r : gMem} (hc : c < 4) (hd : d < 4) (hx : x_X1_copy M c d = some r) : Met l yX1_copy (gws yX1_copy cX1_copy 3 none) { frames := 2, cells := 0, slots := 0, locals := 62 } (va_Pc [.ref (gad Y c 0), .ref (gad Y d 0)] (gS0 Y M)) (gQv Y r) 0 0 (gA Y) := by
  refine gmet (lv := [(0, .ref (gad Y c 0)), (1, .ref (gad Y d 0))]) "GuestStaff$House" (by decide) rfl (Nat.le_of_ble_eq_true rfl) rfl (fun X hC hF => ?_)
  unfold x_X1_copy at hx
  refine q_aload_n hC 0 dX1_copy_0 rfl rfl ?_
  refine q_aload_n hC 1 dX1_copy_1 rfl rfl ?_
  refine gf_X1_55 hC hd dX1_copy_2 ?_
  refine pf_X1_55 hC hc dX1_copy_5 ?_
  refine q_aload_n hC 0 dX1_copy_8 rfl rfl ?_
  refine q_aload_n hC 1 dX1_copy_9 rfl rfl ?_
  refine gf_X1_58 hC hd dX1_copy_10 ?_
  refine pf_X1_58 hC hc dX1_copy_13 ?_
  refine q_aload_n hC 0 dX1_copy_16 rfl rfl ?_
  refine q_aload_n hC 1 dX1_copy_17 rfl rfl ?_
  refine gf_X1_61 hC hd dX1_copy_18 ?_
  refine pf_X1_61 hC hc dX1_copy_21 ?_
  refine q_aload_n hC 1 dX1_copy_24 rfl rfl ?_
  refine gf_X1_9 hC hd dX1_copy_25 ?_
  refine q_aload_n hC 0 dX1_copy_28 rfl rfl ?_
  refine gf_X1_9 hC hc dX1_copy_29 ?_
  obtain ⟨v1, q2, hx⟩ := gb_e hx
  refine q_kv (q_rS (As := [.ref (gad Y d 1), .ref (gad Y c 1)]) (rest := []) hC mm_X1_copyRow wM_X1_71 (c_X1_copyRow (gV_h hd (by decide)) rfl (gV_h hc (by decide)) rfl q2) ⟨rfl, rfl, Nat.le_of_ble_eq_true rfl, Nat.le_of_ble_eq_true rfl⟩ rfl rfl (Nat.le_of_ble_eq_true rfl) dX1_copy_32) ?_
  refine q_aload_n hC 1 dX1_copy_35 rfl rfl ?_
  refine gf_X1_15 hC hd dX1_copy_36 ?_
  refine q_aload_n hC 0 dX1_copy_39 rfl rfl ?_
  refine gf_X1_15 hC hc dX1_copy_40 ?_
  obtain ⟨v3, q4, hx⟩ := gb_e hx
  refine q_kv (q_rS (As := [.ref (gad Y d 2), .ref (gad Y c 2)]) (rest := []) hC mm_X1_copyRow wM_X1_71 (c_X1_copyRow (gV_h hd (by decide)) rfl (gV_h hc (by decide)) rfl q4) ⟨rfl, rfl, Nat.le_of_ble_eq_true rfl, Nat.le_of_ble_eq_true rfl⟩ rfl rfl (Nat.le_of_ble_eq_true rfl) dX1_copy_43) ?_
  refine q_aload_n hC 1 dX1_copy_46 rfl rfl ?_
  refine gf_X1_18 hC hd dX1_copy_47 ?_
  refine q_aload_n hC 0 dX1_copy_50 rfl rfl ?_
  refine gf_X1_18 hC hc dX1_copy_51 ?_
  obtain ⟨v5, q6, hx⟩ := gb_e hx
  refine q_kv (q_rS (As := [.ref (gad Y d 3), .ref (gad Y c 3)]) (rest := []) hC mm_X1_copyRow wM_X1_71 (c_X1_copyRow (gV_h hd (by decide)) rfl (gV_h hc (by decide)) rfl q6) ⟨rfl, rfl, Nat.le_of_ble_eq_true rfl, Nat.le_of_ble_eq_true rfl⟩ rfl rfl (Nat.le_of_ble_eq_true rfl) dX1_copy_54) ?_
  refine q_aload_n hC 1 dX1_copy_57 rfl rfl ?_
  refine gf_X1_21 hC hd dX1_copy_58 ?_
  refine q_aload_n hC 0 dX1_copy_61 rfl rfl ?_
  refine gf_X1_21 hC hc dX1_copy_62 ?_
  obtain ⟨v7, q8, hx⟩ := gb_e hx
  refine q_kv (q_rS (As := [.ref (gad Y d 4), .ref (gad Y c 4)]) (rest := []) hC mm_X1_copyRow wM_X1_71 (c_X1_copyRow (gV_h hd (by decide)) rfl (gV_h hc (by decide)) rfl q8) ⟨rfl, rfl, Nat.le_of_ble_eq_true rfl, Nat.le_of_ble_eq_true rfl⟩ rfl rfl (Nat.le_of_ble_eq_true rfl) dX1_copy_65) ?_
  refine q_aload_n hC 1 dX1_copy_68 rfl rfl ?_
  refine gf_X1_24 hC hd dX1_copy_69 ?_
  refine q_aload_n hC 0 dX1_copy_72 rfl rfl ?_
  refine gf_X1_24 hC hc dX1_copy_73 ?_
  obtain ⟨v9, q10, hx⟩ := gb_e hx
  refine q_kv (q_rS (As := [.ref (gad Y d 5), .ref (gad Y c 5)]) (rest := []) hC mm_X1_copyRow wM_X1_71 (c_X1_copyRow (gV_h hd (by decide)) rfl (gV_h hc (by decide)) rfl q10) ⟨rfl, rfl, Nat.le_of_ble_eq_true rfl, Nat.le_of_ble_eq_true rfl⟩ rfl rfl (Nat.le_of_ble_eq_true rfl) dX1_copy_76) ?_
  refine q_aload_n hC 0 dX1_copy_79 rfl rfl ?_
  refine gf_X1_30 hC hc dX1_copy_80 ?_
  refine q_aload_n hC 1 dX1_copy_83 rfl rfl ?_
  refine gf_X1_30 hC hd dX1_copy_84 ?_
  obtain ⟨v11, q12, hx⟩ := gb_e hx
  refine q_kv (q_rV (As := [.ref (gad Y d 6)]) (rest := []) hC mm_X3_copy wM_X1_75 (c_X3_copy hc hd q12) ⟨rfl, rfl, Nat.le_of_ble_eq_true rfl, Nat.le_of_ble_eq_true rfl⟩ (gV_h hc (by decide)) rfl rfl rfl rfl (Nat.le_of_ble_eq_true rfl) dX1_copy_87) ?_
  refine q_aload_n hC 0 dX1_copy_90 rfl rfl ?_
  refine q_aload_n hC 1 dX1_copy_91 rfl rfl ?_
  refine gf_X1_48 hC hd dX1_copy_92 ?_
  refine pf_X1_48 hC hc dX1_copy_95 ?_
  refine q_aload_n hC 0 dX1_copy_98 rfl rfl ?_
  refine q_aload_n hC 1 dX1_copy_99 rfl rfl ?_
  refine gf_X1_52 hC hd dX1_copy_100 ?_
  refine pf_X1_52 hC hc dX1_copy_103 ?_
  refine q_aload_n hC 1 dX1_copy_106 rfl rfl ?_
  refine gf_X1_42 hC hd dX1_copy_107 ?_
  refine q_iconst hC 0 dX1_copy_110 rfl ?_
  refine q_aload_n hC 0 dX1_copy_111 rfl rfl ?_
  refine gf_X1_42 hC hc dX1_copy_112 ?_
  refine q_iconst hC 0 dX1_copy_115 rfl ?_
  refine q_bipush hC 8 dX1_copy_116 rfl ?_
  refine q_copy hC 7 7 (gV_h hd (by decide)) (gV_h hc (by decide)) rfl rfl wM_X1_79 (by decide) wcopy (by decide) (Nat.le_of_ble_eq_true rfl) dX1_copy_118 ?_
  refine q_aload_n hC 1 dX1_copy_121 rfl rfl ?_
  refine gf_X1_45 hC hd dX1_copy_122 ?_
  refine q_iconst hC 0 dX1_copy_125 rfl ?_
  refine q_aload_n hC 0 dX1_copy_126 rfl rfl ?_
  refine gf_X1_45 hC hc dX1_copy_127 ?_
  refine q_iconst hC 0 dX1_copy_130 rfl ?_
  refine q_bipush hC 8 dX1_copy_131 rfl ?_
  refine q_copy hC 7 7 (gV_h hd (by decide)) (gV_h hc (by decide)) rfl rfl wM_X1_79 (by decide) wcopy (by decide) (Nat.le_of_ble_eq_true rfl) dX1_copy_133 ?_
  refine q_iconst hC 0 dX1_copy_136 rfl ?_
  refine q_istore_n hC [(2, .int 0), (0, .ref (gad Y c 0)), (1, .ref (gad Y d 0))] dX1_copy_137 rfl (by decide) rfl ?_
  obtain ⟨e22, qe22, hx⟩ := gb_e hx
  refine q_sub [1, 2, 0] rfl (w_X1_copy_138 hC hF hc hd (e := e22) (fun s q => ?_) _ _ qe22)
  · subst q
    exact q_vret hC hF dX1_copy_180 (Option.some.inj hx)

theorem dX1_isGuest_0 : decode cX1_isGuest 0 = .ok (.iload_n 1, 1) := by decide +kernel
theorem dX1_isGuest_1 : decode cX1_isGuest 1 = .ok (.ifCond .lt 15, 3) := by decide +kernel
theorem dX1_isGuest_4 : decode cX1_isGuest 4 = .ok (.iload_n 1, 1) := by decide +kernel
theorem dX1_isGuest_5 : decode cX1_isGuest 5 = .ok (.aload_n 0, 1) := by decide +kernel
theorem dX1_isGuest_6 : decode cX1_isGuest 6 = .ok (.getfield 55, 3) := by decide +kernel
theorem dX1_isGuest_9 : decode cX1_isGuest 9 = .ok (.if_icmp .ge 7, 3) := by decide +kernel
theorem dX1_isGuest_12 : decode cX1_isGuest 12 = .ok (.iconst 1, 1) := by decide +kernel
theorem dX1_isGuest_13 : decode cX1_isGuest 13 = .ok (.goto 4, 3) := by decide +kernel
theorem dX1_isGuest_16 : decode cX1_isGuest 16 = .ok (.iconst 0, 1) := by decide +kernel
theorem dX1_isGuest_17 : decode cX1_isGuest 17 = .ok (.ireturn, 1) := by decide +kernel
def x_X1_isGuest (M : gMem) (c : Nat) (p1 : Int32) : Option Int32 := (if p1 < 0 then some 0 else (if (M.1 c 0 13) ≤ p1 then some 0 else some 1))
set_option maxRecDepth 100000 in
set_option maxHeartbeats 4000000 in
theorem c_X1_isGuest {l : Launch} {Y : gY} {M : gMem} {c : Nat} {p1 : Int32} {r : Int32} (hc : c < 4) (hx : x_X1_isGuest M c p1 = some r) : Met l yX1_isGuest (gws yX1_isGuest cX1_isGuest 2 (some .boolean)) { frames := 0, cells := 0, slots := 0, locals := 0 } (va_Pc [.ref (gad Y c 0), .int p1] (gS0 Y M)) (gQz Y (r, M)) 0 0 (gA Y) := by
  refine gmet (lv := [(0, .ref (gad Y c 0)), (1, .int p1)]) "GuestStaff$House" (by decide) rfl (Nat.le_of_ble_eq_true rfl) rfl (fun X hC hF => ?_)
  unfold x_X1_isGuest at hx
  refine q_iload_n hC 1 dX1_isGuest_0 rfl rfl ?_
  refine q_if_lt hC 16 dX1_isGuest_1 rfl (fun h1 => ?_) (fun h1 => ?_)
  · have hx := gi_p h1 hx
    refine q_iconst hC 0 dX1_isGuest_16 rfl ?_
    exact q_zret hC hF dX1_isGuest_17 (Or.inl rfl) (congrArg (fun z => (z, M)) (Option.some.inj hx))
  · have hx := gi_n h1 hx
    refine q_iload_n hC 1 dX1_isGuest_4 rfl rfl ?_
    refine q_aload_n hC 0 dX1_isGuest_5 rfl rfl ?_
    refine gf_X1_55 hC hc dX1_isGuest_6 ?_
    refine q_ic_ge hC 16 dX1_isGuest_9 rfl (fun h2 => ?_) (fun h2 => ?_)
    · have hx := gi_p h2 hx
      refine q_iconst hC 0 dX1_isGuest_16 rfl ?_
      exact q_zret hC hF dX1_isGuest_17 (Or.inl rfl) (congrArg (fun z => (z, M)) (Option.some.inj hx))
    · have hx := gi_n h2 hx
      refine q_iconst hC 1 dX1_isGuest_12 rfl ?_
      refine q_goto hC 17 dX1_isGuest_13 rfl ?_
      exact q_zret hC hF dX1_isGuest_17 (Or.inr rfl) (congrArg (fun z => (z, M)) (Option.some.inj hx))

theorem dX1_admit_0 : decode cX1_admit 0 = .ok (.aload_n 0, 1) := by decide +kernel
theorem dX1_admit_1 : decode cX1_admit 1 = .ok (.getfield 55, 3) := by decide +kernel
theorem dX1_admit_4 : decode cX1_admit 4 = .ok (.istore 4, 2) := by decide +kernel
theorem dX1_admit_6 : decode cX1_admit 6 = .ok (.aload_n 0, 1) := by decide +kernel
theorem dX1_admit_7 : decode cX1_admit 7 = .ok (.getfield 9, 3) := by decide +kernel
theorem dX1_admit_10 : decode cX1_admit 10 = .ok (.iload 4, 2) := by decide +kernel
theorem dX1_admit_12 : decode cX1_admit 12 = .ok (.iload_n 1, 1) := by decide +kernel
theorem dX1_admit_13 : decode cX1_admit 13 = .ok (.iastore, 1) := by decide +kernel
theorem dX1_admit_14 : decode cX1_admit 14 = .ok (.aload_n 0, 1) := by decide +kernel
theorem dX1_admit_15 : decode cX1_admit 15 = .ok (.getfield 15, 3) := by decide +kernel
theorem dX1_admit_18 : decode cX1_admit 18 = .ok (.iload 4, 2) := by decide +kernel
theorem dX1_admit_20 : decode cX1_admit 20 = .ok (.iload_n 2, 1) := by decide +kernel
theorem dX1_admit_21 : decode cX1_admit 21 = .ok (.iastore, 1) := by decide +kernel
theorem dX1_admit_22 : decode cX1_admit 22 = .ok (.aload_n 0, 1) := by decide +kernel
theorem dX1_admit_23 : decode cX1_admit 23 = .ok (.getfield 18, 3) := by decide +kernel
theorem dX1_admit_26 : decode cX1_admit 26 = .ok (.iload 4, 2) := by decide +kernel
theorem dX1_admit_28 : decode cX1_admit 28 = .ok (.iload_n 3, 1) := by decide +kernel
theorem dX1_admit_29 : decode cX1_admit 29 = .ok (.iastore, 1) := by decide +kernel
theorem dX1_admit_30 : decode cX1_admit 30 = .ok (.aload_n 0, 1) := by decide +kernel
theorem dX1_admit_31 : decode cX1_admit 31 = .ok (.getfield 21, 3) := by decide +kernel
theorem dX1_admit_34 : decode cX1_admit 34 = .ok (.iload 4, 2) := by decide +kernel
theorem dX1_admit_36 : decode cX1_admit 36 = .ok (.iconst (-1), 1) := by decide +kernel
theorem dX1_admit_37 : decode cX1_admit 37 = .ok (.iastore, 1) := by decide +kernel
theorem dX1_admit_38 : decode cX1_admit 38 = .ok (.aload_n 0, 1) := by decide +kernel
theorem dX1_admit_39 : decode cX1_admit 39 = .ok (.getfield 24, 3) := by decide +kernel
theorem dX1_admit_42 : decode cX1_admit 42 = .ok (.iload 4, 2) := by decide +kernel
theorem dX1_admit_44 : decode cX1_admit 44 = .ok (.bipush 10, 2) := by decide +kernel
theorem dX1_admit_46 : decode cX1_admit 46 = .ok (.iastore, 1) := by decide +kernel
theorem dX1_admit_47 : decode cX1_admit 47 = .ok (.aload_n 0, 1) := by decide +kernel
theorem dX1_admit_48 : decode cX1_admit 48 = .ok (.dup, 1) := by decide +kernel
theorem dX1_admit_49 : decode cX1_admit 49 = .ok (.getfield 55, 3) := by decide +kernel
theorem dX1_admit_52 : decode cX1_admit 52 = .ok (.iconst 1, 1) := by decide +kernel
theorem dX1_admit_53 : decode cX1_admit 53 = .ok (.iadd, 1) := by decide +kernel
theorem dX1_admit_54 : decode cX1_admit 54 = .ok (.putfield 55, 3) := by decide +kernel
theorem dX1_admit_57 : decode cX1_admit 57 = .ok (.aload_n 0, 1) := by decide +kernel
theorem dX1_admit_58 : decode cX1_admit 58 = .ok (.iconst 0, 1) := by decide +kernel
theorem dX1_admit_59 : decode cX1_admit 59 = .ok (.putfield 52, 3) := by decide +kernel
theorem dX1_admit_62 : decode cX1_admit 62 = .ok (.iload 4, 2) := by decide +kernel
theorem dX1_admit_64 : decode cX1_admit 64 = .ok (.ireturn, 1) := by decide +kernel
def x_X1_admit (M : gMem) (c : Nat) (p1 : Int32) (p2 : Int32) (p3 : Int32) : Option (Int32 × gMem) := gd (gin (M.1 c 0 13) 7) (gd (gin (M.1 c 0 13) 7) (gd (gin (M.1 c 0 13) 7) (gd (gin (M.1 c 0 13) 7) (gd (gin (M.1 c 0 13) 7) (some (M.1 c 0 13, gwr (gwr (gwr (gwr (gwr (gwr (gwr M c 1 (M.1 c 0 13).toNatClampNeg p1) c 2 (M.1 c 0 13).toNatClampNeg p2) c 3 (M.1 c 0 13).toNatClampNeg p3) c 4 (M.1 c 0 13).toNatClampNeg (-1)) c 5 (M.1 c 0 13).toNatClampNeg 10) c 0 13 (((gwr (gwr (gwr (gwr (gwr M c 1 (M.1 c 0 13).toNatClampNeg p1) c 2 (M.1 c 0 13).toNatClampNeg p2) c 3 (M.1 c 0 13).toNatClampNeg p3) c 4 (M.1 c 0 13).toNatClampNeg (-1)) c 5 (M.1 c 0 13).toNatClampNeg 10).1 c 0 13) + 1)) c 0 12 0))))))
set_option maxRecDepth 100000 in
set_option maxHeartbeats 4000000 in
theorem c_X1_admit {l : Launch} {Y : gY} {M : gMem} {c : Nat} {p1 : Int32} {p2 : Int32} {p3 : Int32} {r : (Int32 × gMem)} (hc : c < 4) (hx : x_X1_admit M c p1 p2 p3 = some r) : Met l yX1_admit (gws yX1_admit cX1_admit 5 (some .int)) { frames := 0, cells := 0, slots := 0, locals := 0 } (va_Pc [.ref (gad Y c 0), .int p1, .int p2, .int p3] (gS0 Y M)) (gQi Y r) 0 0 (gA Y) := by
  refine gmet (lv := [(0, .ref (gad Y c 0)), (1, .int p1), (2, .int p2), (3, .int p3)]) "GuestStaff$House" (by decide) rfl (Nat.le_of_ble_eq_true rfl) rfl (fun X hC hF => ?_)
  unfold x_X1_admit at hx
  refine q_aload_n hC 0 dX1_admit_0 rfl rfl ?_
  refine gf_X1_55 hC hc dX1_admit_1 ?_
  refine q_istore hC [(4, .int (M.1 c 0 13)), (0, .ref (gad Y c 0)), (1, .int p1), (2, .int p2), (3, .int p3)] dX1_admit_4 (by decide) rfl ?_
  refine q_aload_n hC 1 dX1_admit_6 rfl rfl ?_
  refine gf_X1_9 hC hc dX1_admit_7 ?_
  refine q_iload hC 0 dX1_admit_10 rfl ?_
  refine q_iload_n hC 2 dX1_admit_12 rfl rfl ?_
  have g1 := (gd_e hx).1
  have hx := (gd_e hx).2
  refine q_iast hC 6 (gV_h hc (by decide)) rfl g1 dX1_admit_13 ?_
  refine q_aload_n hC 1 dX1_admit_14 rfl rfl ?_
  refine gf_X1_15 hC hc dX1_admit_15 ?_
  refine q_iload hC 0 dX1_admit_18 rfl ?_
  refine q_iload_n hC 3 dX1_admit_20 rfl rfl ?_
  have g2 := (gd_e hx).1
  have hx := (gd_e hx).2
  refine q_iast hC 6 (gV_h hc (by decide)) rfl g2 dX1_admit_21 ?_
  refine q_aload_n hC 1 dX1_admit_22 rfl rfl ?_
  refine gf_X1_18 hC hc dX1_admit_23 ?_
  refine q_iload hC 0 dX1_admit_26 rfl ?_
  refine q_iload_n hC 4 dX1_admit_28 rfl rfl ?_
  have g3 := (gd_e hx).1
  have hx := (gd_e hx).2
  refine q_iast hC 6 (gV_h hc (by decide)) rfl g3 dX1_admit_29 ?_
  refine q_aload_n hC 1 dX1_admit_30 rfl rfl ?_
  refine gf_X1_21 hC hc dX1_admit_31 ?_
  refine q_iload hC 0 dX1_admit_34 rfl ?_
  refine q_iconst hC (-1) dX1_admit_36 rfl ?_
  have g4 := (gd_e hx).1
  have hx := (gd_e hx).2
  refine q_iast hC 6 (gV_h hc (by decide)) rfl g4 dX1_admit_37 ?_
  refine q_aload_n hC 1 dX1_admit_38 rfl rfl ?_
  refine gf_X1_24 hC hc dX1_admit_39 ?_
  refine q_iload hC 0 dX1_admit_42 rfl ?_
  refine q_bipush hC 10 dX1_admit_44 rfl ?_
  have g5 := (gd_e hx).1
  have hx := (gd_e hx).2
  refine q_iast hC 6 (gV_h hc (by decide)) rfl g5 dX1_admit_46 ?_
  refine q_aload_n hC 1 dX1_admit_47 rfl rfl ?_
  refine q_dup hC dX1_admit_48 rfl ?_
  refine gf_X1_55 hC hc dX1_admit_49 ?_
  refine q_iconst hC 1 dX1_admit_52 rfl ?_
  refine q_iadd hC dX1_admit_53 ?_
  refine pf_X1_55 hC hc dX1_admit_54 ?_
  refine q_aload_n hC 1 dX1_admit_57 rfl rfl ?_
  refine q_iconst hC 0 dX1_admit_58 rfl ?_
  refine pf_X1_52 hC hc dX1_admit_59 ?_
  refine q_iload hC 0 dX1_admit_62 rfl ?_
  exact q_iret hC hF dX1_admit_64 (Option.some.inj hx)

theorem dX1_canServe_0 : decode cX1_canServe 0 = .ok (.aload_n 0, 1) := by decide +kernel
theorem dX1_canServe_1 : decode cX1_canServe 1 = .ok (.getfield 18, 3) := by decide +kernel
theorem dX1_canServe_4 : decode cX1_canServe 4 = .ok (.iload_n 1, 1) := by decide +kernel
theorem dX1_canServe_5 : decode cX1_canServe 5 = .ok (.iaload, 1) := by decide +kernel
theorem dX1_canServe_6 : decode cX1_canServe 6 = .ok (.aload_n 0, 1) := by decide +kernel
theorem dX1_canServe_7 : decode cX1_canServe 7 = .ok (.getfield 15, 3) := by decide +kernel
theorem dX1_canServe_10 : decode cX1_canServe 10 = .ok (.iload_n 2, 1) := by decide +kernel
theorem dX1_canServe_11 : decode cX1_canServe 11 = .ok (.iaload, 1) := by decide +kernel
theorem dX1_canServe_12 : decode cX1_canServe 12 = .ok (.ishr, 1) := by decide +kernel
theorem dX1_canServe_13 : decode cX1_canServe 13 = .ok (.iconst 1, 1) := by decide +kernel
theorem dX1_canServe_14 : decode cX1_canServe 14 = .ok (.iand, 1) := by decide +kernel
theorem dX1_canServe_15 : decode cX1_canServe 15 = .ok (.ifCond .eq 7, 3) := by decide +kernel
theorem dX1_canServe_18 : decode cX1_canServe 18 = .ok (.iconst 1, 1) := by decide +kernel
theorem dX1_canServe_19 : decode cX1_canServe 19 = .ok (.goto 4, 3) := by decide +kernel
theorem dX1_canServe_22 : decode cX1_canServe 22 = .ok (.iconst 0, 1) := by decide +kernel
theorem dX1_canServe_23 : decode cX1_canServe 23 = .ok (.ireturn, 1) := by decide +kernel
def x_X1_canServe (M : gMem) (c : Nat) (p1 : Int32) (p2 : Int32) : Option Int32 := gd (gin p1 7) (gd (gin p2 7) ((if (((M.1 c 3 (p1).toNatClampNeg) >>> ((M.1 c 2 (p2).toNatClampNeg) &&& 31)) &&& 1) = 0 then some 0 else some 1)))
set_option maxRecDepth 100000 in
set_option maxHeartbeats 4000000 in
theorem c_X1_canServe {l : Launch} {Y : gY} {M : gMem} {c : Nat} {p1 : Int32} {p2 : Int32} {r : Int32} (hc : c < 4) (hx : x_X1_canServe M c p1 p2 = some r) : Met l yX1_canServe (gws yX1_canServe cX1_canServe 3 (some .boolean)) { frames := 0, cells := 0, slots := 0, locals := 0 } (va_Pc [.ref (gad Y c 0), .int p1, .int p2] (gS0 Y M)) (gQz Y (r, M)) 0 0 (gA Y) := by
  refine gmet (lv := [(0, .ref (gad Y c 0)), (1, .int p1), (2, .int p2)]) "GuestStaff$House" (by decide) rfl (Nat.le_of_ble_eq_true rfl) rfl (fun X hC hF => ?_)
  unfold x_X1_canServe at hx
  refine q_aload_n hC 0 dX1_canServe_0 rfl rfl ?_
  refine gf_X1_18 hC hc dX1_canServe_1 ?_
  refine q_iload_n hC 1 dX1_canServe_4 rfl rfl ?_
  have g1 := (gd_e hx).1
  have hx := (gd_e hx).2
  refine q_iald hC 6 (gV_h hc (by decide)) rfl g1 dX1_canServe_5 ?_
  refine q_aload_n hC 0 dX1_canServe_6 rfl rfl ?_
  refine gf_X1_15 hC hc dX1_canServe_7 ?_
  refine q_iload_n hC 2 dX1_canServe_10 rfl rfl ?_
  have g2 := (gd_e hx).1
  have hx := (gd_e hx).2
  refine q_iald hC 6 (gV_h hc (by decide)) rfl g2 dX1_canServe_11 ?_
  refine q_ishr hC dX1_canServe_12 ?_
  refine q_iconst hC 1 dX1_canServe_13 rfl ?_
  refine q_iand hC dX1_canServe_14 ?_
  refine q_if_eq hC 22 dX1_canServe_15 rfl (fun h3 => ?_) (fun h3 => ?_)
  · have hx := gi_p h3 hx
    refine q_iconst hC 0 dX1_canServe_22 rfl ?_
    exact q_zret hC hF dX1_canServe_23 (Or.inl rfl) (congrArg (fun z => (z, M)) (Option.some.inj hx))
  · have hx := gi_n h3 hx
    refine q_iconst hC 1 dX1_canServe_18 rfl ?_
    refine q_goto hC 23 dX1_canServe_19 rfl ?_
    exact q_zret hC hF dX1_canServe_23 (Or.inr rfl) (congrArg (fun z => (z, M)) (Option.some.inj hx))

theorem dX1_isServable_0 : decode cX1_isServable 0 = .ok (.iconst 0, 1) := by decide +kernel
theorem dX1_isServable_1 : decode cX1_isServable 1 = .ok (.istore_n 2, 1) := by decide +kernel
theorem dX1_isServable_2 : decode cX1_isServable 2 = .ok (.iload_n 2, 1) := by decide +kernel
theorem dX1_isServable_3 : decode cX1_isServable 3 = .ok (.aload_n 0, 1) := by decide +kernel
theorem dX1_isServable_4 : decode cX1_isServable 4 = .ok (.getfield 55, 3) := by decide +kernel
theorem dX1_isServable_7 : decode cX1_isServable 7 = .ok (.if_icmp .ge 25, 3) := by decide +kernel
theorem dX1_isServable_10 : decode cX1_isServable 10 = .ok (.iload_n 2, 1) := by decide +kernel
theorem dX1_isServable_11 : decode cX1_isServable 11 = .ok (.iload_n 1, 1) := by decide +kernel
theorem dX1_isServable_12 : decode cX1_isServable 12 = .ok (.if_icmp .eq 14, 3) := by decide +kernel
theorem dX1_isServable_15 : decode cX1_isServable 15 = .ok (.aload_n 0, 1) := by decide +kernel
theorem dX1_isServable_16 : decode cX1_isServable 16 = .ok (.iload_n 2, 1) := by decide +kernel
theorem dX1_isServable_17 : decode cX1_isServable 17 = .ok (.iload_n 1, 1) := by decide +kernel
theorem dX1_isServable_18 : decode cX1_isServable 18 = .ok (.invokevirtual 85, 3) := by decide +kernel
theorem dX1_isServable_21 : decode cX1_isServable 21 = .ok (.ifCond .eq 5, 3) := by decide +kernel
theorem dX1_isServable_24 : decode cX1_isServable 24 = .ok (.iconst 1, 1) := by decide +kernel
theorem dX1_isServable_25 : decode cX1_isServable 25 = .ok (.ireturn, 1) := by decide +kernel
theorem dX1_isServable_26 : decode cX1_isServable 26 = .ok (.iinc 2 1, 3) := by decide +kernel
theorem dX1_isServable_29 : decode cX1_isServable 29 = .ok (.goto (-27), 3) := by decide +kernel
theorem dX1_isServable_32 : decode cX1_isServable 32 = .ok (.iconst 0, 1) := by decide +kernel
theorem dX1_isServable_33 : decode cX1_isServable 33 = .ok (.ireturn, 1) := by decide +kernel
def j_X1_isServable_2_26 (M : gMem) (c : Nat) (a1 : Int32) (b2 : Int32) : Option (Int32 ⊕ (Int32 ⊕ Int32)) := some (.inl (b2 + 1))
def s_X1_isServable_2 (M : gMem) (c : Nat) (a1 : Int32) (b2 : Int32) : Option (Int32 ⊕ (Int32 ⊕ Int32)) := (if (M.1 c 0 13) ≤ b2 then some (.inr (.inl b2)) else (if b2 = a1 then j_X1_isServable_2_26 M c a1 b2 else Option.bind (x_X1_canServe M c b2 a1) (fun v3 => (if v3 = 0 then j_X1_isServable_2_26 M c a1 b2 else some (.inr (.inr 1))))))
def x_X1_isServable (M : gMem) (c : Nat) (p1 : Int32) : Option Int32 := Option.bind (itr FU (fun s => s_X1_isServable_2 M c p1 s) 0) (fun e7 => Sum.elim (fun s8 => some 0) (fun z9 => some z9) e7)
set_option maxRecDepth 100000 in
set_option maxHeartbeats 4000000 in
theorem w_X1_isServable_2 {X : gX} {Y : gY} {M : gMem} {c : Nat} {a1 : Int32} {r : Int32} (hC : gC X Y cX1_isServable "GuestStaff$House" 3 1 22) (hF : gF X Y (some .boolean) (gQz Y (r, M))) (hc : c < 4) {e : (Int32 ⊕ Int32)} (kE : ∀ s : Int32, e = .inl s → gWW X Y 3 32 [] [] M) (kR : ∀ z : Int32, e = .inr z → z = r) : ∀ (F : Nat) (s : Int32), itr F (fun s => s_X1_isServable_2 M c a1 s) s = some e → gWW X Y 3 2 [(0, .ref (gad Y c 0)), (1, .int a1), (2, .int s)] [] M := by
  intro F s
  refine itr_w (P := fun s => gWW X Y 3 2 [(0, .ref (gad Y c 0)), (1, .int a1), (2, .int s)] [] M) (fun s o hx kI kx => ?_) F s
  obtain ⟨b2, rfl⟩ : ∃ z, z = s := ⟨s, rfl⟩
  have hx : s_X1_isServable_2 M c a1 b2 = some o := hx
  have kE : ∀ s : Int32, o = .inr (.inl s) → gWW X Y 3 32 [] [] M := fun s q => kE s (kx _ q).symm
  have kR : ∀ z : Int32, o = .inr (.inr z) → z = r := fun z q => kR z (kx _ q).symm
  have J26 : ∀ (b2 : Int32) , j_X1_isServable_2_26 M c a1 b2 = some o → gWW X Y 3 26 [(0, .ref (gad Y c 0)), (1, .int a1), (2, .int b2)] [] M := by
    intro b2 hx
    unfold j_X1_isServable_2_26 at hx
    refine q_iinc hC 2 1 [(2, .int (b2 + 1)), (0, .ref (gad Y c 0)), (1, .int a1)] dX1_isServable_26 rfl rfl (by decide) rfl ?_
    refine q_goto hC 2 dX1_isServable_29 rfl ?_
    exact q_sub [1, 2, 0] rfl (kI (b2 + 1) (Option.some.inj hx).symm)
  unfold s_X1_isServable_2 at hx
  refine q_iload_n hC 2 dX1_isServable_2 rfl rfl ?_
  refine q_aload_n hC 0 dX1_isServable_3 rfl rfl ?_
  refine gf_X1_55 hC hc dX1_isServable_4 ?_
  refine q_ic_ge hC 32 dX1_isServable_7 rfl (fun h1 => ?_) (fun h1 => ?_)
  · have hx := gi_p h1 hx
    exact q_sub [] rfl (kE b2 (Option.some.inj hx).symm)
  · have hx := gi_n h1 hx
    refine q_iload_n hC 2 dX1_isServable_10 rfl rfl ?_
    refine q_iload_n hC 1 dX1_isServable_11 rfl rfl ?_
    refine q_ic_eq hC 26 dX1_isServable_12 rfl (fun h2 => ?_) (fun h2 => ?_)
    · have hx := gi_p h2 hx
      exact q_sub [0, 1, 2] rfl (J26 b2 hx)
    · have hx := gi_n h2 hx
      refine q_aload_n hC 0 dX1_isServable_15 rfl rfl ?_
      refine q_iload_n hC 2 dX1_isServable_16 rfl rfl ?_
      refine q_iload_n hC 1 dX1_isServable_17 rfl rfl ?_
      obtain ⟨v3, q4, hx⟩ := gb_e hx
      refine q_kzp (q_rV (As := [.int b2, .int a1]) (rest := []) hC mm_X1_canServe wM_X1_85 (c_X1_canServe hc q4) ⟨rfl, rfl, Nat.le_of_ble_eq_true rfl, Nat.le_of_ble_eq_true rfl⟩ (gV_h hc (by decide)) rfl rfl rfl rfl (Nat.le_of_ble_eq_true rfl) dX1_isServable_18) (fun z5 => ?_)
      refine q_if_eq hC 26 dX1_isServable_21 rfl (fun h6 => ?_) (fun h6 => ?_)
      · have hx := gi_p h6 hx
        exact q_sub [0, 1, 2] rfl (J26 b2 hx)
      · have hx := gi_n h6 hx
        refine q_iconst hC 1 dX1_isServable_24 rfl ?_
        exact q_zret hC hF dX1_isServable_25 (Or.inr rfl) (congrArg (fun z => (z, M)) (kR _ (Option.some.inj hx).symm))
set_option maxRecDepth 100000 in
set_option maxHeartbeats 4000000 in
theorem c_X1_isServable {l : Launch} {Y : gY} {M : gMem} {c : Nat} {p1 : Int32} {r : Int32} (hc : c < 4) (hx : x_X1_isServable M c p1 = some r) : Met l yX1_isServable (gws yX1_isServable cX1_isServable 3 (some .boolean)) { frames := 1, cells := 0, slots := 0, locals := 22 } (va_Pc [.ref (gad Y c 0), .int p1] (gS0 Y M)) (gQz Y (r, M)) 0 0 (gA Y) := by
  refine gmet (lv := [(0, .ref (gad Y c 0)), (1, .int p1)]) "GuestStaff$House" (by decide) rfl (Nat.le_of_ble_eq_true rfl) rfl (fun X hC hF => ?_)
  unfold x_X1_isServable at hx
  refine q_iconst hC 0 dX1_isServable_0 rfl ?_
  refine q_istore_n hC [(2, .int 0), (0, .ref (gad Y c 0)), (1, .int p1)] dX1_isServable_1 rfl (by decide) rfl ?_
  obtain ⟨e7, qe7, hx⟩ := gb_e hx
  refine q_sub [1, 2, 0] rfl (w_X1_isServable_2 hC hF hc (e := e7) (fun s8 qs8 => ?_) (fun z9 qz9 => ?_) _ _ qe7)
  · subst qs8
    refine q_iconst hC 0 dX1_isServable_32 rfl ?_
    exact q_zret hC hF dX1_isServable_33 (Or.inl rfl) (congrArg (fun z => (z, M)) (Option.some.inj hx))
  · subst qz9
    exact Option.some.inj hx

theorem dX1_doesServe_0 : decode cX1_doesServe 0 = .ok (.aload_n 0, 1) := by decide +kernel
theorem dX1_doesServe_1 : decode cX1_doesServe 1 = .ok (.getfield 21, 3) := by decide +kernel
theorem dX1_doesServe_4 : decode cX1_doesServe 4 = .ok (.iload_n 1, 1) := by decide +kernel
theorem dX1_doesServe_5 : decode cX1_doesServe 5 = .ok (.iaload, 1) := by decide +kernel
theorem dX1_doesServe_6 : decode cX1_doesServe 6 = .ok (.iload_n 2, 1) := by decide +kernel
theorem dX1_doesServe_7 : decode cX1_doesServe 7 = .ok (.if_icmp .ne 16, 3) := by decide +kernel
theorem dX1_doesServe_10 : decode cX1_doesServe 10 = .ok (.aload_n 0, 1) := by decide +kernel
theorem dX1_doesServe_11 : decode cX1_doesServe 11 = .ok (.iload_n 1, 1) := by decide +kernel
theorem dX1_doesServe_12 : decode cX1_doesServe 12 = .ok (.iload_n 2, 1) := by decide +kernel
theorem dX1_doesServe_13 : decode cX1_doesServe 13 = .ok (.invokevirtual 85, 3) := by decide +kernel
theorem dX1_doesServe_16 : decode cX1_doesServe 16 = .ok (.ifCond .eq 7, 3) := by decide +kernel
theorem dX1_doesServe_19 : decode cX1_doesServe 19 = .ok (.iconst 1, 1) := by decide +kernel
theorem dX1_doesServe_20 : decode cX1_doesServe 20 = .ok (.goto 4, 3) := by decide +kernel
theorem dX1_doesServe_23 : decode cX1_doesServe 23 = .ok (.iconst 0, 1) := by decide +kernel
theorem dX1_doesServe_24 : decode cX1_doesServe 24 = .ok (.ireturn, 1) := by decide +kernel
def x_X1_doesServe (M : gMem) (c : Nat) (p1 : Int32) (p2 : Int32) : Option Int32 := gd (gin p1 7) ((if (M.1 c 4 (p1).toNatClampNeg) = p2 then Option.bind (x_X1_canServe M c p1 p2) (fun v3 => (if v3 = 0 then some 0 else some 1)) else some 0))
set_option maxRecDepth 100000 in
set_option maxHeartbeats 4000000 in
theorem c_X1_doesServe {l : Launch} {Y : gY} {M : gMem} {c : Nat} {p1 : Int32} {p2 : Int32} {r : Int32} (hc : c < 4) (hx : x_X1_doesServe M c p1 p2 = some r) : Met l yX1_doesServe (gws yX1_doesServe cX1_doesServe 3 (some .boolean)) { frames := 1, cells := 0, slots := 0, locals := 22 } (va_Pc [.ref (gad Y c 0), .int p1, .int p2] (gS0 Y M)) (gQz Y (r, M)) 0 0 (gA Y) := by
  refine gmet (lv := [(0, .ref (gad Y c 0)), (1, .int p1), (2, .int p2)]) "GuestStaff$House" (by decide) rfl (Nat.le_of_ble_eq_true rfl) rfl (fun X hC hF => ?_)
  unfold x_X1_doesServe at hx
  refine q_aload_n hC 0 dX1_doesServe_0 rfl rfl ?_
  refine gf_X1_21 hC hc dX1_doesServe_1 ?_
  refine q_iload_n hC 1 dX1_doesServe_4 rfl rfl ?_
  have g1 := (gd_e hx).1
  have hx := (gd_e hx).2
  refine q_iald hC 6 (gV_h hc (by decide)) rfl g1 dX1_doesServe_5 ?_
  refine q_iload_n hC 2 dX1_doesServe_6 rfl rfl ?_
  refine q_ic_ne hC 23 dX1_doesServe_7 rfl (fun h2 => ?_) (fun h2 => ?_)
  · have hx := gi_n h2 hx
    refine q_iconst hC 0 dX1_doesServe_23 rfl ?_
    exact q_zret hC hF dX1_doesServe_24 (Or.inl rfl) (congrArg (fun z => (z, M)) (Option.some.inj hx))
  · have hx := gi_p h2 hx
    refine q_aload_n hC 0 dX1_doesServe_10 rfl rfl ?_
    refine q_iload_n hC 1 dX1_doesServe_11 rfl rfl ?_
    refine q_iload_n hC 2 dX1_doesServe_12 rfl rfl ?_
    obtain ⟨v3, q4, hx⟩ := gb_e hx
    refine q_kzp (q_rV (As := [.int p1, .int p2]) (rest := []) hC mm_X1_canServe wM_X1_85 (c_X1_canServe hc q4) ⟨rfl, rfl, Nat.le_of_ble_eq_true rfl, Nat.le_of_ble_eq_true rfl⟩ (gV_h hc (by decide)) rfl rfl rfl rfl (Nat.le_of_ble_eq_true rfl) dX1_doesServe_13) (fun z5 => ?_)
    refine q_if_eq hC 23 dX1_doesServe_16 rfl (fun h6 => ?_) (fun h6 => ?_)
    · have hx := gi_p h6 hx
      refine q_iconst hC 0 dX1_doesServe_23 rfl ?_
      exact q_zret hC hF dX1_doesServe_24 (Or.inl rfl) (congrArg (fun z => (z, M)) (Option.some.inj hx))
    · have hx := gi_n h6 hx
      refine q_iconst hC 1 dX1_doesServe_19 rfl ?_
      refine q_goto hC 24 dX1_doesServe_20 rfl ?_
      exact q_zret hC hF dX1_doesServe_24 (Or.inr rfl) (congrArg (fun z => (z, M)) (Option.some.inj hx))

theorem dX1_serverOf_0 : decode cX1_serverOf 0 = .ok (.iconst 0, 1) := by decide +kernel
theorem dX1_serverOf_1 : decode cX1_serverOf 1 = .ok (.istore_n 2, 1) := by decide +kernel
theorem dX1_serverOf_2 : decode cX1_serverOf 2 = .ok (.iload_n 2, 1) := by decide +kernel
theorem dX1_serverOf_3 : decode cX1_serverOf 3 = .ok (.aload_n 0, 1) := by decide +kernel
theorem dX1_serverOf_4 : decode cX1_serverOf 4 = .ok (.getfield 55, 3) := by decide +kernel
theorem dX1_serverOf_7 : decode cX1_serverOf 7 = .ok (.if_icmp .ge 20, 3) := by decide +kernel
theorem dX1_serverOf_10 : decode cX1_serverOf 10 = .ok (.aload_n 0, 1) := by decide +kernel
theorem dX1_serverOf_11 : decode cX1_serverOf 11 = .ok (.iload_n 2, 1) := by decide +kernel
theorem dX1_serverOf_12 : decode cX1_serverOf 12 = .ok (.iload_n 1, 1) := by decide +kernel
theorem dX1_serverOf_13 : decode cX1_serverOf 13 = .ok (.invokevirtual 89, 3) := by decide +kernel
theorem dX1_serverOf_16 : decode cX1_serverOf 16 = .ok (.ifCond .eq 5, 3) := by decide +kernel
theorem dX1_serverOf_19 : decode cX1_serverOf 19 = .ok (.iload_n 2, 1) := by decide +kernel
theorem dX1_serverOf_20 : decode cX1_serverOf 20 = .ok (.ireturn, 1) := by decide +kernel
theorem dX1_serverOf_21 : decode cX1_serverOf 21 = .ok (.iinc 2 1, 3) := by decide +kernel
theorem dX1_serverOf_24 : decode cX1_serverOf 24 = .ok (.goto (-22), 3) := by decide +kernel
theorem dX1_serverOf_27 : decode cX1_serverOf 27 = .ok (.iconst (-1), 1) := by decide +kernel
theorem dX1_serverOf_28 : decode cX1_serverOf 28 = .ok (.ireturn, 1) := by decide +kernel
def s_X1_serverOf_2 (M : gMem) (c : Nat) (a1 : Int32) (b2 : Int32) : Option (Int32 ⊕ (Int32 ⊕ Int32)) := (if (M.1 c 0 13) ≤ b2 then some (.inr (.inl b2)) else Option.bind (x_X1_doesServe M c b2 a1) (fun v2 => (if v2 = 0 then some (.inl (b2 + 1)) else some (.inr (.inr b2)))))
def x_X1_serverOf (M : gMem) (c : Nat) (p1 : Int32) : Option Int32 := Option.bind (itr FU (fun s => s_X1_serverOf_2 M c p1 s) 0) (fun e6 => Sum.elim (fun s7 => some (-1)) (fun z8 => some z8) e6)
set_option maxRecDepth 100000 in
set_option maxHeartbeats 4000000 in
theorem w_X1_serverOf_2 {X : gX} {Y : gY} {M : gMem} {c : Nat} {a1 : Int32} {r : Int32} (hC : gC X Y cX1_serverOf "GuestStaff$House" 3 2 44) (hF : gF X Y (some .int) (gQi Y (r, M))) (hc : c < 4) {e : (Int32 ⊕ Int32)} (kE : ∀ s : Int32, e = .inl s → gWW X Y 3 27 [] [] M) (kR : ∀ z : Int32, e = .inr z → z = r) : ∀ (F : Nat) (s : Int32), itr F (fun s => s_X1_serverOf_2 M c a1 s) s = some e → gWW X Y 3 2 [(0, .ref (gad Y c 0)), (1, .int a1), (2, .int s)] [] M := by
  intro F s
  refine itr_w (P := fun s => gWW X Y 3 2 [(0, .ref (gad Y c 0)), (1, .int a1), (2, .int s)] [] M) (fun s o hx kI kx => ?_) F s
  obtain ⟨b2, rfl⟩ : ∃ z, z = s := ⟨s, rfl⟩
  have hx : s_X1_serverOf_2 M c a1 b2 = some o := hx
  have kE : ∀ s : Int32, o = .inr (.inl s) → gWW X Y 3 27 [] [] M := fun s q => kE s (kx _ q).symm
  have kR : ∀ z : Int32, o = .inr (.inr z) → z = r := fun z q => kR z (kx _ q).symm
  unfold s_X1_serverOf_2 at hx
  refine q_iload_n hC 2 dX1_serverOf_2 rfl rfl ?_
  refine q_aload_n hC 0 dX1_serverOf_3 rfl rfl ?_
  refine gf_X1_55 hC hc dX1_serverOf_4 ?_
  refine q_ic_ge hC 27 dX1_serverOf_7 rfl (fun h1 => ?_) (fun h1 => ?_)
  · have hx := gi_p h1 hx
    exact q_sub [] rfl (kE b2 (Option.some.inj hx).symm)
  · have hx := gi_n h1 hx
    refine q_aload_n hC 0 dX1_serverOf_10 rfl rfl ?_
    refine q_iload_n hC 2 dX1_serverOf_11 rfl rfl ?_
    refine q_iload_n hC 1 dX1_serverOf_12 rfl rfl ?_
    obtain ⟨v2, q3, hx⟩ := gb_e hx
    refine q_kzp (q_rV (As := [.int b2, .int a1]) (rest := []) hC mm_X1_doesServe wM_X1_89 (c_X1_doesServe hc q3) ⟨rfl, rfl, Nat.le_of_ble_eq_true rfl, Nat.le_of_ble_eq_true rfl⟩ (gV_h hc (by decide)) rfl rfl rfl rfl (Nat.le_of_ble_eq_true rfl) dX1_serverOf_13) (fun z4 => ?_)
    refine q_if_eq hC 21 dX1_serverOf_16 rfl (fun h5 => ?_) (fun h5 => ?_)
    · have hx := gi_p h5 hx
      refine q_iinc hC 2 1 [(2, .int (b2 + 1)), (0, .ref (gad Y c 0)), (1, .int a1)] dX1_serverOf_21 rfl rfl (by decide) rfl ?_
      refine q_goto hC 2 dX1_serverOf_24 rfl ?_
      exact q_sub [1, 2, 0] rfl (kI (b2 + 1) (Option.some.inj hx).symm)
    · have hx := gi_n h5 hx
      refine q_iload_n hC 2 dX1_serverOf_19 rfl rfl ?_
      exact q_iret hC hF dX1_serverOf_20 (congrArg (fun z => (z, M)) (kR _ (Option.some.inj hx).symm))
set_option maxRecDepth 100000 in
set_option maxHeartbeats 4000000 in
theorem c_X1_serverOf {l : Launch} {Y : gY} {M : gMem} {c : Nat} {p1 : Int32} {r : Int32} (hc : c < 4) (hx : x_X1_serverOf M c p1 = some r) : Met l yX1_serverOf (gws yX1_serverOf cX1_serverOf 3 (some .int)) { frames := 2, cells := 0, slots := 0, locals := 44 } (va_Pc [.ref (gad Y c 0), .int p1] (gS0 Y M)) (gQi Y (r, M)) 0 0 (gA Y) := by
  refine gmet (lv := [(0, .ref (gad Y c 0)), (1, .int p1)]) "GuestStaff$House" (by decide) rfl (Nat.le_of_ble_eq_true rfl) rfl (fun X hC hF => ?_)
  unfold x_X1_serverOf at hx
  refine q_iconst hC 0 dX1_serverOf_0 rfl ?_
  refine q_istore_n hC [(2, .int 0), (0, .ref (gad Y c 0)), (1, .int p1)] dX1_serverOf_1 rfl (by decide) rfl ?_
  obtain ⟨e6, qe6, hx⟩ := gb_e hx
  refine q_sub [1, 2, 0] rfl (w_X1_serverOf_2 hC hF hc (e := e6) (fun s7 qs7 => ?_) (fun z8 qz8 => ?_) _ _ qe6)
  · subst qs7
    refine q_iconst hC (-1) dX1_serverOf_27 rfl ?_
    exact q_iret hC hF dX1_serverOf_28 (congrArg (fun z => (z, M)) (Option.some.inj hx))
  · subst qz8
    exact Option.some.inj hx

theorem dX1_serversOf_0 : decode cX1_serversOf 0 = .ok (.iconst 0, 1) := by decide +kernel
theorem dX1_serversOf_1 : decode cX1_serversOf 1 = .ok (.istore_n 2, 1) := by decide +kernel
theorem dX1_serversOf_2 : decode cX1_serversOf 2 = .ok (.iconst 0, 1) := by decide +kernel
theorem dX1_serversOf_3 : decode cX1_serversOf 3 = .ok (.istore_n 3, 1) := by decide +kernel
theorem dX1_serversOf_4 : decode cX1_serversOf 4 = .ok (.iload_n 3, 1) := by decide +kernel
theorem dX1_serversOf_5 : decode cX1_serversOf 5 = .ok (.aload_n 0, 1) := by decide +kernel
theorem dX1_serversOf_6 : decode cX1_serversOf 6 = .ok (.getfield 55, 3) := by decide +kernel
theorem dX1_serversOf_9 : decode cX1_serversOf 9 = .ok (.if_icmp .ge 21, 3) := by decide +kernel
theorem dX1_serversOf_12 : decode cX1_serversOf 12 = .ok (.aload_n 0, 1) := by decide +kernel
theorem dX1_serversOf_13 : decode cX1_serversOf 13 = .ok (.iload_n 3, 1) := by decide +kernel
theorem dX1_serversOf_14 : decode cX1_serversOf 14 = .ok (.iload_n 1, 1) := by decide +kernel
theorem dX1_serversOf_15 : decode cX1_serversOf 15 = .ok (.invokevirtual 89, 3) := by decide +kernel
theorem dX1_serversOf_18 : decode cX1_serversOf 18 = .ok (.ifCond .eq 6, 3) := by decide +kernel
theorem dX1_serversOf_21 : decode cX1_serversOf 21 = .ok (.iinc 2 1, 3) := by decide +kernel
theorem dX1_serversOf_24 : decode cX1_serversOf 24 = .ok (.iinc 3 1, 3) := by decide +kernel
theorem dX1_serversOf_27 : decode cX1_serversOf 27 = .ok (.goto (-23), 3) := by decide +kernel
theorem dX1_serversOf_30 : decode cX1_serversOf 30 = .ok (.iload_n 2, 1) := by decide +kernel
theorem dX1_serversOf_31 : decode cX1_serversOf 31 = .ok (.ireturn, 1) := by decide +kernel
def j_X1_serversOf_4_24 (M : gMem) (c : Nat) (a1 : Int32) (b2 : Int32) (b3 : Int32) : Option ((Int32 × Int32) ⊕ (Int32 × Int32)) := some (.inl (b2, b3 + 1))
def s_X1_serversOf_4 (M : gMem) (c : Nat) (a1 : Int32) (b2 : Int32) (b3 : Int32) : Option ((Int32 × Int32) ⊕ (Int32 × Int32)) := (if (M.1 c 0 13) ≤ b3 then some (.inr (b2, b3)) else Option.bind (x_X1_doesServe M c b3 a1) (fun v2 => (if v2 = 0 then j_X1_serversOf_4_24 M c a1 b2 b3 else j_X1_serversOf_4_24 M c a1 (b2 + 1) b3)))
def x_X1_serversOf (M : gMem) (c : Nat) (p1 : Int32) : Option Int32 := Option.bind (itr FU (fun s => s_X1_serversOf_4 M c p1 s.1 s.2) (0, 0)) (fun e6 => some e6.1)
set_option maxRecDepth 100000 in
set_option maxHeartbeats 4000000 in
theorem w_X1_serversOf_4 {X : gX} {Y : gY} {M : gMem} {c : Nat} {a1 : Int32} {r : Int32} (hC : gC X Y cX1_serversOf "GuestStaff$House" 4 2 44) (hF : gF X Y (some .int) (gQi Y (r, M))) (hc : c < 4) {e : (Int32 × Int32)} (kE : ∀ s : (Int32 × Int32), e = s → gWW X Y 4 30 [(2, .int s.1)] [] M) : ∀ (F : Nat) (s : (Int32 × Int32)), itr F (fun s => s_X1_serversOf_4 M c a1 s.1 s.2) s = some e → gWW X Y 4 4 [(0, .ref (gad Y c 0)), (1, .int a1), (2, .int s.1), (3, .int s.2)] [] M := by
  intro F s
  refine itr_w (P := fun s => gWW X Y 4 4 [(0, .ref (gad Y c 0)), (1, .int a1), (2, .int s.1), (3, .int s.2)] [] M) (fun s o hx kI kx => ?_) F s
  obtain ⟨b2, b3⟩ := s
  have hx : s_X1_serversOf_4 M c a1 b2 b3 = some o := hx
  have kE : ∀ s : (Int32 × Int32), o = .inr s → gWW X Y 4 30 [(2, .int s.1)] [] M := fun s q => kE s (kx _ q).symm
  have J24 : ∀ (b2 : Int32) (b3 : Int32) , j_X1_serversOf_4_24 M c a1 b2 b3 = some o → gWW X Y 4 24 [(0, .ref (gad Y c 0)), (1, .int a1), (2, .int b2), (3, .int b3)] [] M := by
    intro b2 b3 hx
    unfold j_X1_serversOf_4_24 at hx
    refine q_iinc hC 3 1 [(3, .int (b3 + 1)), (0, .ref (gad Y c 0)), (1, .int a1), (2, .int b2)] dX1_serversOf_24 rfl rfl (by decide) rfl ?_
    refine q_goto hC 4 dX1_serversOf_27 rfl ?_
    exact q_sub [1, 2, 3, 0] rfl (kI (b2, b3 + 1) (Option.some.inj hx).symm)
  unfold s_X1_serversOf_4 at hx
  refine q_iload_n hC 3 dX1_serversOf_4 rfl rfl ?_
  refine q_aload_n hC 0 dX1_serversOf_5 rfl rfl ?_
  refine gf_X1_55 hC hc dX1_serversOf_6 ?_
  refine q_ic_ge hC 30 dX1_serversOf_9 rfl (fun h1 => ?_) (fun h1 => ?_)
  · have hx := gi_p h1 hx
    exact q_sub [2] rfl (kE (b2, b3) (Option.some.inj hx).symm)
  · have hx := gi_n h1 hx
    refine q_aload_n hC 0 dX1_serversOf_12 rfl rfl ?_
    refine q_iload_n hC 3 dX1_serversOf_13 rfl rfl ?_
    refine q_iload_n hC 1 dX1_serversOf_14 rfl rfl ?_
    obtain ⟨v2, q3, hx⟩ := gb_e hx
    refine q_kzp (q_rV (As := [.int b3, .int a1]) (rest := []) hC mm_X1_doesServe wM_X1_89 (c_X1_doesServe hc q3) ⟨rfl, rfl, Nat.le_of_ble_eq_true rfl, Nat.le_of_ble_eq_true rfl⟩ (gV_h hc (by decide)) rfl rfl rfl rfl (Nat.le_of_ble_eq_true rfl) dX1_serversOf_15) (fun z4 => ?_)
    refine q_if_eq hC 24 dX1_serversOf_18 rfl (fun h5 => ?_) (fun h5 => ?_)
    · have hx := gi_p h5 hx
      exact q_sub [0, 1, 2, 3] rfl (J24 b2 b3 hx)
    · have hx := gi_n h5 hx
      refine q_iinc hC 2 1 [(2, .int (b2 + 1)), (0, .ref (gad Y c 0)), (1, .int a1), (3, .int b3)] dX1_serversOf_21 rfl rfl (by decide) rfl ?_
      exact q_sub [1, 2, 0, 3] rfl (J24 (b2 + 1) b3 hx)
set_option maxRecDepth 100000 in
set_option maxHeartbeats 4000000 in
theorem c_X1_serversOf {l : Launch} {Y : gY} {M : gMem} {c : Nat} {p1 : Int32} {r : Int32} (hc : c < 4) (hx : x_X1_serversOf M c p1 = some r) : Met l yX1_serversOf (gws yX1_serversOf cX1_serversOf 4 (some .int)) { frames := 2, cells := 0, slots := 0, locals := 44 } (va_Pc [.ref (gad Y c 0), .int p1] (gS0 Y M)) (gQi Y (r, M)) 0 0 (gA Y) := by
  refine gmet (lv := [(0, .ref (gad Y c 0)), (1, .int p1)]) "GuestStaff$House" (by decide) rfl (Nat.le_of_ble_eq_true rfl) rfl (fun X hC hF => ?_)
  unfold x_X1_serversOf at hx
  refine q_iconst hC 0 dX1_serversOf_0 rfl ?_
  refine q_istore_n hC [(2, .int 0), (0, .ref (gad Y c 0)), (1, .int p1)] dX1_serversOf_1 rfl (by decide) rfl ?_
  refine q_iconst hC 0 dX1_serversOf_2 rfl ?_
  refine q_istore_n hC [(3, .int 0), (2, .int 0), (0, .ref (gad Y c 0)), (1, .int p1)] dX1_serversOf_3 rfl (by decide) rfl ?_
  obtain ⟨e6, qe6, hx⟩ := gb_e hx
  refine q_sub [2, 3, 1, 0] rfl (w_X1_serversOf_4 hC hF hc (e := e6) (fun s q => ?_) _ _ qe6)
  · subst q
    refine q_iload_n hC 0 dX1_serversOf_30 rfl rfl ?_
    exact q_iret hC hF dX1_serversOf_31 (congrArg (fun z => (z, M)) (Option.some.inj hx))

theorem dX1_servedCount_0 : decode cX1_servedCount 0 = .ok (.iconst 0, 1) := by decide +kernel
theorem dX1_servedCount_1 : decode cX1_servedCount 1 = .ok (.istore_n 1, 1) := by decide +kernel
theorem dX1_servedCount_2 : decode cX1_servedCount 2 = .ok (.iconst 0, 1) := by decide +kernel
theorem dX1_servedCount_3 : decode cX1_servedCount 3 = .ok (.istore_n 2, 1) := by decide +kernel
theorem dX1_servedCount_4 : decode cX1_servedCount 4 = .ok (.iload_n 2, 1) := by decide +kernel
theorem dX1_servedCount_5 : decode cX1_servedCount 5 = .ok (.aload_n 0, 1) := by decide +kernel
theorem dX1_servedCount_6 : decode cX1_servedCount 6 = .ok (.getfield 55, 3) := by decide +kernel
theorem dX1_servedCount_9 : decode cX1_servedCount 9 = .ok (.if_icmp .ge 21, 3) := by decide +kernel
theorem dX1_servedCount_12 : decode cX1_servedCount 12 = .ok (.aload_n 0, 1) := by decide +kernel
theorem dX1_servedCount_13 : decode cX1_servedCount 13 = .ok (.iload_n 2, 1) := by decide +kernel
theorem dX1_servedCount_14 : decode cX1_servedCount 14 = .ok (.invokevirtual 92, 3) := by decide +kernel
theorem dX1_servedCount_17 : decode cX1_servedCount 17 = .ok (.iconst (-1), 1) := by decide +kernel
theorem dX1_servedCount_18 : decode cX1_servedCount 18 = .ok (.if_icmp .eq 6, 3) := by decide +kernel
theorem dX1_servedCount_21 : decode cX1_servedCount 21 = .ok (.iinc 1 1, 3) := by decide +kernel
theorem dX1_servedCount_24 : decode cX1_servedCount 24 = .ok (.iinc 2 1, 3) := by decide +kernel
theorem dX1_servedCount_27 : decode cX1_servedCount 27 = .ok (.goto (-23), 3) := by decide +kernel
theorem dX1_servedCount_30 : decode cX1_servedCount 30 = .ok (.iload_n 1, 1) := by decide +kernel
theorem dX1_servedCount_31 : decode cX1_servedCount 31 = .ok (.ireturn, 1) := by decide +kernel
def j_X1_servedCount_4_24 (M : gMem) (c : Nat) (b1 : Int32) (b2 : Int32) : Option ((Int32 × Int32) ⊕ (Int32 × Int32)) := some (.inl (b1, b2 + 1))
def s_X1_servedCount_4 (M : gMem) (c : Nat) (b1 : Int32) (b2 : Int32) : Option ((Int32 × Int32) ⊕ (Int32 × Int32)) := (if (M.1 c 0 13) ≤ b2 then some (.inr (b1, b2)) else Option.bind (x_X1_serverOf M c b2) (fun v2 => (if v2 = (-1) then j_X1_servedCount_4_24 M c b1 b2 else j_X1_servedCount_4_24 M c (b1 + 1) b2)))
def x_X1_servedCount (M : gMem) (c : Nat) : Option Int32 := Option.bind (itr FU (fun s => s_X1_servedCount_4 M c s.1 s.2) (0, 0)) (fun e5 => some e5.1)
set_option maxRecDepth 100000 in
set_option maxHeartbeats 4000000 in
theorem w_X1_servedCount_4 {X : gX} {Y : gY} {M : gMem} {c : Nat} {r : Int32} (hC : gC X Y cX1_servedCount "GuestStaff$House" 3 3 66) (hF : gF X Y (some .int) (gQi Y (r, M))) (hc : c < 4) {e : (Int32 × Int32)} (kE : ∀ s : (Int32 × Int32), e = s → gWW X Y 3 30 [(1, .int s.1)] [] M) : ∀ (F : Nat) (s : (Int32 × Int32)), itr F (fun s => s_X1_servedCount_4 M c s.1 s.2) s = some e → gWW X Y 3 4 [(0, .ref (gad Y c 0)), (1, .int s.1), (2, .int s.2)] [] M := by
  intro F s
  refine itr_w (P := fun s => gWW X Y 3 4 [(0, .ref (gad Y c 0)), (1, .int s.1), (2, .int s.2)] [] M) (fun s o hx kI kx => ?_) F s
  obtain ⟨b1, b2⟩ := s
  have hx : s_X1_servedCount_4 M c b1 b2 = some o := hx
  have kE : ∀ s : (Int32 × Int32), o = .inr s → gWW X Y 3 30 [(1, .int s.1)] [] M := fun s q => kE s (kx _ q).symm
  have J24 : ∀ (b1 : Int32) (b2 : Int32) , j_X1_servedCount_4_24 M c b1 b2 = some o → gWW X Y 3 24 [(0, .ref (gad Y c 0)), (1, .int b1), (2, .int b2)] [] M := by
    intro b1 b2 hx
    unfold j_X1_servedCount_4_24 at hx
    refine q_iinc hC 2 1 [(2, .int (b2 + 1)), (0, .ref (gad Y c 0)), (1, .int b1)] dX1_servedCount_24 rfl rfl (by decide) rfl ?_
    refine q_goto hC 4 dX1_servedCount_27 rfl ?_
    exact q_sub [1, 2, 0] rfl (kI (b1, b2 + 1) (Option.some.inj hx).symm)
  unfold s_X1_servedCount_4 at hx
  refine q_iload_n hC 2 dX1_servedCount_4 rfl rfl ?_
  refine q_aload_n hC 0 dX1_servedCount_5 rfl rfl ?_
  refine gf_X1_55 hC hc dX1_servedCount_6 ?_
  refine q_ic_ge hC 30 dX1_servedCount_9 rfl (fun h1 => ?_) (fun h1 => ?_)
  · have hx := gi_p h1 hx
    exact q_sub [1] rfl (kE (b1, b2) (Option.some.inj hx).symm)
  · have hx := gi_n h1 hx
    refine q_aload_n hC 0 dX1_servedCount_12 rfl rfl ?_
    refine q_iload_n hC 2 dX1_servedCount_13 rfl rfl ?_
    obtain ⟨v2, q3, hx⟩ := gb_e hx
    refine q_kip (q_rV (As := [.int b2]) (rest := []) hC mm_X1_serverOf wM_X1_92 (c_X1_serverOf hc q3) ⟨rfl, rfl, Nat.le_of_ble_eq_true rfl, Nat.le_of_ble_eq_true rfl⟩ (gV_h hc (by decide)) rfl rfl rfl rfl (Nat.le_of_ble_eq_true rfl) dX1_servedCount_14) ?_
    refine q_iconst hC (-1) dX1_servedCount_17 rfl ?_
    refine q_ic_eq hC 24 dX1_servedCount_18 rfl (fun h4 => ?_) (fun h4 => ?_)
    · have hx := gi_p h4 hx
      exact q_sub [0, 1, 2] rfl (J24 b1 b2 hx)
    · have hx := gi_n h4 hx
      refine q_iinc hC 1 1 [(1, .int (b1 + 1)), (0, .ref (gad Y c 0)), (2, .int b2)] dX1_servedCount_21 rfl rfl (by decide) rfl ?_
      exact q_sub [1, 0, 2] rfl (J24 (b1 + 1) b2 hx)
set_option maxRecDepth 100000 in
set_option maxHeartbeats 4000000 in
theorem c_X1_servedCount {l : Launch} {Y : gY} {M : gMem} {c : Nat} {r : Int32} (hc : c < 4) (hx : x_X1_servedCount M c = some r) : Met l yX1_servedCount (gws yX1_servedCount cX1_servedCount 3 (some .int)) { frames := 3, cells := 0, slots := 0, locals := 66 } (va_Pc [.ref (gad Y c 0)] (gS0 Y M)) (gQi Y (r, M)) 0 0 (gA Y) := by
  refine gmet (lv := [(0, .ref (gad Y c 0))]) "GuestStaff$House" (by decide) rfl (Nat.le_of_ble_eq_true rfl) rfl (fun X hC hF => ?_)
  unfold x_X1_servedCount at hx
  refine q_iconst hC 0 dX1_servedCount_0 rfl ?_
  refine q_istore_n hC [(1, .int 0), (0, .ref (gad Y c 0))] dX1_servedCount_1 rfl (by decide) rfl ?_
  refine q_iconst hC 0 dX1_servedCount_2 rfl ?_
  refine q_istore_n hC [(2, .int 0), (1, .int 0), (0, .ref (gad Y c 0))] dX1_servedCount_3 rfl (by decide) rfl ?_
  obtain ⟨e5, qe5, hx⟩ := gb_e hx
  refine q_sub [2, 1, 0] rfl (w_X1_servedCount_4 hC hF hc (e := e5) (fun s q => ?_) _ _ qe5)
  · subst q
    refine q_iload_n hC 0 dX1_servedCount_30 rfl rfl ?_
    exact q_iret hC hF dX1_servedCount_31 (congrArg (fun z => (z, M)) (Option.some.inj hx))

theorem dX1_contentBy_0 : decode cX1_contentBy 0 = .ok (.aload_n 0, 1) := by decide +kernel
theorem dX1_contentBy_1 : decode cX1_contentBy 1 = .ok (.getfield 64, 3) := by decide +kernel
theorem dX1_contentBy_4 : decode cX1_contentBy 4 = .ok (.aload_n 0, 1) := by decide +kernel
theorem dX1_contentBy_5 : decode cX1_contentBy 5 = .ok (.getfield 9, 3) := by decide +kernel
theorem dX1_contentBy_8 : decode cX1_contentBy 8 = .ok (.iload_n 1, 1) := by decide +kernel
theorem dX1_contentBy_9 : decode cX1_contentBy 9 = .ok (.iaload, 1) := by decide +kernel
theorem dX1_contentBy_10 : decode cX1_contentBy 10 = .ok (.aaload, 1) := by decide +kernel
theorem dX1_contentBy_11 : decode cX1_contentBy 11 = .ok (.aload_n 0, 1) := by decide +kernel
theorem dX1_contentBy_12 : decode cX1_contentBy 12 = .ok (.getfield 9, 3) := by decide +kernel
theorem dX1_contentBy_15 : decode cX1_contentBy 15 = .ok (.iload_n 2, 1) := by decide +kernel
theorem dX1_contentBy_16 : decode cX1_contentBy 16 = .ok (.iaload, 1) := by decide +kernel
theorem dX1_contentBy_17 : decode cX1_contentBy 17 = .ok (.aload_n 0, 1) := by decide +kernel
theorem dX1_contentBy_18 : decode cX1_contentBy 18 = .ok (.getfield 58, 3) := by decide +kernel
theorem dX1_contentBy_21 : decode cX1_contentBy 21 = .ok (.invokevirtual 96, 3) := by decide +kernel
theorem dX1_contentBy_24 : decode cX1_contentBy 24 = .ok (.ireturn, 1) := by decide +kernel
def x_X1_contentBy (M : gMem) (c : Nat) (p1 : Int32) (p2 : Int32) : Option Int32 := gd (gin p1 7) (gd (gin (M.1 c 1 (p1).toNatClampNeg) 6) (gd (gin p2 7) (Option.bind (x_K_contentBy (M.1 c 1 (p1).toNatClampNeg).toNatClampNeg (M.1 c 1 (p2).toNatClampNeg) (M.1 c 0 14)) (fun v4 => some v4))))
set_option maxRecDepth 100000 in
set_option maxHeartbeats 4000000 in
theorem c_X1_contentBy {l : Launch} {Y : gY} {M : gMem} {c : Nat} {p1 : Int32} {p2 : Int32} {r : Int32} (hc : c < 4) (hx : x_X1_contentBy M c p1 p2 = some r) : Met l yX1_contentBy (gws yX1_contentBy cX1_contentBy 3 (some .int)) { frames := 4, cells := 0, slots := 0, locals := 88 } (va_Pc [.ref (gad Y c 0), .int p1, .int p2] (gS0 Y M)) (gQi Y (r, M)) 0 0 (gA Y) := by
  refine gmet (lv := [(0, .ref (gad Y c 0)), (1, .int p1), (2, .int p2)]) "GuestStaff$House" (by decide) rfl (Nat.le_of_ble_eq_true rfl) rfl (fun X hC hF => ?_)
  unfold x_X1_contentBy at hx
  refine q_aload_n hC 0 dX1_contentBy_0 rfl rfl ?_
  refine gf_X1_64 hC hc dX1_contentBy_1 ?_
  refine q_aload_n hC 0 dX1_contentBy_4 rfl rfl ?_
  refine gf_X1_9 hC hc dX1_contentBy_5 ?_
  refine q_iload_n hC 1 dX1_contentBy_8 rfl rfl ?_
  have g1 := (gd_e hx).1
  have hx := (gd_e hx).2
  refine q_iald hC 6 (gV_h hc (by decide)) rfl g1 dX1_contentBy_9 ?_
  have g2 := (gd_e hx).1
  have hx := (gd_e hx).2
  refine q_aald (t0 := 2) hC (gV_t (by decide) (by decide)) rfl rfl rfl g2 (grow_i g2) dX1_contentBy_10 ?_
  refine q_aload_n hC 0 dX1_contentBy_11 rfl rfl ?_
  refine gf_X1_9 hC hc dX1_contentBy_12 ?_
  refine q_iload_n hC 2 dX1_contentBy_15 rfl rfl ?_
  have g3 := (gd_e hx).1
  have hx := (gd_e hx).2
  refine q_iald hC 6 (gV_h hc (by decide)) rfl g3 dX1_contentBy_16 ?_
  refine q_aload_n hC 0 dX1_contentBy_17 rfl rfl ?_
  refine gf_X1_58 hC hc dX1_contentBy_18 ?_
  obtain ⟨v4, q5, hx⟩ := gb_e hx
  refine q_kip ((q_rKc (As := [.int (M.1 c 1 (p2).toNatClampNeg), .int (M.1 c 0 14)]) (rest := []) hC wM_X1_96 (gin_lt g2) q5 (Nat.le_of_ble_eq_true rfl) (Nat.le_of_ble_eq_true rfl) rfl rfl (Nat.le_of_ble_eq_true rfl) dX1_contentBy_21).choose_spec) ?_
  exact q_iret hC hF dX1_contentBy_24 (congrArg (fun z => (z, M)) (Option.some.inj hx))

theorem dX1_contentOf_0 : decode cX1_contentOf 0 = .ok (.aload_n 0, 1) := by decide +kernel
theorem dX1_contentOf_1 : decode cX1_contentOf 1 = .ok (.iload_n 1, 1) := by decide +kernel
theorem dX1_contentOf_2 : decode cX1_contentOf 2 = .ok (.invokevirtual 92, 3) := by decide +kernel
theorem dX1_contentOf_5 : decode cX1_contentOf 5 = .ok (.istore_n 2, 1) := by decide +kernel
theorem dX1_contentOf_6 : decode cX1_contentOf 6 = .ok (.iload_n 2, 1) := by decide +kernel
theorem dX1_contentOf_7 : decode cX1_contentOf 7 = .ok (.iconst (-1), 1) := by decide +kernel
theorem dX1_contentOf_8 : decode cX1_contentOf 8 = .ok (.if_icmp .ne 7, 3) := by decide +kernel
theorem dX1_contentOf_11 : decode cX1_contentOf 11 = .ok (.iconst 0, 1) := by decide +kernel
theorem dX1_contentOf_12 : decode cX1_contentOf 12 = .ok (.goto 9, 3) := by decide +kernel
theorem dX1_contentOf_15 : decode cX1_contentOf 15 = .ok (.aload_n 0, 1) := by decide +kernel
theorem dX1_contentOf_16 : decode cX1_contentOf 16 = .ok (.iload_n 1, 1) := by decide +kernel
theorem dX1_contentOf_17 : decode cX1_contentOf 17 = .ok (.iload_n 2, 1) := by decide +kernel
theorem dX1_contentOf_18 : decode cX1_contentOf 18 = .ok (.invokevirtual 102, 3) := by decide +kernel
theorem dX1_contentOf_21 : decode cX1_contentOf 21 = .ok (.ireturn, 1) := by decide +kernel
def x_X1_contentOf (M : gMem) (c : Nat) (p1 : Int32) : Option Int32 := Option.bind (x_X1_serverOf M c p1) (fun v1 => (if v1 = (-1) then some 0 else Option.bind (x_X1_contentBy M c p1 v1) (fun v4 => some v4)))
set_option maxRecDepth 100000 in
set_option maxHeartbeats 4000000 in
theorem c_X1_contentOf {l : Launch} {Y : gY} {M : gMem} {c : Nat} {p1 : Int32} {r : Int32} (hc : c < 4) (hx : x_X1_contentOf M c p1 = some r) : Met l yX1_contentOf (gws yX1_contentOf cX1_contentOf 3 (some .int)) { frames := 5, cells := 0, slots := 0, locals := 110 } (va_Pc [.ref (gad Y c 0), .int p1] (gS0 Y M)) (gQi Y (r, M)) 0 0 (gA Y) := by
  refine gmet (lv := [(0, .ref (gad Y c 0)), (1, .int p1)]) "GuestStaff$House" (by decide) rfl (Nat.le_of_ble_eq_true rfl) rfl (fun X hC hF => ?_)
  unfold x_X1_contentOf at hx
  refine q_aload_n hC 0 dX1_contentOf_0 rfl rfl ?_
  refine q_iload_n hC 1 dX1_contentOf_1 rfl rfl ?_
  obtain ⟨v1, q2, hx⟩ := gb_e hx
  refine q_kip (q_rV (As := [.int p1]) (rest := []) hC mm_X1_serverOf wM_X1_92 (c_X1_serverOf hc q2) ⟨rfl, rfl, Nat.le_of_ble_eq_true rfl, Nat.le_of_ble_eq_true rfl⟩ (gV_h hc (by decide)) rfl rfl rfl rfl (Nat.le_of_ble_eq_true rfl) dX1_contentOf_2) ?_
  refine q_istore_n hC [(2, .int v1), (0, .ref (gad Y c 0)), (1, .int p1)] dX1_contentOf_5 rfl (by decide) rfl ?_
  refine q_iload_n hC 0 dX1_contentOf_6 rfl rfl ?_
  refine q_iconst hC (-1) dX1_contentOf_7 rfl ?_
  refine q_ic_ne hC 15 dX1_contentOf_8 rfl (fun h3 => ?_) (fun h3 => ?_)
  · have hx := gi_n h3 hx
    refine q_aload_n hC 1 dX1_contentOf_15 rfl rfl ?_
    refine q_iload_n hC 2 dX1_contentOf_16 rfl rfl ?_
    refine q_iload_n hC 0 dX1_contentOf_17 rfl rfl ?_
    obtain ⟨v4, q5, hx⟩ := gb_e hx
    refine q_kip (q_rV (As := [.int p1, .int v1]) (rest := []) hC mm_X1_contentBy wM_X1_102 (c_X1_contentBy hc q5) ⟨rfl, rfl, Nat.le_of_ble_eq_true rfl, Nat.le_of_ble_eq_true rfl⟩ (gV_h hc (by decide)) rfl rfl rfl rfl (Nat.le_of_ble_eq_true rfl) dX1_contentOf_18) ?_
    exact q_iret hC hF dX1_contentOf_21 (congrArg (fun z => (z, M)) (Option.some.inj hx))
  · have hx := gi_p h3 hx
    refine q_iconst hC 0 dX1_contentOf_11 rfl ?_
    refine q_goto hC 21 dX1_contentOf_12 rfl ?_
    exact q_iret hC hF dX1_contentOf_21 (congrArg (fun z => (z, M)) (Option.some.inj hx))

theorem dX1_workFor_0 : decode cX1_workFor 0 = .ok (.aload_n 0, 1) := by decide +kernel
theorem dX1_workFor_1 : decode cX1_workFor 1 = .ok (.getfield 64, 3) := by decide +kernel
theorem dX1_workFor_4 : decode cX1_workFor 4 = .ok (.aload_n 0, 1) := by decide +kernel
theorem dX1_workFor_5 : decode cX1_workFor 5 = .ok (.getfield 9, 3) := by decide +kernel
theorem dX1_workFor_8 : decode cX1_workFor 8 = .ok (.iload_n 1, 1) := by decide +kernel
theorem dX1_workFor_9 : decode cX1_workFor 9 = .ok (.iaload, 1) := by decide +kernel
theorem dX1_workFor_10 : decode cX1_workFor 10 = .ok (.aaload, 1) := by decide +kernel
theorem dX1_workFor_11 : decode cX1_workFor 11 = .ok (.iload_n 2, 1) := by decide +kernel
theorem dX1_workFor_12 : decode cX1_workFor 12 = .ok (.invokevirtual 103, 3) := by decide +kernel
theorem dX1_workFor_15 : decode cX1_workFor 15 = .ok (.ireturn, 1) := by decide +kernel
def x_X1_workFor (M : gMem) (c : Nat) (p1 : Int32) (p2 : Int32) : Option Int32 := gd (gin p1 7) (gd (gin (M.1 c 1 (p1).toNatClampNeg) 6) (Option.bind (x_K_workOn (M.1 c 1 (p1).toNatClampNeg).toNatClampNeg p2) (fun v3 => some v3)))
set_option maxRecDepth 100000 in
set_option maxHeartbeats 4000000 in
theorem c_X1_workFor {l : Launch} {Y : gY} {M : gMem} {c : Nat} {p1 : Int32} {p2 : Int32} {r : Int32} (hc : c < 4) (hx : x_X1_workFor M c p1 p2 = some r) : Met l yX1_workFor (gws yX1_workFor cX1_workFor 3 (some .int)) { frames := 4, cells := 0, slots := 0, locals := 87 } (va_Pc [.ref (gad Y c 0), .int p1, .int p2] (gS0 Y M)) (gQi Y (r, M)) 0 0 (gA Y) := by
  refine gmet (lv := [(0, .ref (gad Y c 0)), (1, .int p1), (2, .int p2)]) "GuestStaff$House" (by decide) rfl (Nat.le_of_ble_eq_true rfl) rfl (fun X hC hF => ?_)
  unfold x_X1_workFor at hx
  refine q_aload_n hC 0 dX1_workFor_0 rfl rfl ?_
  refine gf_X1_64 hC hc dX1_workFor_1 ?_
  refine q_aload_n hC 0 dX1_workFor_4 rfl rfl ?_
  refine gf_X1_9 hC hc dX1_workFor_5 ?_
  refine q_iload_n hC 1 dX1_workFor_8 rfl rfl ?_
  have g1 := (gd_e hx).1
  have hx := (gd_e hx).2
  refine q_iald hC 6 (gV_h hc (by decide)) rfl g1 dX1_workFor_9 ?_
  have g2 := (gd_e hx).1
  have hx := (gd_e hx).2
  refine q_aald (t0 := 2) hC (gV_t (by decide) (by decide)) rfl rfl rfl g2 (grow_i g2) dX1_workFor_10 ?_
  refine q_iload_n hC 2 dX1_workFor_11 rfl rfl ?_
  obtain ⟨v3, q4, hx⟩ := gb_e hx
  refine q_kip ((q_rKw (As := [.int p2]) (rest := []) hC wM_X1_103 (gin_lt g2) q4 (Nat.le_of_ble_eq_true rfl) (Nat.le_of_ble_eq_true rfl) rfl rfl (Nat.le_of_ble_eq_true rfl) dX1_workFor_12).choose_spec) ?_
  exact q_iret hC hF dX1_workFor_15 (congrArg (fun z => (z, M)) (Option.some.inj hx))

theorem dX1_passHour_0 : decode cX1_passHour 0 = .ok (.iconst 0, 1) := by decide +kernel
theorem dX1_passHour_1 : decode cX1_passHour 1 = .ok (.istore_n 1, 1) := by decide +kernel
theorem dX1_passHour_2 : decode cX1_passHour 2 = .ok (.iload_n 1, 1) := by decide +kernel
theorem dX1_passHour_3 : decode cX1_passHour 3 = .ok (.aload_n 0, 1) := by decide +kernel
theorem dX1_passHour_4 : decode cX1_passHour 4 = .ok (.getfield 55, 3) := by decide +kernel
theorem dX1_passHour_7 : decode cX1_passHour 7 = .ok (.if_icmp .ge 23, 3) := by decide +kernel
theorem dX1_passHour_10 : decode cX1_passHour 10 = .ok (.aload_n 0, 1) := by decide +kernel
theorem dX1_passHour_11 : decode cX1_passHour 11 = .ok (.dup, 1) := by decide +kernel
theorem dX1_passHour_12 : decode cX1_passHour 12 = .ok (.getfield 61, 3) := by decide +kernel
theorem dX1_passHour_15 : decode cX1_passHour 15 = .ok (.aload_n 0, 1) := by decide +kernel
theorem dX1_passHour_16 : decode cX1_passHour 16 = .ok (.iload_n 1, 1) := by decide +kernel
theorem dX1_passHour_17 : decode cX1_passHour 17 = .ok (.invokevirtual 106, 3) := by decide +kernel
theorem dX1_passHour_20 : decode cX1_passHour 20 = .ok (.iadd, 1) := by decide +kernel
theorem dX1_passHour_21 : decode cX1_passHour 21 = .ok (.putfield 61, 3) := by decide +kernel
theorem dX1_passHour_24 : decode cX1_passHour 24 = .ok (.iinc 1 1, 3) := by decide +kernel
theorem dX1_passHour_27 : decode cX1_passHour 27 = .ok (.goto (-25), 3) := by decide +kernel
theorem dX1_passHour_30 : decode cX1_passHour 30 = .ok (.iconst 0, 1) := by decide +kernel
theorem dX1_passHour_31 : decode cX1_passHour 31 = .ok (.istore_n 1, 1) := by decide +kernel
theorem dX1_passHour_32 : decode cX1_passHour 32 = .ok (.iload_n 1, 1) := by decide +kernel
theorem dX1_passHour_33 : decode cX1_passHour 33 = .ok (.aload_n 0, 1) := by decide +kernel
theorem dX1_passHour_34 : decode cX1_passHour 34 = .ok (.getfield 55, 3) := by decide +kernel
theorem dX1_passHour_37 : decode cX1_passHour 37 = .ok (.if_icmp .ge 49, 3) := by decide +kernel
theorem dX1_passHour_40 : decode cX1_passHour 40 = .ok (.aload_n 0, 1) := by decide +kernel
theorem dX1_passHour_41 : decode cX1_passHour 41 = .ok (.iload_n 1, 1) := by decide +kernel
theorem dX1_passHour_42 : decode cX1_passHour 42 = .ok (.invokevirtual 92, 3) := by decide +kernel
theorem dX1_passHour_45 : decode cX1_passHour 45 = .ok (.istore_n 2, 1) := by decide +kernel
theorem dX1_passHour_46 : decode cX1_passHour 46 = .ok (.iload_n 2, 1) := by decide +kernel
theorem dX1_passHour_47 : decode cX1_passHour 47 = .ok (.iconst (-1), 1) := by decide +kernel
theorem dX1_passHour_48 : decode cX1_passHour 48 = .ok (.if_icmp .eq 32, 3) := by decide +kernel
theorem dX1_passHour_51 : decode cX1_passHour 51 = .ok (.aload_n 0, 1) := by decide +kernel
theorem dX1_passHour_52 : decode cX1_passHour 52 = .ok (.getfield 24, 3) := by decide +kernel
theorem dX1_passHour_55 : decode cX1_passHour 55 = .ok (.iload_n 1, 1) := by decide +kernel
theorem dX1_passHour_56 : decode cX1_passHour 56 = .ok (.iaload, 1) := by decide +kernel
theorem dX1_passHour_57 : decode cX1_passHour 57 = .ok (.ifCond .le 23, 3) := by decide +kernel
theorem dX1_passHour_60 : decode cX1_passHour 60 = .ok (.aload_n 0, 1) := by decide +kernel
theorem dX1_passHour_61 : decode cX1_passHour 61 = .ok (.getfield 24, 3) := by decide +kernel
theorem dX1_passHour_64 : decode cX1_passHour 64 = .ok (.iload_n 1, 1) := by decide +kernel
theorem dX1_passHour_65 : decode cX1_passHour 65 = .ok (.dup2, 1) := by decide +kernel
theorem dX1_passHour_66 : decode cX1_passHour 66 = .ok (.iaload, 1) := by decide +kernel
theorem dX1_passHour_67 : decode cX1_passHour 67 = .ok (.iconst 1, 1) := by decide +kernel
theorem dX1_passHour_68 : decode cX1_passHour 68 = .ok (.isub, 1) := by decide +kernel
theorem dX1_passHour_69 : decode cX1_passHour 69 = .ok (.iastore, 1) := by decide +kernel
theorem dX1_passHour_70 : decode cX1_passHour 70 = .ok (.aload_n 0, 1) := by decide +kernel
theorem dX1_passHour_71 : decode cX1_passHour 71 = .ok (.getfield 24, 3) := by decide +kernel
theorem dX1_passHour_74 : decode cX1_passHour 74 = .ok (.iload_n 2, 1) := by decide +kernel
theorem dX1_passHour_75 : decode cX1_passHour 75 = .ok (.dup2, 1) := by decide +kernel
theorem dX1_passHour_76 : decode cX1_passHour 76 = .ok (.iaload, 1) := by decide +kernel
theorem dX1_passHour_77 : decode cX1_passHour 77 = .ok (.iconst 1, 1) := by decide +kernel
theorem dX1_passHour_78 : decode cX1_passHour 78 = .ok (.iadd, 1) := by decide +kernel
theorem dX1_passHour_79 : decode cX1_passHour 79 = .ok (.iastore, 1) := by decide +kernel
theorem dX1_passHour_80 : decode cX1_passHour 80 = .ok (.iinc 1 1, 3) := by decide +kernel
theorem dX1_passHour_83 : decode cX1_passHour 83 = .ok (.goto (-51), 3) := by decide +kernel
theorem dX1_passHour_86 : decode cX1_passHour 86 = .ok (.aload_n 0, 1) := by decide +kernel
theorem dX1_passHour_87 : decode cX1_passHour 87 = .ok (.dup, 1) := by decide +kernel
theorem dX1_passHour_88 : decode cX1_passHour 88 = .ok (.getfield 58, 3) := by decide +kernel
theorem dX1_passHour_91 : decode cX1_passHour 91 = .ok (.iconst 1, 1) := by decide +kernel
theorem dX1_passHour_92 : decode cX1_passHour 92 = .ok (.iadd, 1) := by decide +kernel
theorem dX1_passHour_93 : decode cX1_passHour 93 = .ok (.putfield 58, 3) := by decide +kernel
theorem dX1_passHour_96 : decode cX1_passHour 96 = .ok (.return_, 1) := by decide +kernel
def s_X1_passHour_2 (c : Nat) (b1 : Int32) (N : gMem) : Option ((Int32 × gMem) ⊕ (Int32 × gMem)) := (if (N.1 c 0 13) ≤ b1 then some (.inr (b1, N)) else Option.bind (x_X1_contentOf N c b1) (fun v2 => some (.inl (b1 + 1, gwr N c 0 15 ((N.1 c 0 15) + v2)))))
def j_X1_passHour_32_80 (c : Nat) (N : gMem) (b1 : Int32) : Option ((Int32 × gMem) ⊕ (Int32 × gMem)) := some (.inl (b1 + 1, N))
def s_X1_passHour_32 (c : Nat) (b1 : Int32) (N : gMem) : Option ((Int32 × gMem) ⊕ (Int32 × gMem)) := (if (N.1 c 0 13) ≤ b1 then some (.inr (b1, N)) else Option.bind (x_X1_serverOf N c b1) (fun v6 => (if v6 = (-1) then j_X1_passHour_32_80 c N b1 else gd (gin b1 7) ((if (N.1 c 5 (b1).toNatClampNeg) ≤ 0 then j_X1_passHour_32_80 c N b1 else gd (gin b1 7) (gd (gin b1 7) (gd (gin v6 7) (gd (gin v6 7) (j_X1_passHour_32_80 c (gwr (gwr N c 5 (b1).toNatClampNeg ((N.1 c 5 (b1).toNatClampNeg) - 1)) c 5 (v6).toNatClampNeg (((gwr N c 5 (b1).toNatClampNeg ((N.1 c 5 (b1).toNatClampNeg) - 1)).1 c 5 (v6).toNatClampNeg) + 1)) b1)))))))))
def x_X1_passHour (M : gMem) (c : Nat) : Option gMem := Option.bind (itr FU (fun s => s_X1_passHour_2 c s.1 s.2) (0, M)) (fun e4 => Option.bind (itr FU (fun s => s_X1_passHour_32 c s.1 s.2) (0, e4.2)) (fun e15 => some (gwr e15.2 c 0 14 ((e15.2.1 c 0 14) + 1))))
set_option maxRecDepth 100000 in
set_option maxHeartbeats 4000000 in
theorem w_X1_passHour_2 {X : gX} {Y : gY} {c : Nat} {r : gMem} (hC : gC X Y cX1_passHour "GuestStaff$House" 3 6 132) (hF : gF X Y none (gQv Y r)) (hc : c < 4) {e : (Int32 × gMem)} (kE : ∀ s : (Int32 × gMem), e = s → gWW X Y 3 30 [(0, .ref (gad Y c 0))] [] s.2) : ∀ (F : Nat) (s : (Int32 × gMem)), itr F (fun s => s_X1_passHour_2 c s.1 s.2) s = some e → gWW X Y 3 2 [(0, .ref (gad Y c 0)), (1, .int s.1)] [] s.2 := by
  intro F s
  refine itr_w (P := fun s => gWW X Y 3 2 [(0, .ref (gad Y c 0)), (1, .int s.1)] [] s.2) (fun s o hx kI kx => ?_) F s
  obtain ⟨b1, N⟩ := s
  have hx : s_X1_passHour_2 c b1 N = some o := hx
  have kE : ∀ s : (Int32 × gMem), o = .inr s → gWW X Y 3 30 [(0, .ref (gad Y c 0))] [] s.2 := fun s q => kE s (kx _ q).symm
  unfold s_X1_passHour_2 at hx
  refine q_iload_n hC 1 dX1_passHour_2 rfl rfl ?_
  refine q_aload_n hC 0 dX1_passHour_3 rfl rfl ?_
  refine gf_X1_55 hC hc dX1_passHour_4 ?_
  refine q_ic_ge hC 30 dX1_passHour_7 rfl (fun h1 => ?_) (fun h1 => ?_)
  · have hx := gi_p h1 hx
    exact q_sub [0] rfl (kE (b1, N) (Option.some.inj hx).symm)
  · have hx := gi_n h1 hx
    refine q_aload_n hC 0 dX1_passHour_10 rfl rfl ?_
    refine q_dup hC dX1_passHour_11 rfl ?_
    refine gf_X1_61 hC hc dX1_passHour_12 ?_
    refine q_aload_n hC 0 dX1_passHour_15 rfl rfl ?_
    refine q_iload_n hC 1 dX1_passHour_16 rfl rfl ?_
    obtain ⟨v2, q3, hx⟩ := gb_e hx
    refine q_kip (q_rV (As := [.int b1]) (rest := [.int (N.1 c 0 15), .ref (gad Y c 0)]) hC mm_X1_contentOf wM_X1_106 (c_X1_contentOf hc q3) ⟨rfl, rfl, Nat.le_of_ble_eq_true rfl, Nat.le_of_ble_eq_true rfl⟩ (gV_h hc (by decide)) rfl rfl rfl rfl (Nat.le_of_ble_eq_true rfl) dX1_passHour_17) ?_
    refine q_iadd hC dX1_passHour_20 ?_
    refine pf_X1_61 hC hc dX1_passHour_21 ?_
    refine q_iinc hC 1 1 [(1, .int (b1 + 1)), (0, .ref (gad Y c 0))] dX1_passHour_24 rfl rfl (by decide) rfl ?_
    refine q_goto hC 2 dX1_passHour_27 rfl ?_
    exact q_sub [1, 0] rfl (kI (b1 + 1, gwr N c 0 15 ((N.1 c 0 15) + v2)) (Option.some.inj hx).symm)
set_option maxRecDepth 100000 in
set_option maxHeartbeats 4000000 in
theorem w_X1_passHour_32 {X : gX} {Y : gY} {c : Nat} {r : gMem} (hC : gC X Y cX1_passHour "GuestStaff$House" 3 6 132) (hF : gF X Y none (gQv Y r)) (hc : c < 4) {e : (Int32 × gMem)} (kE : ∀ s : (Int32 × gMem), e = s → gWW X Y 3 86 [(0, .ref (gad Y c 0))] [] s.2) : ∀ (F : Nat) (s : (Int32 × gMem)), itr F (fun s => s_X1_passHour_32 c s.1 s.2) s = some e → gWW X Y 3 32 [(0, .ref (gad Y c 0)), (1, .int s.1)] [] s.2 := by
  intro F s
  refine itr_w (P := fun s => gWW X Y 3 32 [(0, .ref (gad Y c 0)), (1, .int s.1)] [] s.2) (fun s o hx kI kx => ?_) F s
  obtain ⟨b1, N⟩ := s
  have hx : s_X1_passHour_32 c b1 N = some o := hx
  have kE : ∀ s : (Int32 × gMem), o = .inr s → gWW X Y 3 86 [(0, .ref (gad Y c 0))] [] s.2 := fun s q => kE s (kx _ q).symm
  have J80 : ∀ (N : gMem) (b1 : Int32) , j_X1_passHour_32_80 c N b1 = some o → gWW X Y 3 80 [(0, .ref (gad Y c 0)), (1, .int b1)] [] N := by
    intro N b1 hx
    unfold j_X1_passHour_32_80 at hx
    refine q_iinc hC 1 1 [(1, .int (b1 + 1)), (0, .ref (gad Y c 0))] dX1_passHour_80 rfl rfl (by decide) rfl ?_
    refine q_goto hC 32 dX1_passHour_83 rfl ?_
    exact q_sub [1, 0] rfl (kI (b1 + 1, N) (Option.some.inj hx).symm)
  unfold s_X1_passHour_32 at hx
  refine q_iload_n hC 1 dX1_passHour_32 rfl rfl ?_
  refine q_aload_n hC 0 dX1_passHour_33 rfl rfl ?_
  refine gf_X1_55 hC hc dX1_passHour_34 ?_
  refine q_ic_ge hC 86 dX1_passHour_37 rfl (fun h5 => ?_) (fun h5 => ?_)
  · have hx := gi_p h5 hx
    exact q_sub [0] rfl (kE (b1, N) (Option.some.inj hx).symm)
  · have hx := gi_n h5 hx
    refine q_aload_n hC 0 dX1_passHour_40 rfl rfl ?_
    refine q_iload_n hC 1 dX1_passHour_41 rfl rfl ?_
    obtain ⟨v6, q7, hx⟩ := gb_e hx
    refine q_kip (q_rV (As := [.int b1]) (rest := []) hC mm_X1_serverOf wM_X1_92 (c_X1_serverOf hc q7) ⟨rfl, rfl, Nat.le_of_ble_eq_true rfl, Nat.le_of_ble_eq_true rfl⟩ (gV_h hc (by decide)) rfl rfl rfl rfl (Nat.le_of_ble_eq_true rfl) dX1_passHour_42) ?_
    refine q_istore_n hC [(2, .int v6), (0, .ref (gad Y c 0)), (1, .int b1)] dX1_passHour_45 rfl (by decide) rfl ?_
    refine q_iload_n hC 0 dX1_passHour_46 rfl rfl ?_
    refine q_iconst hC (-1) dX1_passHour_47 rfl ?_
    refine q_ic_eq hC 80 dX1_passHour_48 rfl (fun h8 => ?_) (fun h8 => ?_)
    · have hx := gi_p h8 hx
      exact q_sub [1, 2] rfl (J80 N b1 hx)
    · have hx := gi_n h8 hx
      refine q_aload_n hC 1 dX1_passHour_51 rfl rfl ?_
      refine gf_X1_24 hC hc dX1_passHour_52 ?_
      refine q_iload_n hC 2 dX1_passHour_55 rfl rfl ?_
      have g9 := (gd_e hx).1
      have hx := (gd_e hx).2
      refine q_iald hC 6 (gV_h hc (by decide)) rfl g9 dX1_passHour_56 ?_
      refine q_if_le hC 80 dX1_passHour_57 rfl (fun h10 => ?_) (fun h10 => ?_)
      · have hx := gi_p h10 hx
        exact q_sub [1, 2] rfl (J80 N b1 hx)
      · have hx := gi_n h10 hx
        refine q_aload_n hC 1 dX1_passHour_60 rfl rfl ?_
        refine gf_X1_24 hC hc dX1_passHour_61 ?_
        refine q_iload_n hC 2 dX1_passHour_64 rfl rfl ?_
        refine q_dup2 hC dX1_passHour_65 rfl rfl ?_
        have g11 := (gd_e hx).1
        have hx := (gd_e hx).2
        refine q_iald hC 6 (gV_h hc (by decide)) rfl g11 dX1_passHour_66 ?_
        refine q_iconst hC 1 dX1_passHour_67 rfl ?_
        refine q_isub hC dX1_passHour_68 ?_
        have g12 := (gd_e hx).1
        have hx := (gd_e hx).2
        refine q_iast hC 6 (gV_h hc (by decide)) rfl g12 dX1_passHour_69 ?_
        refine q_aload_n hC 1 dX1_passHour_70 rfl rfl ?_
        refine gf_X1_24 hC hc dX1_passHour_71 ?_
        refine q_iload_n hC 0 dX1_passHour_74 rfl rfl ?_
        refine q_dup2 hC dX1_passHour_75 rfl rfl ?_
        have g13 := (gd_e hx).1
        have hx := (gd_e hx).2
        refine q_iald hC 6 (gV_h hc (by decide)) rfl g13 dX1_passHour_76 ?_
        refine q_iconst hC 1 dX1_passHour_77 rfl ?_
        refine q_iadd hC dX1_passHour_78 ?_
        have g14 := (gd_e hx).1
        have hx := (gd_e hx).2
        refine q_iast hC 6 (gV_h hc (by decide)) rfl g14 dX1_passHour_79 ?_
        exact q_sub [1, 2] rfl (J80 (gwr (gwr N c 5 (b1).toNatClampNeg ((N.1 c 5 (b1).toNatClampNeg) - 1)) c 5 (v6).toNatClampNeg (((gwr N c 5 (b1).toNatClampNeg ((N.1 c 5 (b1).toNatClampNeg) - 1)).1 c 5 (v6).toNatClampNeg) + 1)) b1 hx)
set_option maxRecDepth 100000 in
set_option maxHeartbeats 4000000 in
theorem c_X1_passHour {l : Launch} {Y : gY} {M : gMem} {c : Nat} {r : gMem} (hc : c < 4) (hx : x_X1_passHour M c = some r) : Met l yX1_passHour (gws yX1_passHour cX1_passHour 3 none) { frames := 6, cells := 0, slots := 0, locals := 132 } (va_Pc [.ref (gad Y c 0)] (gS0 Y M)) (gQv Y r) 0 0 (gA Y) := by
  refine gmet (lv := [(0, .ref (gad Y c 0))]) "GuestStaff$House" (by decide) rfl (Nat.le_of_ble_eq_true rfl) rfl (fun X hC hF => ?_)
  unfold x_X1_passHour at hx
  refine q_iconst hC 0 dX1_passHour_0 rfl ?_
  refine q_istore_n hC [(1, .int 0), (0, .ref (gad Y c 0))] dX1_passHour_1 rfl (by decide) rfl ?_
  obtain ⟨e4, qe4, hx⟩ := gb_e hx
  refine q_sub [1, 0] rfl (w_X1_passHour_2 hC hF hc (e := e4) (fun s q => ?_) _ _ qe4)
  · subst q
    refine q_iconst hC 0 dX1_passHour_30 rfl ?_
    refine q_istore_n hC [(1, .int 0), (0, .ref (gad Y c 0))] dX1_passHour_31 rfl (by decide) rfl ?_
    obtain ⟨e15, qe15, hx⟩ := gb_e hx
    refine q_sub [1, 0] rfl (w_X1_passHour_32 hC hF hc (e := e15) (fun s q => ?_) _ _ qe15)
    · subst q
      refine q_aload_n hC 0 dX1_passHour_86 rfl rfl ?_
      refine q_dup hC dX1_passHour_87 rfl ?_
      refine gf_X1_58 hC hc dX1_passHour_88 ?_
      refine q_iconst hC 1 dX1_passHour_91 rfl ?_
      refine q_iadd hC dX1_passHour_92 ?_
      refine pf_X1_58 hC hc dX1_passHour_93 ?_
      exact q_vret hC hF dX1_passHour_96 (Option.some.inj hx)

theorem dX1_remember_0 : decode cX1_remember 0 = .ok (.aload_n 0, 1) := by decide +kernel
theorem dX1_remember_1 : decode cX1_remember 1 = .ok (.getfield 21, 3) := by decide +kernel
theorem dX1_remember_4 : decode cX1_remember 4 = .ok (.aload_n 0, 1) := by decide +kernel
theorem dX1_remember_5 : decode cX1_remember 5 = .ok (.getfield 36, 3) := by decide +kernel
theorem dX1_remember_8 : decode cX1_remember 8 = .ok (.aload_n 0, 1) := by decide +kernel
theorem dX1_remember_9 : decode cX1_remember 9 = .ok (.getfield 48, 3) := by decide +kernel
theorem dX1_remember_12 : decode cX1_remember 12 = .ok (.aaload, 1) := by decide +kernel
theorem dX1_remember_13 : decode cX1_remember 13 = .ok (.invokestatic 71, 3) := by decide +kernel
theorem dX1_remember_16 : decode cX1_remember 16 = .ok (.aload_n 0, 1) := by decide +kernel
theorem dX1_remember_17 : decode cX1_remember 17 = .ok (.getfield 24, 3) := by decide +kernel
theorem dX1_remember_20 : decode cX1_remember 20 = .ok (.aload_n 0, 1) := by decide +kernel
theorem dX1_remember_21 : decode cX1_remember 21 = .ok (.getfield 39, 3) := by decide +kernel
theorem dX1_remember_24 : decode cX1_remember 24 = .ok (.aload_n 0, 1) := by decide +kernel
theorem dX1_remember_25 : decode cX1_remember 25 = .ok (.getfield 48, 3) := by decide +kernel
theorem dX1_remember_28 : decode cX1_remember 28 = .ok (.aaload, 1) := by decide +kernel
theorem dX1_remember_29 : decode cX1_remember 29 = .ok (.invokestatic 71, 3) := by decide +kernel
theorem dX1_remember_32 : decode cX1_remember 32 = .ok (.aload_n 0, 1) := by decide +kernel
theorem dX1_remember_33 : decode cX1_remember 33 = .ok (.getfield 42, 3) := by decide +kernel
theorem dX1_remember_36 : decode cX1_remember 36 = .ok (.aload_n 0, 1) := by decide +kernel
theorem dX1_remember_37 : decode cX1_remember 37 = .ok (.getfield 48, 3) := by decide +kernel
theorem dX1_remember_40 : decode cX1_remember 40 = .ok (.aload_n 0, 1) := by decide +kernel
theorem dX1_remember_41 : decode cX1_remember 41 = .ok (.getfield 61, 3) := by decide +kernel
theorem dX1_remember_44 : decode cX1_remember 44 = .ok (.iastore, 1) := by decide +kernel
theorem dX1_remember_45 : decode cX1_remember 45 = .ok (.aload_n 0, 1) := by decide +kernel
theorem dX1_remember_46 : decode cX1_remember 46 = .ok (.getfield 45, 3) := by decide +kernel
theorem dX1_remember_49 : decode cX1_remember 49 = .ok (.aload_n 0, 1) := by decide +kernel
theorem dX1_remember_50 : decode cX1_remember 50 = .ok (.getfield 48, 3) := by decide +kernel
theorem dX1_remember_53 : decode cX1_remember 53 = .ok (.aload_n 0, 1) := by decide +kernel
theorem dX1_remember_54 : decode cX1_remember 54 = .ok (.getfield 58, 3) := by decide +kernel
theorem dX1_remember_57 : decode cX1_remember 57 = .ok (.iastore, 1) := by decide +kernel
theorem dX1_remember_58 : decode cX1_remember 58 = .ok (.aload_n 0, 1) := by decide +kernel
theorem dX1_remember_59 : decode cX1_remember 59 = .ok (.aload_n 0, 1) := by decide +kernel
theorem dX1_remember_60 : decode cX1_remember 60 = .ok (.getfield 48, 3) := by decide +kernel
theorem dX1_remember_63 : decode cX1_remember 63 = .ok (.iconst 1, 1) := by decide +kernel
theorem dX1_remember_64 : decode cX1_remember 64 = .ok (.iadd, 1) := by decide +kernel
theorem dX1_remember_65 : decode cX1_remember 65 = .ok (.bipush 8, 2) := by decide +kernel
theorem dX1_remember_67 : decode cX1_remember 67 = .ok (.irem, 1) := by decide +kernel
theorem dX1_remember_68 : decode cX1_remember 68 = .ok (.putfield 48, 3) := by decide +kernel
theorem dX1_remember_71 : decode cX1_remember 71 = .ok (.aload_n 0, 1) := by decide +kernel
theorem dX1_remember_72 : decode cX1_remember 72 = .ok (.aload_n 0, 1) := by decide +kernel
theorem dX1_remember_73 : decode cX1_remember 73 = .ok (.getfield 52, 3) := by decide +kernel
theorem dX1_remember_76 : decode cX1_remember 76 = .ok (.iconst 1, 1) := by decide +kernel
theorem dX1_remember_77 : decode cX1_remember 77 = .ok (.iadd, 1) := by decide +kernel
theorem dX1_remember_78 : decode cX1_remember 78 = .ok (.bipush 8, 2) := by decide +kernel
theorem dX1_remember_80 : decode cX1_remember 80 = .ok (.invokestatic 109, 3) := by decide +kernel
theorem dX1_remember_83 : decode cX1_remember 83 = .ok (.putfield 52, 3) := by decide +kernel
theorem dX1_remember_86 : decode cX1_remember 86 = .ok (.return_, 1) := by decide +kernel
def x_X1_remember (M : gMem) (c : Nat) : Option gMem := gd (gin (M.1 c 0 11) 8) (Option.bind (x_X1_copyRow M c 4 c (15 + (M.1 c 0 11).toNatClampNeg)) (fun v2 => gd (gin (v2.1 c 0 11) 8) (Option.bind (x_X1_copyRow v2 c 5 c (24 + (v2.1 c 0 11).toNatClampNeg)) (fun v5 => gd (gin (v5.1 c 0 11) 8) (gd (gin ((gwr v5 c 32 (v5.1 c 0 11).toNatClampNeg (v5.1 c 0 15)).1 c 0 11) 8) (some (gwr (gwr (gwr (gwr v5 c 32 (v5.1 c 0 11).toNatClampNeg (v5.1 c 0 15)) c 33 ((gwr v5 c 32 (v5.1 c 0 11).toNatClampNeg (v5.1 c 0 15)).1 c 0 11).toNatClampNeg ((gwr v5 c 32 (v5.1 c 0 11).toNatClampNeg (v5.1 c 0 15)).1 c 0 14)) c 0 11 ((((gwr (gwr v5 c 32 (v5.1 c 0 11).toNatClampNeg (v5.1 c 0 15)) c 33 ((gwr v5 c 32 (v5.1 c 0 11).toNatClampNeg (v5.1 c 0 15)).1 c 0 11).toNatClampNeg ((gwr v5 c 32 (v5.1 c 0 11).toNatClampNeg (v5.1 c 0 15)).1 c 0 14)).1 c 0 11) + 1) - (((gwr (gwr v5 c 32 (v5.1 c 0 11).toNatClampNeg (v5.1 c 0 15)) c 33 ((gwr v5 c 32 (v5.1 c 0 11).toNatClampNeg (v5.1 c 0 15)).1 c 0 11).toNatClampNeg ((gwr v5 c 32 (v5.1 c 0 11).toNatClampNeg (v5.1 c 0 15)).1 c 0 14)).1 c 0 11) + 1) / 8 * 8)) c 0 12 (if 8 < (((gwr (gwr (gwr v5 c 32 (v5.1 c 0 11).toNatClampNeg (v5.1 c 0 15)) c 33 ((gwr v5 c 32 (v5.1 c 0 11).toNatClampNeg (v5.1 c 0 15)).1 c 0 11).toNatClampNeg ((gwr v5 c 32 (v5.1 c 0 11).toNatClampNeg (v5.1 c 0 15)).1 c 0 14)) c 0 11 ((((gwr (gwr v5 c 32 (v5.1 c 0 11).toNatClampNeg (v5.1 c 0 15)) c 33 ((gwr v5 c 32 (v5.1 c 0 11).toNatClampNeg (v5.1 c 0 15)).1 c 0 11).toNatClampNeg ((gwr v5 c 32 (v5.1 c 0 11).toNatClampNeg (v5.1 c 0 15)).1 c 0 14)).1 c 0 11) + 1) - (((gwr (gwr v5 c 32 (v5.1 c 0 11).toNatClampNeg (v5.1 c 0 15)) c 33 ((gwr v5 c 32 (v5.1 c 0 11).toNatClampNeg (v5.1 c 0 15)).1 c 0 11).toNatClampNeg ((gwr v5 c 32 (v5.1 c 0 11).toNatClampNeg (v5.1 c 0 15)).1 c 0 14)).1 c 0 11) + 1) / 8 * 8)).1 c 0 12) + 1) then 8 else (((gwr (gwr (gwr v5 c 32 (v5.1 c 0 11).toNatClampNeg (v5.1 c 0 15)) c 33 ((gwr v5 c 32 (v5.1 c 0 11).toNatClampNeg (v5.1 c 0 15)).1 c 0 11).toNatClampNeg ((gwr v5 c 32 (v5.1 c 0 11).toNatClampNeg (v5.1 c 0 15)).1 c 0 14)) c 0 11 ((((gwr (gwr v5 c 32 (v5.1 c 0 11).toNatClampNeg (v5.1 c 0 15)) c 33 ((gwr v5 c 32 (v5.1 c 0 11).toNatClampNeg (v5.1 c 0 15)).1 c 0 11).toNatClampNeg ((gwr v5 c 32 (v5.1 c 0 11).toNatClampNeg (v5.1 c 0 15)).1 c 0 14)).1 c 0 11) + 1) - (((gwr (gwr v5 c 32 (v5.1 c 0 11).toNatClampNeg (v5.1 c 0 15)) c 33 ((gwr v5 c 32 (v5.1 c 0 11).toNatClampNeg (v5.1 c 0 15)).1 c 0 11).toNatClampNeg ((gwr v5 c 32 (v5.1 c 0 11).toNatClampNeg (v5.1 c 0 15)).1 c 0 14)).1 c 0 11) + 1) / 8 * 8)).1 c 0 12) + 1)))))))))
set_option maxRecDepth 100000 in
set_option maxHeartbeats 4000000 in
theorem c_X1_remember {l : Launch} {Y : gY} {M : gMem} {c : Nat} {r : gMem} (hc : c < 4) (hx : x_X1_remember M c = some r) : Met l yX1_remember (gws yX1_remember cX1_remember 1 none) { frames := 2, cells := 0, slots := 0, locals := 61 } (va_Pc [.ref (gad Y c 0)] (gS0 Y M)) (gQv Y r) 0 0 (gA Y) := by
  refine gmet (lv := [(0, .ref (gad Y c 0))]) "GuestStaff$House" (by decide) rfl (Nat.le_of_ble_eq_true rfl) rfl (fun X hC hF => ?_)
  unfold x_X1_remember at hx
  refine q_aload_n hC 0 dX1_remember_0 rfl rfl ?_
  refine gf_X1_21 hC hc dX1_remember_1 ?_
  refine q_aload_n hC 0 dX1_remember_4 rfl rfl ?_
  refine gf_X1_36 hC hc dX1_remember_5 ?_
  refine q_aload_n hC 0 dX1_remember_8 rfl rfl ?_
  refine gf_X1_48 hC hc dX1_remember_9 ?_
  have g1 := (gd_e hx).1
  have hx := (gd_e hx).2
  refine q_aald (t0 := 4) hC (gV_h hc (by decide)) rfl rfl rfl g1 (grow_i g1) dX1_remember_12 ?_
  obtain ⟨v2, q3, hx⟩ := gb_e hx
  refine q_kv (q_rS (As := [.ref (gad Y c 4), .ref (gad Y c (15 + (M.1 c 0 11).toNatClampNeg))]) (rest := []) hC mm_X1_copyRow wM_X1_71 (c_X1_copyRow (gV_h hc (by decide)) rfl (gV_hr 8 hc g1 (by decide)) (gl_of (by decide) g1) q3) ⟨rfl, rfl, Nat.le_of_ble_eq_true rfl, Nat.le_of_ble_eq_true rfl⟩ rfl rfl (Nat.le_of_ble_eq_true rfl) dX1_remember_13) ?_
  refine q_aload_n hC 0 dX1_remember_16 rfl rfl ?_
  refine gf_X1_24 hC hc dX1_remember_17 ?_
  refine q_aload_n hC 0 dX1_remember_20 rfl rfl ?_
  refine gf_X1_39 hC hc dX1_remember_21 ?_
  refine q_aload_n hC 0 dX1_remember_24 rfl rfl ?_
  refine gf_X1_48 hC hc dX1_remember_25 ?_
  have g4 := (gd_e hx).1
  have hx := (gd_e hx).2
  refine q_aald (t0 := 4) hC (gV_h hc (by decide)) rfl rfl rfl g4 (grow_i g4) dX1_remember_28 ?_
  obtain ⟨v5, q6, hx⟩ := gb_e hx
  refine q_kv (q_rS (As := [.ref (gad Y c 5), .ref (gad Y c (24 + (v2.1 c 0 11).toNatClampNeg))]) (rest := []) hC mm_X1_copyRow wM_X1_71 (c_X1_copyRow (gV_h hc (by decide)) rfl (gV_hr 8 hc g4 (by decide)) (gl_of (by decide) g4) q6) ⟨rfl, rfl, Nat.le_of_ble_eq_true rfl, Nat.le_of_ble_eq_true rfl⟩ rfl rfl (Nat.le_of_ble_eq_true rfl) dX1_remember_29) ?_
  refine q_aload_n hC 0 dX1_remember_32 rfl rfl ?_
  refine gf_X1_42 hC hc dX1_remember_33 ?_
  refine q_aload_n hC 0 dX1_remember_36 rfl rfl ?_
  refine gf_X1_48 hC hc dX1_remember_37 ?_
  refine q_aload_n hC 0 dX1_remember_40 rfl rfl ?_
  refine gf_X1_61 hC hc dX1_remember_41 ?_
  have g7 := (gd_e hx).1
  have hx := (gd_e hx).2
  refine q_iast hC 7 (gV_h hc (by decide)) rfl g7 dX1_remember_44 ?_
  refine q_aload_n hC 0 dX1_remember_45 rfl rfl ?_
  refine gf_X1_45 hC hc dX1_remember_46 ?_
  refine q_aload_n hC 0 dX1_remember_49 rfl rfl ?_
  refine gf_X1_48 hC hc dX1_remember_50 ?_
  refine q_aload_n hC 0 dX1_remember_53 rfl rfl ?_
  refine gf_X1_58 hC hc dX1_remember_54 ?_
  have g8 := (gd_e hx).1
  have hx := (gd_e hx).2
  refine q_iast hC 7 (gV_h hc (by decide)) rfl g8 dX1_remember_57 ?_
  refine q_aload_n hC 0 dX1_remember_58 rfl rfl ?_
  refine q_aload_n hC 0 dX1_remember_59 rfl rfl ?_
  refine gf_X1_48 hC hc dX1_remember_60 ?_
  refine q_iconst hC 1 dX1_remember_63 rfl ?_
  refine q_iadd hC dX1_remember_64 ?_
  refine q_bipush hC 8 dX1_remember_65 rfl ?_
  refine q_irem hC dX1_remember_67 (by decide) ?_
  refine pf_X1_48 hC hc dX1_remember_68 ?_
  refine q_aload_n hC 0 dX1_remember_71 rfl rfl ?_
  refine q_aload_n hC 0 dX1_remember_72 rfl rfl ?_
  refine gf_X1_52 hC hc dX1_remember_73 ?_
  refine q_iconst hC 1 dX1_remember_76 rfl ?_
  refine q_iadd hC dX1_remember_77 ?_
  refine q_bipush hC 8 dX1_remember_78 rfl ?_
  refine q_min hC wM_X1_109 (by decide) (Nat.le_of_ble_eq_true rfl) dX1_remember_80 ?_
  refine pf_X1_52 hC hc dX1_remember_83 ?_
  exact q_vret hC hF dX1_remember_86 (Option.some.inj hx)

theorem dX1_recall_0 : decode cX1_recall 0 = .ok (.aload_n 0, 1) := by decide +kernel
theorem dX1_recall_1 : decode cX1_recall 1 = .ok (.aload_n 0, 1) := by decide +kernel
theorem dX1_recall_2 : decode cX1_recall 2 = .ok (.getfield 48, 3) := by decide +kernel
theorem dX1_recall_5 : decode cX1_recall 5 = .ok (.bipush 8, 2) := by decide +kernel
theorem dX1_recall_7 : decode cX1_recall 7 = .ok (.iadd, 1) := by decide +kernel
theorem dX1_recall_8 : decode cX1_recall 8 = .ok (.iconst 1, 1) := by decide +kernel
theorem dX1_recall_9 : decode cX1_recall 9 = .ok (.isub, 1) := by decide +kernel
theorem dX1_recall_10 : decode cX1_recall 10 = .ok (.bipush 8, 2) := by decide +kernel
theorem dX1_recall_12 : decode cX1_recall 12 = .ok (.irem, 1) := by decide +kernel
theorem dX1_recall_13 : decode cX1_recall 13 = .ok (.putfield 48, 3) := by decide +kernel
theorem dX1_recall_16 : decode cX1_recall 16 = .ok (.aload_n 0, 1) := by decide +kernel
theorem dX1_recall_17 : decode cX1_recall 17 = .ok (.dup, 1) := by decide +kernel
theorem dX1_recall_18 : decode cX1_recall 18 = .ok (.getfield 52, 3) := by decide +kernel
theorem dX1_recall_21 : decode cX1_recall 21 = .ok (.iconst 1, 1) := by decide +kernel
theorem dX1_recall_22 : decode cX1_recall 22 = .ok (.isub, 1) := by decide +kernel
theorem dX1_recall_23 : decode cX1_recall 23 = .ok (.putfield 52, 3) := by decide +kernel
theorem dX1_recall_26 : decode cX1_recall 26 = .ok (.aload_n 0, 1) := by decide +kernel
theorem dX1_recall_27 : decode cX1_recall 27 = .ok (.getfield 36, 3) := by decide +kernel
theorem dX1_recall_30 : decode cX1_recall 30 = .ok (.aload_n 0, 1) := by decide +kernel
theorem dX1_recall_31 : decode cX1_recall 31 = .ok (.getfield 48, 3) := by decide +kernel
theorem dX1_recall_34 : decode cX1_recall 34 = .ok (.aaload, 1) := by decide +kernel
theorem dX1_recall_35 : decode cX1_recall 35 = .ok (.aload_n 0, 1) := by decide +kernel
theorem dX1_recall_36 : decode cX1_recall 36 = .ok (.getfield 21, 3) := by decide +kernel
theorem dX1_recall_39 : decode cX1_recall 39 = .ok (.invokestatic 71, 3) := by decide +kernel
theorem dX1_recall_42 : decode cX1_recall 42 = .ok (.aload_n 0, 1) := by decide +kernel
theorem dX1_recall_43 : decode cX1_recall 43 = .ok (.getfield 39, 3) := by decide +kernel
theorem dX1_recall_46 : decode cX1_recall 46 = .ok (.aload_n 0, 1) := by decide +kernel
theorem dX1_recall_47 : decode cX1_recall 47 = .ok (.getfield 48, 3) := by decide +kernel
theorem dX1_recall_50 : decode cX1_recall 50 = .ok (.aaload, 1) := by decide +kernel
theorem dX1_recall_51 : decode cX1_recall 51 = .ok (.aload_n 0, 1) := by decide +kernel
theorem dX1_recall_52 : decode cX1_recall 52 = .ok (.getfield 24, 3) := by decide +kernel
theorem dX1_recall_55 : decode cX1_recall 55 = .ok (.invokestatic 71, 3) := by decide +kernel
theorem dX1_recall_58 : decode cX1_recall 58 = .ok (.aload_n 0, 1) := by decide +kernel
theorem dX1_recall_59 : decode cX1_recall 59 = .ok (.aload_n 0, 1) := by decide +kernel
theorem dX1_recall_60 : decode cX1_recall 60 = .ok (.getfield 42, 3) := by decide +kernel
theorem dX1_recall_63 : decode cX1_recall 63 = .ok (.aload_n 0, 1) := by decide +kernel
theorem dX1_recall_64 : decode cX1_recall 64 = .ok (.getfield 48, 3) := by decide +kernel
theorem dX1_recall_67 : decode cX1_recall 67 = .ok (.iaload, 1) := by decide +kernel
theorem dX1_recall_68 : decode cX1_recall 68 = .ok (.putfield 61, 3) := by decide +kernel
theorem dX1_recall_71 : decode cX1_recall 71 = .ok (.aload_n 0, 1) := by decide +kernel
theorem dX1_recall_72 : decode cX1_recall 72 = .ok (.aload_n 0, 1) := by decide +kernel
theorem dX1_recall_73 : decode cX1_recall 73 = .ok (.getfield 45, 3) := by decide +kernel
theorem dX1_recall_76 : decode cX1_recall 76 = .ok (.aload_n 0, 1) := by decide +kernel
theorem dX1_recall_77 : decode cX1_recall 77 = .ok (.getfield 48, 3) := by decide +kernel
theorem dX1_recall_80 : decode cX1_recall 80 = .ok (.iaload, 1) := by decide +kernel
theorem dX1_recall_81 : decode cX1_recall 81 = .ok (.putfield 58, 3) := by decide +kernel
theorem dX1_recall_84 : decode cX1_recall 84 = .ok (.return_, 1) := by decide +kernel
def x_X1_recall (M : gMem) (c : Nat) : Option gMem := gd (gin ((gwr (gwr M c 0 11 ((((M.1 c 0 11) + 8) - 1) - (((M.1 c 0 11) + 8) - 1) / 8 * 8)) c 0 12 (((gwr M c 0 11 ((((M.1 c 0 11) + 8) - 1) - (((M.1 c 0 11) + 8) - 1) / 8 * 8)).1 c 0 12) - 1)).1 c 0 11) 8) (Option.bind (x_X1_copyRow (gwr (gwr M c 0 11 ((((M.1 c 0 11) + 8) - 1) - (((M.1 c 0 11) + 8) - 1) / 8 * 8)) c 0 12 (((gwr M c 0 11 ((((M.1 c 0 11) + 8) - 1) - (((M.1 c 0 11) + 8) - 1) / 8 * 8)).1 c 0 12) - 1)) c (15 + ((gwr (gwr M c 0 11 ((((M.1 c 0 11) + 8) - 1) - (((M.1 c 0 11) + 8) - 1) / 8 * 8)) c 0 12 (((gwr M c 0 11 ((((M.1 c 0 11) + 8) - 1) - (((M.1 c 0 11) + 8) - 1) / 8 * 8)).1 c 0 12) - 1)).1 c 0 11).toNatClampNeg) c 4) (fun v2 => gd (gin (v2.1 c 0 11) 8) (Option.bind (x_X1_copyRow v2 c (24 + (v2.1 c 0 11).toNatClampNeg) c 5) (fun v5 => gd (gin (v5.1 c 0 11) 8) (gd (gin ((gwr v5 c 0 15 (v5.1 c 32 (v5.1 c 0 11).toNatClampNeg)).1 c 0 11) 8) (some (gwr (gwr v5 c 0 15 (v5.1 c 32 (v5.1 c 0 11).toNatClampNeg)) c 0 14 ((gwr v5 c 0 15 (v5.1 c 32 (v5.1 c 0 11).toNatClampNeg)).1 c 33 ((gwr v5 c 0 15 (v5.1 c 32 (v5.1 c 0 11).toNatClampNeg)).1 c 0 11).toNatClampNeg))))))))
set_option maxRecDepth 100000 in
set_option maxHeartbeats 4000000 in
theorem c_X1_recall {l : Launch} {Y : gY} {M : gMem} {c : Nat} {r : gMem} (hc : c < 4) (hx : x_X1_recall M c = some r) : Met l yX1_recall (gws yX1_recall cX1_recall 1 none) { frames := 2, cells := 0, slots := 0, locals := 61 } (va_Pc [.ref (gad Y c 0)] (gS0 Y M)) (gQv Y r) 0 0 (gA Y) := by
  refine gmet (lv := [(0, .ref (gad Y c 0))]) "GuestStaff$House" (by decide) rfl (Nat.le_of_ble_eq_true rfl) rfl (fun X hC hF => ?_)
  unfold x_X1_recall at hx
  refine q_aload_n hC 0 dX1_recall_0 rfl rfl ?_
  refine q_aload_n hC 0 dX1_recall_1 rfl rfl ?_
  refine gf_X1_48 hC hc dX1_recall_2 ?_
  refine q_bipush hC 8 dX1_recall_5 rfl ?_
  refine q_iadd hC dX1_recall_7 ?_
  refine q_iconst hC 1 dX1_recall_8 rfl ?_
  refine q_isub hC dX1_recall_9 ?_
  refine q_bipush hC 8 dX1_recall_10 rfl ?_
  refine q_irem hC dX1_recall_12 (by decide) ?_
  refine pf_X1_48 hC hc dX1_recall_13 ?_
  refine q_aload_n hC 0 dX1_recall_16 rfl rfl ?_
  refine q_dup hC dX1_recall_17 rfl ?_
  refine gf_X1_52 hC hc dX1_recall_18 ?_
  refine q_iconst hC 1 dX1_recall_21 rfl ?_
  refine q_isub hC dX1_recall_22 ?_
  refine pf_X1_52 hC hc dX1_recall_23 ?_
  refine q_aload_n hC 0 dX1_recall_26 rfl rfl ?_
  refine gf_X1_36 hC hc dX1_recall_27 ?_
  refine q_aload_n hC 0 dX1_recall_30 rfl rfl ?_
  refine gf_X1_48 hC hc dX1_recall_31 ?_
  have g1 := (gd_e hx).1
  have hx := (gd_e hx).2
  refine q_aald (t0 := 4) hC (gV_h hc (by decide)) rfl rfl rfl g1 (grow_i g1) dX1_recall_34 ?_
  refine q_aload_n hC 0 dX1_recall_35 rfl rfl ?_
  refine gf_X1_21 hC hc dX1_recall_36 ?_
  obtain ⟨v2, q3, hx⟩ := gb_e hx
  refine q_kv (q_rS (As := [.ref (gad Y c (15 + ((gwr (gwr M c 0 11 ((((M.1 c 0 11) + 8) - 1) - (((M.1 c 0 11) + 8) - 1) / 8 * 8)) c 0 12 (((gwr M c 0 11 ((((M.1 c 0 11) + 8) - 1) - (((M.1 c 0 11) + 8) - 1) / 8 * 8)).1 c 0 12) - 1)).1 c 0 11).toNatClampNeg)), .ref (gad Y c 4)]) (rest := []) hC mm_X1_copyRow wM_X1_71 (c_X1_copyRow (gV_hr 8 hc g1 (by decide)) (gl_of (by decide) g1) (gV_h hc (by decide)) rfl q3) ⟨rfl, rfl, Nat.le_of_ble_eq_true rfl, Nat.le_of_ble_eq_true rfl⟩ rfl rfl (Nat.le_of_ble_eq_true rfl) dX1_recall_39) ?_
  refine q_aload_n hC 0 dX1_recall_42 rfl rfl ?_
  refine gf_X1_39 hC hc dX1_recall_43 ?_
  refine q_aload_n hC 0 dX1_recall_46 rfl rfl ?_
  refine gf_X1_48 hC hc dX1_recall_47 ?_
  have g4 := (gd_e hx).1
  have hx := (gd_e hx).2
  refine q_aald (t0 := 4) hC (gV_h hc (by decide)) rfl rfl rfl g4 (grow_i g4) dX1_recall_50 ?_
  refine q_aload_n hC 0 dX1_recall_51 rfl rfl ?_
  refine gf_X1_24 hC hc dX1_recall_52 ?_
  obtain ⟨v5, q6, hx⟩ := gb_e hx
  refine q_kv (q_rS (As := [.ref (gad Y c (24 + (v2.1 c 0 11).toNatClampNeg)), .ref (gad Y c 5)]) (rest := []) hC mm_X1_copyRow wM_X1_71 (c_X1_copyRow (gV_hr 8 hc g4 (by decide)) (gl_of (by decide) g4) (gV_h hc (by decide)) rfl q6) ⟨rfl, rfl, Nat.le_of_ble_eq_true rfl, Nat.le_of_ble_eq_true rfl⟩ rfl rfl (Nat.le_of_ble_eq_true rfl) dX1_recall_55) ?_
  refine q_aload_n hC 0 dX1_recall_58 rfl rfl ?_
  refine q_aload_n hC 0 dX1_recall_59 rfl rfl ?_
  refine gf_X1_42 hC hc dX1_recall_60 ?_
  refine q_aload_n hC 0 dX1_recall_63 rfl rfl ?_
  refine gf_X1_48 hC hc dX1_recall_64 ?_
  have g7 := (gd_e hx).1
  have hx := (gd_e hx).2
  refine q_iald hC 7 (gV_h hc (by decide)) rfl g7 dX1_recall_67 ?_
  refine pf_X1_61 hC hc dX1_recall_68 ?_
  refine q_aload_n hC 0 dX1_recall_71 rfl rfl ?_
  refine q_aload_n hC 0 dX1_recall_72 rfl rfl ?_
  refine gf_X1_45 hC hc dX1_recall_73 ?_
  refine q_aload_n hC 0 dX1_recall_76 rfl rfl ?_
  refine gf_X1_48 hC hc dX1_recall_77 ?_
  have g8 := (gd_e hx).1
  have hx := (gd_e hx).2
  refine q_iald hC 7 (gV_h hc (by decide)) rfl g8 dX1_recall_80 ?_
  refine pf_X1_58 hC hc dX1_recall_81 ?_
  exact q_vret hC hF dX1_recall_84 (Option.some.inj hx)

theorem dX1_ringOf_0 : decode cX1_ringOf 0 = .ok (.aload_n 0, 1) := by decide +kernel
theorem dX1_ringOf_1 : decode cX1_ringOf 1 = .ok (.getfield 21, 3) := by decide +kernel
theorem dX1_ringOf_4 : decode cX1_ringOf 4 = .ok (.iload_n 1, 1) := by decide +kernel
theorem dX1_ringOf_5 : decode cX1_ringOf 5 = .ok (.iaload, 1) := by decide +kernel
theorem dX1_ringOf_6 : decode cX1_ringOf 6 = .ok (.istore_n 2, 1) := by decide +kernel
theorem dX1_ringOf_7 : decode cX1_ringOf 7 = .ok (.iconst 1, 1) := by decide +kernel
theorem dX1_ringOf_8 : decode cX1_ringOf 8 = .ok (.istore_n 3, 1) := by decide +kernel
theorem dX1_ringOf_9 : decode cX1_ringOf 9 = .ok (.iload_n 3, 1) := by decide +kernel
theorem dX1_ringOf_10 : decode cX1_ringOf 10 = .ok (.aload_n 0, 1) := by decide +kernel
theorem dX1_ringOf_11 : decode cX1_ringOf 11 = .ok (.getfield 55, 3) := by decide +kernel
theorem dX1_ringOf_14 : decode cX1_ringOf 14 = .ok (.if_icmp .gt 28, 3) := by decide +kernel
theorem dX1_ringOf_17 : decode cX1_ringOf 17 = .ok (.iload_n 2, 1) := by decide +kernel
theorem dX1_ringOf_18 : decode cX1_ringOf 18 = .ok (.iconst (-1), 1) := by decide +kernel
theorem dX1_ringOf_19 : decode cX1_ringOf 19 = .ok (.if_icmp .eq 23, 3) := by decide +kernel
theorem dX1_ringOf_22 : decode cX1_ringOf 22 = .ok (.iload_n 2, 1) := by decide +kernel
theorem dX1_ringOf_23 : decode cX1_ringOf 23 = .ok (.iload_n 1, 1) := by decide +kernel
theorem dX1_ringOf_24 : decode cX1_ringOf 24 = .ok (.if_icmp .ne 5, 3) := by decide +kernel
theorem dX1_ringOf_27 : decode cX1_ringOf 27 = .ok (.iload_n 3, 1) := by decide +kernel
theorem dX1_ringOf_28 : decode cX1_ringOf 28 = .ok (.ireturn, 1) := by decide +kernel
theorem dX1_ringOf_29 : decode cX1_ringOf 29 = .ok (.aload_n 0, 1) := by decide +kernel
theorem dX1_ringOf_30 : decode cX1_ringOf 30 = .ok (.getfield 21, 3) := by decide +kernel
theorem dX1_ringOf_33 : decode cX1_ringOf 33 = .ok (.iload_n 2, 1) := by decide +kernel
theorem dX1_ringOf_34 : decode cX1_ringOf 34 = .ok (.iaload, 1) := by decide +kernel
theorem dX1_ringOf_35 : decode cX1_ringOf 35 = .ok (.istore_n 2, 1) := by decide +kernel
theorem dX1_ringOf_36 : decode cX1_ringOf 36 = .ok (.iinc 3 1, 3) := by decide +kernel
theorem dX1_ringOf_39 : decode cX1_ringOf 39 = .ok (.goto (-30), 3) := by decide +kernel
theorem dX1_ringOf_42 : decode cX1_ringOf 42 = .ok (.iconst 0, 1) := by decide +kernel
theorem dX1_ringOf_43 : decode cX1_ringOf 43 = .ok (.ireturn, 1) := by decide +kernel
def s_X1_ringOf_9 (M : gMem) (c : Nat) (a1 : Int32) (b2 : Int32) (b3 : Int32) : Option ((Int32 × Int32) ⊕ ((Int32 × Int32) ⊕ Int32)) := (if (M.1 c 0 13) < b3 then some (.inr (.inl (b2, b3))) else (if b2 = (-1) then some (.inr (.inl (b2, b3))) else (if b2 = a1 then some (.inr (.inr b3)) else gd (gin b2 7) (some (.inl (M.1 c 4 (b2).toNatClampNeg, b3 + 1))))))
def x_X1_ringOf (M : gMem) (c : Nat) (p1 : Int32) : Option Int32 := gd (gin p1 7) (Option.bind (itr FU (fun s => s_X1_ringOf_9 M c p1 s.1 s.2) (M.1 c 4 (p1).toNatClampNeg, 1)) (fun e6 => Sum.elim (fun s7 => some 0) (fun z8 => some z8) e6))
set_option maxRecDepth 100000 in
set_option maxHeartbeats 4000000 in
theorem w_X1_ringOf_9 {X : gX} {Y : gY} {M : gMem} {c : Nat} {a1 : Int32} {r : Int32} (hC : gC X Y cX1_ringOf "GuestStaff$House" 4 0 0) (hF : gF X Y (some .int) (gQi Y (r, M))) (hc : c < 4) {e : ((Int32 × Int32) ⊕ Int32)} (kE : ∀ s : (Int32 × Int32), e = .inl s → gWW X Y 4 42 [] [] M) (kR : ∀ z : Int32, e = .inr z → z = r) : ∀ (F : Nat) (s : (Int32 × Int32)), itr F (fun s => s_X1_ringOf_9 M c a1 s.1 s.2) s = some e → gWW X Y 4 9 [(0, .ref (gad Y c 0)), (1, .int a1), (2, .int s.1), (3, .int s.2)] [] M := by
  intro F s
  refine itr_w (P := fun s => gWW X Y 4 9 [(0, .ref (gad Y c 0)), (1, .int a1), (2, .int s.1), (3, .int s.2)] [] M) (fun s o hx kI kx => ?_) F s
  obtain ⟨b2, b3⟩ := s
  have hx : s_X1_ringOf_9 M c a1 b2 b3 = some o := hx
  have kE : ∀ s : (Int32 × Int32), o = .inr (.inl s) → gWW X Y 4 42 [] [] M := fun s q => kE s (kx _ q).symm
  have kR : ∀ z : Int32, o = .inr (.inr z) → z = r := fun z q => kR z (kx _ q).symm
  unfold s_X1_ringOf_9 at hx
  refine q_iload_n hC 3 dX1_ringOf_9 rfl rfl ?_
  refine q_aload_n hC 0 dX1_ringOf_10 rfl rfl ?_
  refine gf_X1_55 hC hc dX1_ringOf_11 ?_
  refine q_ic_gt hC 42 dX1_ringOf_14 rfl (fun h2 => ?_) (fun h2 => ?_)
  · have hx := gi_p h2 hx
    exact q_sub [] rfl (kE (b2, b3) (Option.some.inj hx).symm)
  · have hx := gi_n h2 hx
    refine q_iload_n hC 2 dX1_ringOf_17 rfl rfl ?_
    refine q_iconst hC (-1) dX1_ringOf_18 rfl ?_
    refine q_ic_eq hC 42 dX1_ringOf_19 rfl (fun h3 => ?_) (fun h3 => ?_)
    · have hx := gi_p h3 hx
      exact q_sub [] rfl (kE (b2, b3) (Option.some.inj hx).symm)
    · have hx := gi_n h3 hx
      refine q_iload_n hC 2 dX1_ringOf_22 rfl rfl ?_
      refine q_iload_n hC 1 dX1_ringOf_23 rfl rfl ?_
      refine q_ic_ne hC 29 dX1_ringOf_24 rfl (fun h4 => ?_) (fun h4 => ?_)
      · have hx := gi_n h4 hx
        refine q_aload_n hC 0 dX1_ringOf_29 rfl rfl ?_
        refine gf_X1_21 hC hc dX1_ringOf_30 ?_
        refine q_iload_n hC 2 dX1_ringOf_33 rfl rfl ?_
        have g5 := (gd_e hx).1
        have hx := (gd_e hx).2
        refine q_iald hC 6 (gV_h hc (by decide)) rfl g5 dX1_ringOf_34 ?_
        refine q_istore_n hC [(2, .int (M.1 c 4 (b2).toNatClampNeg)), (0, .ref (gad Y c 0)), (1, .int a1), (3, .int b3)] dX1_ringOf_35 rfl (by decide) rfl ?_
        refine q_iinc hC 3 1 [(3, .int (b3 + 1)), (2, .int (M.1 c 4 (b2).toNatClampNeg)), (0, .ref (gad Y c 0)), (1, .int a1)] dX1_ringOf_36 rfl rfl (by decide) rfl ?_
        refine q_goto hC 9 dX1_ringOf_39 rfl ?_
        exact q_sub [2, 3, 1, 0] rfl (kI (M.1 c 4 (b2).toNatClampNeg, b3 + 1) (Option.some.inj hx).symm)
      · have hx := gi_p h4 hx
        refine q_iload_n hC 3 dX1_ringOf_27 rfl rfl ?_
        exact q_iret hC hF dX1_ringOf_28 (congrArg (fun z => (z, M)) (kR _ (Option.some.inj hx).symm))
set_option maxRecDepth 100000 in
set_option maxHeartbeats 4000000 in
theorem c_X1_ringOf {l : Launch} {Y : gY} {M : gMem} {c : Nat} {p1 : Int32} {r : Int32} (hc : c < 4) (hx : x_X1_ringOf M c p1 = some r) : Met l yX1_ringOf (gws yX1_ringOf cX1_ringOf 4 (some .int)) { frames := 0, cells := 0, slots := 0, locals := 0 } (va_Pc [.ref (gad Y c 0), .int p1] (gS0 Y M)) (gQi Y (r, M)) 0 0 (gA Y) := by
  refine gmet (lv := [(0, .ref (gad Y c 0)), (1, .int p1)]) "GuestStaff$House" (by decide) rfl (Nat.le_of_ble_eq_true rfl) rfl (fun X hC hF => ?_)
  unfold x_X1_ringOf at hx
  refine q_aload_n hC 0 dX1_ringOf_0 rfl rfl ?_
  refine gf_X1_21 hC hc dX1_ringOf_1 ?_
  refine q_iload_n hC 1 dX1_ringOf_4 rfl rfl ?_
  have g1 := (gd_e hx).1
  have hx := (gd_e hx).2
  refine q_iald hC 6 (gV_h hc (by decide)) rfl g1 dX1_ringOf_5 ?_
  refine q_istore_n hC [(2, .int (M.1 c 4 (p1).toNatClampNeg)), (0, .ref (gad Y c 0)), (1, .int p1)] dX1_ringOf_6 rfl (by decide) rfl ?_
  refine q_iconst hC 1 dX1_ringOf_7 rfl ?_
  refine q_istore_n hC [(3, .int 1), (2, .int (M.1 c 4 (p1).toNatClampNeg)), (0, .ref (gad Y c 0)), (1, .int p1)] dX1_ringOf_8 rfl (by decide) rfl ?_
  obtain ⟨e6, qe6, hx⟩ := gb_e hx
  refine q_sub [2, 3, 1, 0] rfl (w_X1_ringOf_9 hC hF hc (e := e6) (fun s7 qs7 => ?_) (fun z8 qz8 => ?_) _ _ qe6)
  · subst qs7
    refine q_iconst hC 0 dX1_ringOf_42 rfl ?_
    exact q_iret hC hF dX1_ringOf_43 (congrArg (fun z => (z, M)) (Option.some.inj hx))
  · subst qz8
    exact Option.some.inj hx

theorem dX1_wouldRather_0 : decode cX1_wouldRather 0 = .ok (.iload_n 3, 1) := by decide +kernel
theorem dX1_wouldRather_1 : decode cX1_wouldRather 1 = .ok (.iload_n 1, 1) := by decide +kernel
theorem dX1_wouldRather_2 : decode cX1_wouldRather 2 = .ok (.if_icmp .eq 31, 3) := by decide +kernel
theorem dX1_wouldRather_5 : decode cX1_wouldRather 5 = .ok (.aload_n 0, 1) := by decide +kernel
theorem dX1_wouldRather_6 : decode cX1_wouldRather 6 = .ok (.iload_n 3, 1) := by decide +kernel
theorem dX1_wouldRather_7 : decode cX1_wouldRather 7 = .ok (.iload_n 1, 1) := by decide +kernel
theorem dX1_wouldRather_8 : decode cX1_wouldRather 8 = .ok (.invokevirtual 85, 3) := by decide +kernel
theorem dX1_wouldRather_11 : decode cX1_wouldRather 11 = .ok (.ifCond .eq 22, 3) := by decide +kernel
theorem dX1_wouldRather_14 : decode cX1_wouldRather 14 = .ok (.aload_n 0, 1) := by decide +kernel
theorem dX1_wouldRather_15 : decode cX1_wouldRather 15 = .ok (.iload_n 1, 1) := by decide +kernel
theorem dX1_wouldRather_16 : decode cX1_wouldRather 16 = .ok (.iload_n 3, 1) := by decide +kernel
theorem dX1_wouldRather_17 : decode cX1_wouldRather 17 = .ok (.invokevirtual 102, 3) := by decide +kernel
theorem dX1_wouldRather_20 : decode cX1_wouldRather 20 = .ok (.aload_n 0, 1) := by decide +kernel
theorem dX1_wouldRather_21 : decode cX1_wouldRather 21 = .ok (.iload_n 1, 1) := by decide +kernel
theorem dX1_wouldRather_22 : decode cX1_wouldRather 22 = .ok (.iload_n 2, 1) := by decide +kernel
theorem dX1_wouldRather_23 : decode cX1_wouldRather 23 = .ok (.invokevirtual 102, 3) := by decide +kernel
theorem dX1_wouldRather_26 : decode cX1_wouldRather 26 = .ok (.if_icmp .le 7, 3) := by decide +kernel
theorem dX1_wouldRather_29 : decode cX1_wouldRather 29 = .ok (.iconst 1, 1) := by decide +kernel
theorem dX1_wouldRather_30 : decode cX1_wouldRather 30 = .ok (.goto 4, 3) := by decide +kernel
theorem dX1_wouldRather_33 : decode cX1_wouldRather 33 = .ok (.iconst 0, 1) := by decide +kernel
theorem dX1_wouldRather_34 : decode cX1_wouldRather 34 = .ok (.ireturn, 1) := by decide +kernel
def x_X1_wouldRather (M : gMem) (c : Nat) (p1 : Int32) (p2 : Int32) (p3 : Int32) : Option Int32 := (if p3 = p1 then some 0 else Option.bind (x_X1_canServe M c p3 p1) (fun v2 => (if v2 = 0 then some 0 else Option.bind (x_X1_contentBy M c p1 p3) (fun v6 => Option.bind (x_X1_contentBy M c p1 p2) (fun v8 => (if v6 ≤ v8 then some 0 else some 1))))))
set_option maxRecDepth 100000 in
set_option maxHeartbeats 4000000 in
theorem c_X1_wouldRather {l : Launch} {Y : gY} {M : gMem} {c : Nat} {p1 : Int32} {p2 : Int32} {p3 : Int32} {r : Int32} (hc : c < 4) (hx : x_X1_wouldRather M c p1 p2 p3 = some r) : Met l yX1_wouldRather (gws yX1_wouldRather cX1_wouldRather 4 (some .boolean)) { frames := 5, cells := 0, slots := 0, locals := 110 } (va_Pc [.ref (gad Y c 0), .int p1, .int p2, .int p3] (gS0 Y M)) (gQz Y (r, M)) 0 0 (gA Y) := by
  refine gmet (lv := [(0, .ref (gad Y c 0)), (1, .int p1), (2, .int p2), (3, .int p3)]) "GuestStaff$House" (by decide) rfl (Nat.le_of_ble_eq_true rfl) rfl (fun X hC hF => ?_)
  unfold x_X1_wouldRather at hx
  refine q_iload_n hC 3 dX1_wouldRather_0 rfl rfl ?_
  refine q_iload_n hC 1 dX1_wouldRather_1 rfl rfl ?_
  refine q_ic_eq hC 33 dX1_wouldRather_2 rfl (fun h1 => ?_) (fun h1 => ?_)
  · have hx := gi_p h1 hx
    refine q_iconst hC 0 dX1_wouldRather_33 rfl ?_
    exact q_zret hC hF dX1_wouldRather_34 (Or.inl rfl) (congrArg (fun z => (z, M)) (Option.some.inj hx))
  · have hx := gi_n h1 hx
    refine q_aload_n hC 0 dX1_wouldRather_5 rfl rfl ?_
    refine q_iload_n hC 3 dX1_wouldRather_6 rfl rfl ?_
    refine q_iload_n hC 1 dX1_wouldRather_7 rfl rfl ?_
    obtain ⟨v2, q3, hx⟩ := gb_e hx
    refine q_kzp (q_rV (As := [.int p3, .int p1]) (rest := []) hC mm_X1_canServe wM_X1_85 (c_X1_canServe hc q3) ⟨rfl, rfl, Nat.le_of_ble_eq_true rfl, Nat.le_of_ble_eq_true rfl⟩ (gV_h hc (by decide)) rfl rfl rfl rfl (Nat.le_of_ble_eq_true rfl) dX1_wouldRather_8) (fun z4 => ?_)
    refine q_if_eq hC 33 dX1_wouldRather_11 rfl (fun h5 => ?_) (fun h5 => ?_)
    · have hx := gi_p h5 hx
      refine q_iconst hC 0 dX1_wouldRather_33 rfl ?_
      exact q_zret hC hF dX1_wouldRather_34 (Or.inl rfl) (congrArg (fun z => (z, M)) (Option.some.inj hx))
    · have hx := gi_n h5 hx
      refine q_aload_n hC 0 dX1_wouldRather_14 rfl rfl ?_
      refine q_iload_n hC 1 dX1_wouldRather_15 rfl rfl ?_
      refine q_iload_n hC 3 dX1_wouldRather_16 rfl rfl ?_
      obtain ⟨v6, q7, hx⟩ := gb_e hx
      refine q_kip (q_rV (As := [.int p1, .int p3]) (rest := []) hC mm_X1_contentBy wM_X1_102 (c_X1_contentBy hc q7) ⟨rfl, rfl, Nat.le_of_ble_eq_true rfl, Nat.le_of_ble_eq_true rfl⟩ (gV_h hc (by decide)) rfl rfl rfl rfl (Nat.le_of_ble_eq_true rfl) dX1_wouldRather_17) ?_
      refine q_aload_n hC 0 dX1_wouldRather_20 rfl rfl ?_
      refine q_iload_n hC 1 dX1_wouldRather_21 rfl rfl ?_
      refine q_iload_n hC 2 dX1_wouldRather_22 rfl rfl ?_
      obtain ⟨v8, q9, hx⟩ := gb_e hx
      refine q_kip (q_rV (As := [.int p1, .int p2]) (rest := [.int v6]) hC mm_X1_contentBy wM_X1_102 (c_X1_contentBy hc q9) ⟨rfl, rfl, Nat.le_of_ble_eq_true rfl, Nat.le_of_ble_eq_true rfl⟩ (gV_h hc (by decide)) rfl rfl rfl rfl (Nat.le_of_ble_eq_true rfl) dX1_wouldRather_23) ?_
      refine q_ic_le hC 33 dX1_wouldRather_26 rfl (fun h10 => ?_) (fun h10 => ?_)
      · have hx := gi_p h10 hx
        refine q_iconst hC 0 dX1_wouldRather_33 rfl ?_
        exact q_zret hC hF dX1_wouldRather_34 (Or.inl rfl) (congrArg (fun z => (z, M)) (Option.some.inj hx))
      · have hx := gi_n h10 hx
        refine q_iconst hC 1 dX1_wouldRather_29 rfl ?_
        refine q_goto hC 34 dX1_wouldRather_30 rfl ?_
        exact q_zret hC hF dX1_wouldRather_34 (Or.inr rfl) (congrArg (fun z => (z, M)) (Option.some.inj hx))

theorem dX1_wouldSwap_0 : decode cX1_wouldSwap 0 = .ok (.aload_n 0, 1) := by decide +kernel
theorem dX1_wouldSwap_1 : decode cX1_wouldSwap 1 = .ok (.iload_n 1, 1) := by decide +kernel
theorem dX1_wouldSwap_2 : decode cX1_wouldSwap 2 = .ok (.invokevirtual 92, 3) := by decide +kernel
theorem dX1_wouldSwap_5 : decode cX1_wouldSwap 5 = .ok (.istore_n 3, 1) := by decide +kernel
theorem dX1_wouldSwap_6 : decode cX1_wouldSwap 6 = .ok (.aload_n 0, 1) := by decide +kernel
theorem dX1_wouldSwap_7 : decode cX1_wouldSwap 7 = .ok (.iload_n 2, 1) := by decide +kernel
theorem dX1_wouldSwap_8 : decode cX1_wouldSwap 8 = .ok (.invokevirtual 92, 3) := by decide +kernel
theorem dX1_wouldSwap_11 : decode cX1_wouldSwap 11 = .ok (.istore 4, 2) := by decide +kernel
theorem dX1_wouldSwap_13 : decode cX1_wouldSwap 13 = .ok (.iload_n 3, 1) := by decide +kernel
theorem dX1_wouldSwap_14 : decode cX1_wouldSwap 14 = .ok (.iconst (-1), 1) := by decide +kernel
theorem dX1_wouldSwap_15 : decode cX1_wouldSwap 15 = .ok (.if_icmp .eq 35, 3) := by decide +kernel
theorem dX1_wouldSwap_18 : decode cX1_wouldSwap 18 = .ok (.iload 4, 2) := by decide +kernel
theorem dX1_wouldSwap_20 : decode cX1_wouldSwap 20 = .ok (.iconst (-1), 1) := by decide +kernel
theorem dX1_wouldSwap_21 : decode cX1_wouldSwap 21 = .ok (.if_icmp .eq 29, 3) := by decide +kernel
theorem dX1_wouldSwap_24 : decode cX1_wouldSwap 24 = .ok (.aload_n 0, 1) := by decide +kernel
theorem dX1_wouldSwap_25 : decode cX1_wouldSwap 25 = .ok (.iload_n 1, 1) := by decide +kernel
theorem dX1_wouldSwap_26 : decode cX1_wouldSwap 26 = .ok (.iload_n 3, 1) := by decide +kernel
theorem dX1_wouldSwap_27 : decode cX1_wouldSwap 27 = .ok (.iload 4, 2) := by decide +kernel
theorem dX1_wouldSwap_29 : decode cX1_wouldSwap 29 = .ok (.invokevirtual 114, 3) := by decide +kernel
theorem dX1_wouldSwap_32 : decode cX1_wouldSwap 32 = .ok (.ifCond .eq 18, 3) := by decide +kernel
theorem dX1_wouldSwap_35 : decode cX1_wouldSwap 35 = .ok (.aload_n 0, 1) := by decide +kernel
theorem dX1_wouldSwap_36 : decode cX1_wouldSwap 36 = .ok (.iload_n 2, 1) := by decide +kernel
theorem dX1_wouldSwap_37 : decode cX1_wouldSwap 37 = .ok (.iload 4, 2) := by decide +kernel
theorem dX1_wouldSwap_39 : decode cX1_wouldSwap 39 = .ok (.iload_n 3, 1) := by decide +kernel
theorem dX1_wouldSwap_40 : decode cX1_wouldSwap 40 = .ok (.invokevirtual 114, 3) := by decide +kernel
theorem dX1_wouldSwap_43 : decode cX1_wouldSwap 43 = .ok (.ifCond .eq 7, 3) := by decide +kernel
theorem dX1_wouldSwap_46 : decode cX1_wouldSwap 46 = .ok (.iconst 1, 1) := by decide +kernel
theorem dX1_wouldSwap_47 : decode cX1_wouldSwap 47 = .ok (.goto 4, 3) := by decide +kernel
theorem dX1_wouldSwap_50 : decode cX1_wouldSwap 50 = .ok (.iconst 0, 1) := by decide +kernel
theorem dX1_wouldSwap_51 : decode cX1_wouldSwap 51 = .ok (.ireturn, 1) := by decide +kernel
def x_X1_wouldSwap (M : gMem) (c : Nat) (p1 : Int32) (p2 : Int32) : Option Int32 := Option.bind (x_X1_serverOf M c p1) (fun v1 => Option.bind (x_X1_serverOf M c p2) (fun v3 => (if v1 = (-1) then some 0 else (if v3 = (-1) then some 0 else Option.bind (x_X1_wouldRather M c p1 v1 v3) (fun v7 => (if v7 = 0 then some 0 else Option.bind (x_X1_wouldRather M c p2 v3 v1) (fun v11 => (if v11 = 0 then some 0 else some 1))))))))
set_option maxRecDepth 100000 in
set_option maxHeartbeats 4000000 in
theorem c_X1_wouldSwap {l : Launch} {Y : gY} {M : gMem} {c : Nat} {p1 : Int32} {p2 : Int32} {r : Int32} (hc : c < 4) (hx : x_X1_wouldSwap M c p1 p2 = some r) : Met l yX1_wouldSwap (gws yX1_wouldSwap cX1_wouldSwap 5 (some .boolean)) { frames := 6, cells := 0, slots := 0, locals := 133 } (va_Pc [.ref (gad Y c 0), .int p1, .int p2] (gS0 Y M)) (gQz Y (r, M)) 0 0 (gA Y) := by
  refine gmet (lv := [(0, .ref (gad Y c 0)), (1, .int p1), (2, .int p2)]) "GuestStaff$House" (by decide) rfl (Nat.le_of_ble_eq_true rfl) rfl (fun X hC hF => ?_)
  unfold x_X1_wouldSwap at hx
  refine q_aload_n hC 0 dX1_wouldSwap_0 rfl rfl ?_
  refine q_iload_n hC 1 dX1_wouldSwap_1 rfl rfl ?_
  obtain ⟨v1, q2, hx⟩ := gb_e hx
  refine q_kip (q_rV (As := [.int p1]) (rest := []) hC mm_X1_serverOf wM_X1_92 (c_X1_serverOf hc q2) ⟨rfl, rfl, Nat.le_of_ble_eq_true rfl, Nat.le_of_ble_eq_true rfl⟩ (gV_h hc (by decide)) rfl rfl rfl rfl (Nat.le_of_ble_eq_true rfl) dX1_wouldSwap_2) ?_
  refine q_istore_n hC [(3, .int v1), (0, .ref (gad Y c 0)), (1, .int p1), (2, .int p2)] dX1_wouldSwap_5 rfl (by decide) rfl ?_
  refine q_aload_n hC 1 dX1_wouldSwap_6 rfl rfl ?_
  refine q_iload_n hC 3 dX1_wouldSwap_7 rfl rfl ?_
  obtain ⟨v3, q4, hx⟩ := gb_e hx
  refine q_kip (q_rV (As := [.int p2]) (rest := []) hC mm_X1_serverOf wM_X1_92 (c_X1_serverOf hc q4) ⟨rfl, rfl, Nat.le_of_ble_eq_true rfl, Nat.le_of_ble_eq_true rfl⟩ (gV_h hc (by decide)) rfl rfl rfl rfl (Nat.le_of_ble_eq_true rfl) dX1_wouldSwap_8) ?_
  refine q_istore hC [(4, .int v3), (3, .int v1), (0, .ref (gad Y c 0)), (1, .int p1), (2, .int p2)] dX1_wouldSwap_11 (by decide) rfl ?_
  refine q_iload_n hC 1 dX1_wouldSwap_13 rfl rfl ?_
  refine q_iconst hC (-1) dX1_wouldSwap_14 rfl ?_
  refine q_ic_eq hC 50 dX1_wouldSwap_15 rfl (fun h5 => ?_) (fun h5 => ?_)
  · have hx := gi_p h5 hx
    refine q_iconst hC 0 dX1_wouldSwap_50 rfl ?_
    exact q_zret hC hF dX1_wouldSwap_51 (Or.inl rfl) (congrArg (fun z => (z, M)) (Option.some.inj hx))
  · have hx := gi_n h5 hx
    refine q_iload hC 0 dX1_wouldSwap_18 rfl ?_
    refine q_iconst hC (-1) dX1_wouldSwap_20 rfl ?_
    refine q_ic_eq hC 50 dX1_wouldSwap_21 rfl (fun h6 => ?_) (fun h6 => ?_)
    · have hx := gi_p h6 hx
      refine q_iconst hC 0 dX1_wouldSwap_50 rfl ?_
      exact q_zret hC hF dX1_wouldSwap_51 (Or.inl rfl) (congrArg (fun z => (z, M)) (Option.some.inj hx))
    · have hx := gi_n h6 hx
      refine q_aload_n hC 2 dX1_wouldSwap_24 rfl rfl ?_
      refine q_iload_n hC 3 dX1_wouldSwap_25 rfl rfl ?_
      refine q_iload_n hC 1 dX1_wouldSwap_26 rfl rfl ?_
      refine q_iload hC 0 dX1_wouldSwap_27 rfl ?_
      obtain ⟨v7, q8, hx⟩ := gb_e hx
      refine q_kzp (q_rV (As := [.int p1, .int v1, .int v3]) (rest := []) hC mm_X1_wouldRather wM_X1_114 (c_X1_wouldRather hc q8) ⟨rfl, rfl, Nat.le_of_ble_eq_true rfl, Nat.le_of_ble_eq_true rfl⟩ (gV_h hc (by decide)) rfl rfl rfl rfl (Nat.le_of_ble_eq_true rfl) dX1_wouldSwap_29) (fun z9 => ?_)
      refine q_if_eq hC 50 dX1_wouldSwap_32 rfl (fun h10 => ?_) (fun h10 => ?_)
      · have hx := gi_p h10 hx
        refine q_iconst hC 0 dX1_wouldSwap_50 rfl ?_
        exact q_zret hC hF dX1_wouldSwap_51 (Or.inl rfl) (congrArg (fun z => (z, M)) (Option.some.inj hx))
      · have hx := gi_n h10 hx
        refine q_aload_n hC 2 dX1_wouldSwap_35 rfl rfl ?_
        refine q_iload_n hC 4 dX1_wouldSwap_36 rfl rfl ?_
        refine q_iload hC 0 dX1_wouldSwap_37 rfl ?_
        refine q_iload_n hC 1 dX1_wouldSwap_39 rfl rfl ?_
        obtain ⟨v11, q12, hx⟩ := gb_e hx
        refine q_kzp (q_rV (As := [.int p2, .int v3, .int v1]) (rest := []) hC mm_X1_wouldRather wM_X1_114 (c_X1_wouldRather hc q12) ⟨rfl, rfl, Nat.le_of_ble_eq_true rfl, Nat.le_of_ble_eq_true rfl⟩ (gV_h hc (by decide)) rfl rfl rfl rfl (Nat.le_of_ble_eq_true rfl) dX1_wouldSwap_40) (fun z13 => ?_)
        refine q_if_eq hC 50 dX1_wouldSwap_43 rfl (fun h14 => ?_) (fun h14 => ?_)
        · have hx := gi_p h14 hx
          refine q_iconst hC 0 dX1_wouldSwap_50 rfl ?_
          exact q_zret hC hF dX1_wouldSwap_51 (Or.inl rfl) (congrArg (fun z => (z, M)) (Option.some.inj hx))
        · have hx := gi_n h14 hx
          refine q_iconst hC 1 dX1_wouldSwap_46 rfl ?_
          refine q_goto hC 51 dX1_wouldSwap_47 rfl ?_
          exact q_zret hC hF dX1_wouldSwap_51 (Or.inr rfl) (congrArg (fun z => (z, M)) (Option.some.inj hx))

theorem dX3_allFit_0 : decode cX3_allFit 0 = .ok (.iconst 0, 1) := by decide +kernel
theorem dX3_allFit_1 : decode cX3_allFit 1 = .ok (.istore 4, 2) := by decide +kernel
theorem dX3_allFit_3 : decode cX3_allFit 3 = .ok (.iload 4, 2) := by decide +kernel
theorem dX3_allFit_5 : decode cX3_allFit 5 = .ok (.aload_n 0, 1) := by decide +kernel
theorem dX3_allFit_6 : decode cX3_allFit 6 = .ok (.getfield 16, 3) := by decide +kernel
theorem dX3_allFit_9 : decode cX3_allFit 9 = .ok (.if_icmp .ge 63, 3) := by decide +kernel
theorem dX3_allFit_12 : decode cX3_allFit 12 = .ok (.aload_n 0, 1) := by decide +kernel
theorem dX3_allFit_13 : decode cX3_allFit 13 = .ok (.getfield 13, 3) := by decide +kernel
theorem dX3_allFit_16 : decode cX3_allFit 16 = .ok (.iload 4, 2) := by decide +kernel
theorem dX3_allFit_18 : decode cX3_allFit 18 = .ok (.aaload, 1) := by decide +kernel
theorem dX3_allFit_19 : decode cX3_allFit 19 = .ok (.astore 5, 2) := by decide +kernel
theorem dX3_allFit_21 : decode cX3_allFit 21 = .ok (.aload 5, 2) := by decide +kernel
theorem dX3_allFit_23 : decode cX3_allFit 23 = .ok (.iconst 2, 1) := by decide +kernel
theorem dX3_allFit_24 : decode cX3_allFit 24 = .ok (.iaload, 1) := by decide +kernel
theorem dX3_allFit_25 : decode cX3_allFit 25 = .ok (.iload_n 3, 1) := by decide +kernel
theorem dX3_allFit_26 : decode cX3_allFit 26 = .ok (.if_icmp .ne 18, 3) := by decide +kernel
theorem dX3_allFit_29 : decode cX3_allFit 29 = .ok (.aload_n 2, 1) := by decide +kernel
theorem dX3_allFit_30 : decode cX3_allFit 30 = .ok (.aload 5, 2) := by decide +kernel
theorem dX3_allFit_32 : decode cX3_allFit 32 = .ok (.iconst 1, 1) := by decide +kernel
theorem dX3_allFit_33 : decode cX3_allFit 33 = .ok (.iaload, 1) := by decide +kernel
theorem dX3_allFit_34 : decode cX3_allFit 34 = .ok (.aload 5, 2) := by decide +kernel
theorem dX3_allFit_36 : decode cX3_allFit 36 = .ok (.iconst 3, 1) := by decide +kernel
theorem dX3_allFit_37 : decode cX3_allFit 37 = .ok (.iaload, 1) := by decide +kernel
theorem dX3_allFit_38 : decode cX3_allFit 38 = .ok (.invokevirtual 30, 3) := by decide +kernel
theorem dX3_allFit_41 : decode cX3_allFit 41 = .ok (.goto 4, 3) := by decide +kernel
theorem dX3_allFit_44 : decode cX3_allFit 44 = .ok (.iconst 0, 1) := by decide +kernel
theorem dX3_allFit_45 : decode cX3_allFit 45 = .ok (.istore 6, 2) := by decide +kernel
theorem dX3_allFit_47 : decode cX3_allFit 47 = .ok (.aload 5, 2) := by decide +kernel
theorem dX3_allFit_49 : decode cX3_allFit 49 = .ok (.iconst 0, 1) := by decide +kernel
theorem dX3_allFit_50 : decode cX3_allFit 50 = .ok (.iaload, 1) := by decide +kernel
theorem dX3_allFit_51 : decode cX3_allFit 51 = .ok (.iload_n 1, 1) := by decide +kernel
theorem dX3_allFit_52 : decode cX3_allFit 52 = .ok (.if_icmp .ne 14, 3) := by decide +kernel
theorem dX3_allFit_55 : decode cX3_allFit 55 = .ok (.aload 5, 2) := by decide +kernel
theorem dX3_allFit_57 : decode cX3_allFit 57 = .ok (.iconst 4, 1) := by decide +kernel
theorem dX3_allFit_58 : decode cX3_allFit 58 = .ok (.iaload, 1) := by decide +kernel
theorem dX3_allFit_59 : decode cX3_allFit 59 = .ok (.iload 6, 2) := by decide +kernel
theorem dX3_allFit_61 : decode cX3_allFit 61 = .ok (.if_icmp .eq 5, 3) := by decide +kernel
theorem dX3_allFit_64 : decode cX3_allFit 64 = .ok (.iconst 0, 1) := by decide +kernel
theorem dX3_allFit_65 : decode cX3_allFit 65 = .ok (.ireturn, 1) := by decide +kernel
theorem dX3_allFit_66 : decode cX3_allFit 66 = .ok (.iinc 4 1, 3) := by decide +kernel
theorem dX3_allFit_69 : decode cX3_allFit 69 = .ok (.goto (-66), 3) := by decide +kernel
theorem dX3_allFit_72 : decode cX3_allFit 72 = .ok (.iconst 1, 1) := by decide +kernel
theorem dX3_allFit_73 : decode cX3_allFit 73 = .ok (.ireturn, 1) := by decide +kernel
def j_X3_allFit_3_66 (M : gMem) (c : Nat) (kd : Nat) (a1 : Int32) (a3 : Int32) (b4 : Int32) : Option (Int32 ⊕ (Int32 ⊕ Int32)) := some (.inl (b4 + 1))
def j_X3_allFit_3_45 (M : gMem) (c : Nat) (kd : Nat) (a1 : Int32) (a3 : Int32) (b4 : Int32) (t0 : Int32) : Option (Int32 ⊕ (Int32 ⊕ Int32)) := (if (M.1 c (8 + (b4).toNatClampNeg) 0) = a1 then (if (M.1 c (8 + (b4).toNatClampNeg) 4) = t0 then j_X3_allFit_3_66 M c kd a1 a3 b4 else some (.inr (.inr 0))) else j_X3_allFit_3_66 M c kd a1 a3 b4)
def s_X3_allFit_3 (M : gMem) (c : Nat) (kd : Nat) (a1 : Int32) (a3 : Int32) (b4 : Int32) : Option (Int32 ⊕ (Int32 ⊕ Int32)) := (if (M.1 c 6 1) ≤ b4 then some (.inr (.inl b4)) else gd (gin b4 6) ((if (M.1 c (8 + (b4).toNatClampNeg) 2) = a3 then Option.bind (x_K_contentBy kd (M.1 c (8 + (b4).toNatClampNeg) 1) (M.1 c (8 + (b4).toNatClampNeg) 3)) (fun v6 => j_X3_allFit_3_45 M c kd a1 a3 b4 v6) else j_X3_allFit_3_45 M c kd a1 a3 b4 0)))
def x_X3_allFit (M : gMem) (c : Nat) (kd : Nat) (p1 : Int32) (p3 : Int32) : Option Int32 := Option.bind (itr FU (fun s => s_X3_allFit_3 M c kd p1 p3 s) 0) (fun e8 => Sum.elim (fun s9 => some 1) (fun z10 => some z10) e8)
set_option maxRecDepth 100000 in
set_option maxHeartbeats 4000000 in
theorem w_X3_allFit_3 {X : gX} {Y : gY} {M : gMem} {c : Nat} {kd : Nat} {a1 : Int32} {a3 : Int32} {r : Int32} (hC : gC X Y cX3_allFit "GuestStaff$Notes" 7 4 88) (hF : gF X Y (some .boolean) (gQz Y (r, M))) (hc : c < 4) (hkd : kd < 6) {e : (Int32 ⊕ Int32)} (kE : ∀ s : Int32, e = .inl s → gWW X Y 7 72 [] [] M) (kR : ∀ z : Int32, e = .inr z → z = r) : ∀ (F : Nat) (s : Int32), itr F (fun s => s_X3_allFit_3 M c kd a1 a3 s) s = some e → gWW X Y 7 3 [(0, .ref (gad Y c 6)), (1, .int a1), (2, .ref (gad Y 0 (52 + kd))), (3, .int a3), (4, .int s)] [] M := by
  intro F s
  refine itr_w (P := fun s => gWW X Y 7 3 [(0, .ref (gad Y c 6)), (1, .int a1), (2, .ref (gad Y 0 (52 + kd))), (3, .int a3), (4, .int s)] [] M) (fun s o hx kI kx => ?_) F s
  obtain ⟨b4, rfl⟩ : ∃ z, z = s := ⟨s, rfl⟩
  have hx : s_X3_allFit_3 M c kd a1 a3 b4 = some o := hx
  have kE : ∀ s : Int32, o = .inr (.inl s) → gWW X Y 7 72 [] [] M := fun s q => kE s (kx _ q).symm
  have kR : ∀ z : Int32, o = .inr (.inr z) → z = r := fun z q => kR z (kx _ q).symm
  have J66 : ∀ (b4 : Int32) , j_X3_allFit_3_66 M c kd a1 a3 b4 = some o → gWW X Y 7 66 [(0, .ref (gad Y c 6)), (1, .int a1), (2, .ref (gad Y 0 (52 + kd))), (3, .int a3), (4, .int b4)] [] M := by
    intro b4 hx
    unfold j_X3_allFit_3_66 at hx
    refine q_iinc hC 4 1 [(4, .int (b4 + 1)), (0, .ref (gad Y c 6)), (1, .int a1), (2, .ref (gad Y 0 (52 + kd))), (3, .int a3)] dX3_allFit_66 rfl rfl (by decide) rfl ?_
    refine q_goto hC 3 dX3_allFit_69 rfl ?_
    exact q_sub [1, 2, 3, 4, 0] rfl (kI (b4 + 1) (Option.some.inj hx).symm)
  have J45 : ∀ (b4 : Int32) (t0 : Int32) , gin b4 6 → j_X3_allFit_3_45 M c kd a1 a3 b4 t0 = some o → gWW X Y 7 45 [(0, .ref (gad Y c 6)), (1, .int a1), (2, .ref (gad Y 0 (52 + kd))), (3, .int a3), (4, .int b4), (5, .ref (gad Y c (8 + (b4).toNatClampNeg)))] [.int t0] M := by
    intro b4 t0 f5 hx
    unfold j_X3_allFit_3_45 at hx
    refine q_istore hC [(6, .int t0), (0, .ref (gad Y c 6)), (1, .int a1), (2, .ref (gad Y 0 (52 + kd))), (3, .int a3), (4, .int b4), (5, .ref (gad Y c (8 + (b4).toNatClampNeg)))] dX3_allFit_45 (by decide) rfl ?_
    refine q_aload hC 6 dX3_allFit_47 rfl ?_
    refine q_iconst hC 0 dX3_allFit_49 rfl ?_
    refine q_ialdk hC 0 4 (gV_hr 6 hc f5 (by decide)) (gl_of (by decide) f5) (by decide) rfl dX3_allFit_50 ?_
    refine q_iload_n hC 2 dX3_allFit_51 rfl rfl ?_
    refine q_ic_ne hC 66 dX3_allFit_52 rfl (fun h4 => ?_) (fun h4 => ?_)
    · have hx := gi_n h4 hx
      exact q_sub [1, 2, 3, 4, 5] rfl (J66 b4 hx)
    · have hx := gi_p h4 hx
      refine q_aload hC 6 dX3_allFit_55 rfl ?_
      refine q_iconst hC 4 dX3_allFit_57 rfl ?_
      refine q_ialdk hC 4 4 (gV_hr 6 hc f5 (by decide)) (gl_of (by decide) f5) (by decide) rfl dX3_allFit_58 ?_
      refine q_iload hC 0 dX3_allFit_59 rfl ?_
      refine q_ic_eq hC 66 dX3_allFit_61 rfl (fun h5 => ?_) (fun h5 => ?_)
      · have hx := gi_p h5 hx
        exact q_sub [1, 2, 3, 4, 5] rfl (J66 b4 hx)
      · have hx := gi_n h5 hx
        refine q_iconst hC 0 dX3_allFit_64 rfl ?_
        exact q_zret hC hF dX3_allFit_65 (Or.inl rfl) (congrArg (fun z => (z, M)) (kR _ (Option.some.inj hx).symm))
  unfold s_X3_allFit_3 at hx
  refine q_iload hC 4 dX3_allFit_3 rfl ?_
  refine q_aload_n hC 0 dX3_allFit_5 rfl rfl ?_
  refine gf_X3_16 hC hc dX3_allFit_6 ?_
  refine q_ic_ge hC 72 dX3_allFit_9 rfl (fun h1 => ?_) (fun h1 => ?_)
  · have hx := gi_p h1 hx
    exact q_sub [] rfl (kE b4 (Option.some.inj hx).symm)
  · have hx := gi_n h1 hx
    refine q_aload_n hC 0 dX3_allFit_12 rfl rfl ?_
    refine gf_X3_13 hC hc dX3_allFit_13 ?_
    refine q_iload hC 4 dX3_allFit_16 rfl ?_
    have g2 := (gd_e hx).1
    have hx := (gd_e hx).2
    refine q_aald (t0 := 4) hC (gV_h hc (by decide)) rfl rfl rfl g2 (grow_i g2) dX3_allFit_18 ?_
    refine q_astore hC [(5, .ref (gad Y c (8 + (b4).toNatClampNeg))), (0, .ref (gad Y c 6)), (1, .int a1), (2, .ref (gad Y 0 (52 + kd))), (3, .int a3), (4, .int b4)] dX3_allFit_19 (by decide) rfl ?_
    refine q_aload hC 0 dX3_allFit_21 rfl ?_
    refine q_iconst hC 2 dX3_allFit_23 rfl ?_
    refine q_ialdk hC 2 4 (gV_hr 6 hc g2 (by decide)) (gl_of (by decide) g2) (by decide) rfl dX3_allFit_24 ?_
    refine q_iload_n hC 4 dX3_allFit_25 rfl rfl ?_
    refine q_ic_ne hC 44 dX3_allFit_26 rfl (fun h3 => ?_) (fun h3 => ?_)
    · have hx := gi_n h3 hx
      refine q_iconst hC 0 dX3_allFit_44 rfl ?_
      exact q_sub [1, 2, 3, 4, 5, 0] rfl (J45 b4 0 g2 hx)
    · have hx := gi_p h3 hx
      refine q_aload_n hC 3 dX3_allFit_29 rfl rfl ?_
      refine q_aload hC 0 dX3_allFit_30 rfl ?_
      refine q_iconst hC 1 dX3_allFit_32 rfl ?_
      refine q_ialdk hC 1 4 (gV_hr 6 hc g2 (by decide)) (gl_of (by decide) g2) (by decide) rfl dX3_allFit_33 ?_
      refine q_aload hC 0 dX3_allFit_34 rfl ?_
      refine q_iconst hC 3 dX3_allFit_36 rfl ?_
      refine q_ialdk hC 3 4 (gV_hr 6 hc g2 (by decide)) (gl_of (by decide) g2) (by decide) rfl dX3_allFit_37 ?_
      obtain ⟨v6, q7, hx⟩ := gb_e hx
      refine q_kip ((q_rKc (As := [.int (M.1 c (8 + (b4).toNatClampNeg) 1), .int (M.1 c (8 + (b4).toNatClampNeg) 3)]) (rest := []) hC wM_X3_30 hkd q7 (Nat.le_of_ble_eq_true rfl) (Nat.le_of_ble_eq_true rfl) rfl rfl (Nat.le_of_ble_eq_true rfl) dX3_allFit_38).choose_spec) ?_
      refine q_goto hC 45 dX3_allFit_41 rfl ?_
      exact q_sub [1, 2, 3, 4, 5, 0] rfl (J45 b4 v6 g2 hx)
set_option maxRecDepth 100000 in
set_option maxHeartbeats 4000000 in
theorem c_X3_allFit {l : Launch} {Y : gY} {M : gMem} {c : Nat} {kd : Nat} {p1 : Int32} {p3 : Int32} {r : Int32} (hc : c < 4) (hkd : kd < 6) (hx : x_X3_allFit M c kd p1 p3 = some r) : Met l yX3_allFit (gws yX3_allFit cX3_allFit 7 (some .boolean)) { frames := 4, cells := 0, slots := 0, locals := 88 } (va_Pc [.ref (gad Y c 6), .int p1, .ref (gad Y 0 (52 + kd)), .int p3] (gS0 Y M)) (gQz Y (r, M)) 0 0 (gA Y) := by
  refine gmet (lv := [(0, .ref (gad Y c 6)), (1, .int p1), (2, .ref (gad Y 0 (52 + kd))), (3, .int p3)]) "GuestStaff$Notes" (by decide) rfl (Nat.le_of_ble_eq_true rfl) rfl (fun X hC hF => ?_)
  unfold x_X3_allFit at hx
  refine q_iconst hC 0 dX3_allFit_0 rfl ?_
  refine q_istore hC [(4, .int 0), (0, .ref (gad Y c 6)), (1, .int p1), (2, .ref (gad Y 0 (52 + kd))), (3, .int p3)] dX3_allFit_1 (by decide) rfl ?_
  obtain ⟨e8, qe8, hx⟩ := gb_e hx
  refine q_sub [1, 2, 3, 4, 0] rfl (w_X3_allFit_3 hC hF hc hkd (e := e8) (fun s9 qs9 => ?_) (fun z10 qz10 => ?_) _ _ qe8)
  · subst qs9
    refine q_iconst hC 1 dX3_allFit_72 rfl ?_
    exact q_zret hC hF dX3_allFit_73 (Or.inr rfl) (congrArg (fun z => (z, M)) (Option.some.inj hx))
  · subst qz10
    exact Option.some.inj hx

theorem dX3_wantsThatFit_0 : decode cX3_wantsThatFit 0 = .ok (.iconst 0, 1) := by decide +kernel
theorem dX3_wantsThatFit_1 : decode cX3_wantsThatFit 1 = .ok (.istore_n 3, 1) := by decide +kernel
theorem dX3_wantsThatFit_2 : decode cX3_wantsThatFit 2 = .ok (.iconst 0, 1) := by decide +kernel
theorem dX3_wantsThatFit_3 : decode cX3_wantsThatFit 3 = .ok (.istore 4, 2) := by decide +kernel
theorem dX3_wantsThatFit_5 : decode cX3_wantsThatFit 5 = .ok (.iload 4, 2) := by decide +kernel
theorem dX3_wantsThatFit_7 : decode cX3_wantsThatFit 7 = .ok (.bipush 8, 2) := by decide +kernel
theorem dX3_wantsThatFit_9 : decode cX3_wantsThatFit 9 = .ok (.if_icmp .ge 27, 3) := by decide +kernel
theorem dX3_wantsThatFit_12 : decode cX3_wantsThatFit 12 = .ok (.aload_n 0, 1) := by decide +kernel
theorem dX3_wantsThatFit_13 : decode cX3_wantsThatFit 13 = .ok (.iload_n 1, 1) := by decide +kernel
theorem dX3_wantsThatFit_14 : decode cX3_wantsThatFit 14 = .ok (.aload_n 2, 1) := by decide +kernel
theorem dX3_wantsThatFit_15 : decode cX3_wantsThatFit 15 = .ok (.iload 4, 2) := by decide +kernel
theorem dX3_wantsThatFit_17 : decode cX3_wantsThatFit 17 = .ok (.invokevirtual 26, 3) := by decide +kernel
theorem dX3_wantsThatFit_20 : decode cX3_wantsThatFit 20 = .ok (.ifCond .eq 10, 3) := by decide +kernel
theorem dX3_wantsThatFit_23 : decode cX3_wantsThatFit 23 = .ok (.iload_n 3, 1) := by decide +kernel
theorem dX3_wantsThatFit_24 : decode cX3_wantsThatFit 24 = .ok (.iconst 1, 1) := by decide +kernel
theorem dX3_wantsThatFit_25 : decode cX3_wantsThatFit 25 = .ok (.iload 4, 2) := by decide +kernel
theorem dX3_wantsThatFit_27 : decode cX3_wantsThatFit 27 = .ok (.ishl, 1) := by decide +kernel
theorem dX3_wantsThatFit_28 : decode cX3_wantsThatFit 28 = .ok (.ior, 1) := by decide +kernel
theorem dX3_wantsThatFit_29 : decode cX3_wantsThatFit 29 = .ok (.istore_n 3, 1) := by decide +kernel
theorem dX3_wantsThatFit_30 : decode cX3_wantsThatFit 30 = .ok (.iinc 4 1, 3) := by decide +kernel
theorem dX3_wantsThatFit_33 : decode cX3_wantsThatFit 33 = .ok (.goto (-28), 3) := by decide +kernel
theorem dX3_wantsThatFit_36 : decode cX3_wantsThatFit 36 = .ok (.iload_n 3, 1) := by decide +kernel
theorem dX3_wantsThatFit_37 : decode cX3_wantsThatFit 37 = .ok (.ireturn, 1) := by decide +kernel
def j_X3_wantsThatFit_5_30 (M : gMem) (c : Nat) (kd : Nat) (a1 : Int32) (b3 : Int32) (b4 : Int32) : Option ((Int32 × Int32) ⊕ (Int32 × Int32)) := some (.inl (b3, b4 + 1))
def s_X3_wantsThatFit_5 (M : gMem) (c : Nat) (kd : Nat) (a1 : Int32) (b3 : Int32) (b4 : Int32) : Option ((Int32 × Int32) ⊕ (Int32 × Int32)) := (if 8 ≤ b4 then some (.inr (b3, b4)) else Option.bind (x_X3_allFit M c kd a1 b4) (fun v2 => (if v2 = 0 then j_X3_wantsThatFit_5_30 M c kd a1 b3 b4 else j_X3_wantsThatFit_5_30 M c kd a1 (b3 ||| (1 <<< (b4 &&& 31))) b4)))
def x_X3_wantsThatFit (M : gMem) (c : Nat) (kd : Nat) (p1 : Int32) : Option Int32 := Option.bind (itr FU (fun s => s_X3_wantsThatFit_5 M c kd p1 s.1 s.2) (0, 0)) (fun e6 => some e6.1)
set_option maxRecDepth 100000 in
set_option maxHeartbeats 4000000 in
theorem w_X3_wantsThatFit_5 {X : gX} {Y : gY} {M : gMem} {c : Nat} {kd : Nat} {a1 : Int32} {r : Int32} (hC : gC X Y cX3_wantsThatFit "GuestStaff$Notes" 5 5 114) (hF : gF X Y (some .int) (gQi Y (r, M))) (hc : c < 4) (hkd : kd < 6) {e : (Int32 × Int32)} (kE : ∀ s : (Int32 × Int32), e = s → gWW X Y 5 36 [(3, .int s.1)] [] M) : ∀ (F : Nat) (s : (Int32 × Int32)), itr F (fun s => s_X3_wantsThatFit_5 M c kd a1 s.1 s.2) s = some e → gWW X Y 5 5 [(0, .ref (gad Y c 6)), (1, .int a1), (2, .ref (gad Y 0 (52 + kd))), (3, .int s.1), (4, .int s.2)] [] M := by
  intro F s
  refine itr_w (P := fun s => gWW X Y 5 5 [(0, .ref (gad Y c 6)), (1, .int a1), (2, .ref (gad Y 0 (52 + kd))), (3, .int s.1), (4, .int s.2)] [] M) (fun s o hx kI kx => ?_) F s
  obtain ⟨b3, b4⟩ := s
  have hx : s_X3_wantsThatFit_5 M c kd a1 b3 b4 = some o := hx
  have kE : ∀ s : (Int32 × Int32), o = .inr s → gWW X Y 5 36 [(3, .int s.1)] [] M := fun s q => kE s (kx _ q).symm
  have J30 : ∀ (b3 : Int32) (b4 : Int32) , j_X3_wantsThatFit_5_30 M c kd a1 b3 b4 = some o → gWW X Y 5 30 [(0, .ref (gad Y c 6)), (1, .int a1), (2, .ref (gad Y 0 (52 + kd))), (3, .int b3), (4, .int b4)] [] M := by
    intro b3 b4 hx
    unfold j_X3_wantsThatFit_5_30 at hx
    refine q_iinc hC 4 1 [(4, .int (b4 + 1)), (0, .ref (gad Y c 6)), (1, .int a1), (2, .ref (gad Y 0 (52 + kd))), (3, .int b3)] dX3_wantsThatFit_30 rfl rfl (by decide) rfl ?_
    refine q_goto hC 5 dX3_wantsThatFit_33 rfl ?_
    exact q_sub [1, 2, 3, 4, 0] rfl (kI (b3, b4 + 1) (Option.some.inj hx).symm)
  unfold s_X3_wantsThatFit_5 at hx
  refine q_iload hC 4 dX3_wantsThatFit_5 rfl ?_
  refine q_bipush hC 8 dX3_wantsThatFit_7 rfl ?_
  refine q_ic_ge hC 36 dX3_wantsThatFit_9 rfl (fun h1 => ?_) (fun h1 => ?_)
  · have hx := gi_p h1 hx
    exact q_sub [3] rfl (kE (b3, b4) (Option.some.inj hx).symm)
  · have hx := gi_n h1 hx
    refine q_aload_n hC 0 dX3_wantsThatFit_12 rfl rfl ?_
    refine q_iload_n hC 1 dX3_wantsThatFit_13 rfl rfl ?_
    refine q_aload_n hC 2 dX3_wantsThatFit_14 rfl rfl ?_
    refine q_iload hC 4 dX3_wantsThatFit_15 rfl ?_
    obtain ⟨v2, q3, hx⟩ := gb_e hx
    refine q_kzp (q_rV (As := [.int a1, .ref (gad Y 0 (52 + kd)), .int b4]) (rest := []) hC mm_X3_allFit wM_X3_26 (c_X3_allFit hc hkd q3) ⟨rfl, rfl, Nat.le_of_ble_eq_true rfl, Nat.le_of_ble_eq_true rfl⟩ (gV_h hc (by decide)) rfl rfl rfl rfl (Nat.le_of_ble_eq_true rfl) dX3_wantsThatFit_17) (fun z4 => ?_)
    refine q_if_eq hC 30 dX3_wantsThatFit_20 rfl (fun h5 => ?_) (fun h5 => ?_)
    · have hx := gi_p h5 hx
      exact q_sub [0, 1, 2, 3, 4] rfl (J30 b3 b4 hx)
    · have hx := gi_n h5 hx
      refine q_iload_n hC 3 dX3_wantsThatFit_23 rfl rfl ?_
      refine q_iconst hC 1 dX3_wantsThatFit_24 rfl ?_
      refine q_iload hC 4 dX3_wantsThatFit_25 rfl ?_
      refine q_ishl hC dX3_wantsThatFit_27 ?_
      refine q_ior hC dX3_wantsThatFit_28 ?_
      refine q_istore_n hC [(3, .int (b3 ||| (1 <<< (b4 &&& 31)))), (0, .ref (gad Y c 6)), (1, .int a1), (2, .ref (gad Y 0 (52 + kd))), (4, .int b4)] dX3_wantsThatFit_29 rfl (by decide) rfl ?_
      exact q_sub [1, 2, 3, 0, 4] rfl (J30 (b3 ||| (1 <<< (b4 &&& 31))) b4 hx)
set_option maxRecDepth 100000 in
set_option maxHeartbeats 4000000 in
theorem c_X3_wantsThatFit {l : Launch} {Y : gY} {M : gMem} {c : Nat} {kd : Nat} {p1 : Int32} {r : Int32} (hc : c < 4) (hkd : kd < 6) (hx : x_X3_wantsThatFit M c kd p1 = some r) : Met l yX3_wantsThatFit (gws yX3_wantsThatFit cX3_wantsThatFit 5 (some .int)) { frames := 5, cells := 0, slots := 0, locals := 114 } (va_Pc [.ref (gad Y c 6), .int p1, .ref (gad Y 0 (52 + kd))] (gS0 Y M)) (gQi Y (r, M)) 0 0 (gA Y) := by
  refine gmet (lv := [(0, .ref (gad Y c 6)), (1, .int p1), (2, .ref (gad Y 0 (52 + kd)))]) "GuestStaff$Notes" (by decide) rfl (Nat.le_of_ble_eq_true rfl) rfl (fun X hC hF => ?_)
  unfold x_X3_wantsThatFit at hx
  refine q_iconst hC 0 dX3_wantsThatFit_0 rfl ?_
  refine q_istore_n hC [(3, .int 0), (0, .ref (gad Y c 6)), (1, .int p1), (2, .ref (gad Y 0 (52 + kd)))] dX3_wantsThatFit_1 rfl (by decide) rfl ?_
  refine q_iconst hC 0 dX3_wantsThatFit_2 rfl ?_
  refine q_istore hC [(4, .int 0), (3, .int 0), (0, .ref (gad Y c 6)), (1, .int p1), (2, .ref (gad Y 0 (52 + kd)))] dX3_wantsThatFit_3 (by decide) rfl ?_
  obtain ⟨e6, qe6, hx⟩ := gb_e hx
  refine q_sub [2, 3, 4, 1, 0] rfl (w_X3_wantsThatFit_5 hC hF hc hkd (e := e6) (fun s q => ?_) _ _ qe6)
  · subst q
    refine q_iload_n hC 0 dX3_wantsThatFit_36 rfl rfl ?_
    exact q_iret hC hF dX3_wantsThatFit_37 (congrArg (fun z => (z, M)) (Option.some.inj hx))

theorem dX1_wantsThatFit_0 : decode cX1_wantsThatFit 0 = .ok (.aload_n 0, 1) := by decide +kernel
theorem dX1_wantsThatFit_1 : decode cX1_wantsThatFit 1 = .ok (.getfield 30, 3) := by decide +kernel
theorem dX1_wantsThatFit_4 : decode cX1_wantsThatFit 4 = .ok (.iload_n 1, 1) := by decide +kernel
theorem dX1_wantsThatFit_5 : decode cX1_wantsThatFit 5 = .ok (.aload_n 0, 1) := by decide +kernel
theorem dX1_wantsThatFit_6 : decode cX1_wantsThatFit 6 = .ok (.getfield 64, 3) := by decide +kernel
theorem dX1_wantsThatFit_9 : decode cX1_wantsThatFit 9 = .ok (.iload_n 2, 1) := by decide +kernel
theorem dX1_wantsThatFit_10 : decode cX1_wantsThatFit 10 = .ok (.aaload, 1) := by decide +kernel
theorem dX1_wantsThatFit_11 : decode cX1_wantsThatFit 11 = .ok (.invokevirtual 118, 3) := by decide +kernel
theorem dX1_wantsThatFit_14 : decode cX1_wantsThatFit 14 = .ok (.ireturn, 1) := by decide +kernel
def x_X1_wantsThatFit (M : gMem) (c : Nat) (p1 : Int32) (p2 : Int32) : Option Int32 := gd (gin p2 6) (Option.bind (x_X3_wantsThatFit M c (p2).toNatClampNeg p1) (fun v2 => some v2))
set_option maxRecDepth 100000 in
set_option maxHeartbeats 4000000 in
theorem c_X1_wantsThatFit {l : Launch} {Y : gY} {M : gMem} {c : Nat} {p1 : Int32} {p2 : Int32} {r : Int32} (hc : c < 4) (hx : x_X1_wantsThatFit M c p1 p2 = some r) : Met l yX1_wantsThatFit (gws yX1_wantsThatFit cX1_wantsThatFit 3 (some .int)) { frames := 6, cells := 0, slots := 0, locals := 138 } (va_Pc [.ref (gad Y c 0), .int p1, .int p2] (gS0 Y M)) (gQi Y (r, M)) 0 0 (gA Y) := by
  refine gmet (lv := [(0, .ref (gad Y c 0)), (1, .int p1), (2, .int p2)]) "GuestStaff$House" (by decide) rfl (Nat.le_of_ble_eq_true rfl) rfl (fun X hC hF => ?_)
  unfold x_X1_wantsThatFit at hx
  refine q_aload_n hC 0 dX1_wantsThatFit_0 rfl rfl ?_
  refine gf_X1_30 hC hc dX1_wantsThatFit_1 ?_
  refine q_iload_n hC 1 dX1_wantsThatFit_4 rfl rfl ?_
  refine q_aload_n hC 0 dX1_wantsThatFit_5 rfl rfl ?_
  refine gf_X1_64 hC hc dX1_wantsThatFit_6 ?_
  refine q_iload_n hC 2 dX1_wantsThatFit_9 rfl rfl ?_
  have g1 := (gd_e hx).1
  have hx := (gd_e hx).2
  refine q_aald (t0 := 2) hC (gV_t (by decide) (by decide)) rfl rfl rfl g1 (grow_i g1) dX1_wantsThatFit_10 ?_
  obtain ⟨v2, q3, hx⟩ := gb_e hx
  refine q_kip (q_rV (As := [.int p1, .ref (gad Y 0 (52 + (p2).toNatClampNeg))]) (rest := []) hC mm_X3_wantsThatFit wM_X1_118 (c_X3_wantsThatFit hc (gin_lt g1) q3) ⟨rfl, rfl, Nat.le_of_ble_eq_true rfl, Nat.le_of_ble_eq_true rfl⟩ (gV_h hc (by decide)) rfl rfl rfl rfl (Nat.le_of_ble_eq_true rfl) dX1_wantsThatFit_11) ?_
  exact q_iret hC hF dX1_wantsThatFit_14 (congrArg (fun z => (z, M)) (Option.some.inj hx))

theorem dX1_addGuestsTo_0 : decode cX1_addGuestsTo 0 = .ok (.lload_n 1, 1) := by decide +kernel
theorem dX1_addGuestsTo_1 : decode cX1_addGuestsTo 1 = .ok (.lstore_n 3, 1) := by decide +kernel
theorem dX1_addGuestsTo_2 : decode cX1_addGuestsTo 2 = .ok (.iconst 0, 1) := by decide +kernel
theorem dX1_addGuestsTo_3 : decode cX1_addGuestsTo 3 = .ok (.istore 5, 2) := by decide +kernel
theorem dX1_addGuestsTo_5 : decode cX1_addGuestsTo 5 = .ok (.iload 5, 2) := by decide +kernel
theorem dX1_addGuestsTo_7 : decode cX1_addGuestsTo 7 = .ok (.aload_n 0, 1) := by decide +kernel
theorem dX1_addGuestsTo_8 : decode cX1_addGuestsTo 8 = .ok (.getfield 55, 3) := by decide +kernel
theorem dX1_addGuestsTo_11 : decode cX1_addGuestsTo 11 = .ok (.if_icmp .ge 84, 3) := by decide +kernel
theorem dX1_addGuestsTo_14 : decode cX1_addGuestsTo 14 = .ok (.ldc2_w 122, 3) := by decide +kernel
theorem dX1_addGuestsTo_17 : decode cX1_addGuestsTo 17 = .ok (.lload_n 3, 1) := by decide +kernel
theorem dX1_addGuestsTo_18 : decode cX1_addGuestsTo 18 = .ok (.lmul, 1) := by decide +kernel
theorem dX1_addGuestsTo_19 : decode cX1_addGuestsTo 19 = .ok (.aload_n 0, 1) := by decide +kernel
theorem dX1_addGuestsTo_20 : decode cX1_addGuestsTo 20 = .ok (.getfield 9, 3) := by decide +kernel
theorem dX1_addGuestsTo_23 : decode cX1_addGuestsTo 23 = .ok (.iload 5, 2) := by decide +kernel
theorem dX1_addGuestsTo_25 : decode cX1_addGuestsTo 25 = .ok (.iaload, 1) := by decide +kernel
theorem dX1_addGuestsTo_26 : decode cX1_addGuestsTo 26 = .ok (.i2l, 1) := by decide +kernel
theorem dX1_addGuestsTo_27 : decode cX1_addGuestsTo 27 = .ok (.ladd, 1) := by decide +kernel
theorem dX1_addGuestsTo_28 : decode cX1_addGuestsTo 28 = .ok (.lstore_n 3, 1) := by decide +kernel
theorem dX1_addGuestsTo_29 : decode cX1_addGuestsTo 29 = .ok (.ldc2_w 122, 3) := by decide +kernel
theorem dX1_addGuestsTo_32 : decode cX1_addGuestsTo 32 = .ok (.lload_n 3, 1) := by decide +kernel
theorem dX1_addGuestsTo_33 : decode cX1_addGuestsTo 33 = .ok (.lmul, 1) := by decide +kernel
theorem dX1_addGuestsTo_34 : decode cX1_addGuestsTo 34 = .ok (.aload_n 0, 1) := by decide +kernel
theorem dX1_addGuestsTo_35 : decode cX1_addGuestsTo 35 = .ok (.getfield 15, 3) := by decide +kernel
theorem dX1_addGuestsTo_38 : decode cX1_addGuestsTo 38 = .ok (.iload 5, 2) := by decide +kernel
theorem dX1_addGuestsTo_40 : decode cX1_addGuestsTo 40 = .ok (.iaload, 1) := by decide +kernel
theorem dX1_addGuestsTo_41 : decode cX1_addGuestsTo 41 = .ok (.i2l, 1) := by decide +kernel
theorem dX1_addGuestsTo_42 : decode cX1_addGuestsTo 42 = .ok (.ladd, 1) := by decide +kernel
theorem dX1_addGuestsTo_43 : decode cX1_addGuestsTo 43 = .ok (.lstore_n 3, 1) := by decide +kernel
theorem dX1_addGuestsTo_44 : decode cX1_addGuestsTo 44 = .ok (.ldc2_w 122, 3) := by decide +kernel
theorem dX1_addGuestsTo_47 : decode cX1_addGuestsTo 47 = .ok (.lload_n 3, 1) := by decide +kernel
theorem dX1_addGuestsTo_48 : decode cX1_addGuestsTo 48 = .ok (.lmul, 1) := by decide +kernel
theorem dX1_addGuestsTo_49 : decode cX1_addGuestsTo 49 = .ok (.aload_n 0, 1) := by decide +kernel
theorem dX1_addGuestsTo_50 : decode cX1_addGuestsTo 50 = .ok (.getfield 18, 3) := by decide +kernel
theorem dX1_addGuestsTo_53 : decode cX1_addGuestsTo 53 = .ok (.iload 5, 2) := by decide +kernel
theorem dX1_addGuestsTo_55 : decode cX1_addGuestsTo 55 = .ok (.iaload, 1) := by decide +kernel
theorem dX1_addGuestsTo_56 : decode cX1_addGuestsTo 56 = .ok (.i2l, 1) := by decide +kernel
theorem dX1_addGuestsTo_57 : decode cX1_addGuestsTo 57 = .ok (.ladd, 1) := by decide +kernel
theorem dX1_addGuestsTo_58 : decode cX1_addGuestsTo 58 = .ok (.lstore_n 3, 1) := by decide +kernel
theorem dX1_addGuestsTo_59 : decode cX1_addGuestsTo 59 = .ok (.ldc2_w 122, 3) := by decide +kernel
theorem dX1_addGuestsTo_62 : decode cX1_addGuestsTo 62 = .ok (.lload_n 3, 1) := by decide +kernel
theorem dX1_addGuestsTo_63 : decode cX1_addGuestsTo 63 = .ok (.lmul, 1) := by decide +kernel
theorem dX1_addGuestsTo_64 : decode cX1_addGuestsTo 64 = .ok (.aload_n 0, 1) := by decide +kernel
theorem dX1_addGuestsTo_65 : decode cX1_addGuestsTo 65 = .ok (.getfield 21, 3) := by decide +kernel
theorem dX1_addGuestsTo_68 : decode cX1_addGuestsTo 68 = .ok (.iload 5, 2) := by decide +kernel
theorem dX1_addGuestsTo_70 : decode cX1_addGuestsTo 70 = .ok (.iaload, 1) := by decide +kernel
theorem dX1_addGuestsTo_71 : decode cX1_addGuestsTo 71 = .ok (.i2l, 1) := by decide +kernel
theorem dX1_addGuestsTo_72 : decode cX1_addGuestsTo 72 = .ok (.ladd, 1) := by decide +kernel
theorem dX1_addGuestsTo_73 : decode cX1_addGuestsTo 73 = .ok (.lstore_n 3, 1) := by decide +kernel
theorem dX1_addGuestsTo_74 : decode cX1_addGuestsTo 74 = .ok (.ldc2_w 122, 3) := by decide +kernel
theorem dX1_addGuestsTo_77 : decode cX1_addGuestsTo 77 = .ok (.lload_n 3, 1) := by decide +kernel
theorem dX1_addGuestsTo_78 : decode cX1_addGuestsTo 78 = .ok (.lmul, 1) := by decide +kernel
theorem dX1_addGuestsTo_79 : decode cX1_addGuestsTo 79 = .ok (.aload_n 0, 1) := by decide +kernel
theorem dX1_addGuestsTo_80 : decode cX1_addGuestsTo 80 = .ok (.getfield 24, 3) := by decide +kernel
theorem dX1_addGuestsTo_83 : decode cX1_addGuestsTo 83 = .ok (.iload 5, 2) := by decide +kernel
theorem dX1_addGuestsTo_85 : decode cX1_addGuestsTo 85 = .ok (.iaload, 1) := by decide +kernel
theorem dX1_addGuestsTo_86 : decode cX1_addGuestsTo 86 = .ok (.i2l, 1) := by decide +kernel
theorem dX1_addGuestsTo_87 : decode cX1_addGuestsTo 87 = .ok (.ladd, 1) := by decide +kernel
theorem dX1_addGuestsTo_88 : decode cX1_addGuestsTo 88 = .ok (.lstore_n 3, 1) := by decide +kernel
theorem dX1_addGuestsTo_89 : decode cX1_addGuestsTo 89 = .ok (.iinc 5 1, 3) := by decide +kernel
theorem dX1_addGuestsTo_92 : decode cX1_addGuestsTo 92 = .ok (.goto (-87), 3) := by decide +kernel
theorem dX1_addGuestsTo_95 : decode cX1_addGuestsTo 95 = .ok (.lload_n 3, 1) := by decide +kernel
theorem dX1_addGuestsTo_96 : decode cX1_addGuestsTo 96 = .ok (.lreturn, 1) := by decide +kernel
def s_X1_addGuestsTo_5 (M : gMem) (c : Nat) (b3 : Int64) (b5 : Int32) : Option ((Int64 × Int32) ⊕ (Int64 × Int32)) := (if (M.1 c 0 13) ≤ b5 then some (.inr (b3, b5)) else gd (gin b5 7) (gd (gin b5 7) (gd (gin b5 7) (gd (gin b5 7) (gd (gin b5 7) (some (.inl ((31 * ((31 * ((31 * ((31 * ((31 * b3) + (Int32.toInt64 (M.1 c 1 (b5).toNatClampNeg)))) + (Int32.toInt64 (M.1 c 2 (b5).toNatClampNeg)))) + (Int32.toInt64 (M.1 c 3 (b5).toNatClampNeg)))) + (Int32.toInt64 (M.1 c 4 (b5).toNatClampNeg)))) + (Int32.toInt64 (M.1 c 5 (b5).toNatClampNeg)), b5 + 1))))))))
def x_X1_addGuestsTo (M : gMem) (c : Nat) (p1 : Int64) : Option Int64 := Option.bind (itr FU (fun s => s_X1_addGuestsTo_5 M c s.1 s.2) (p1, 0)) (fun e7 => some e7.1)
set_option maxRecDepth 100000 in
set_option maxHeartbeats 4000000 in
theorem w_X1_addGuestsTo_5 {X : gX} {Y : gY} {M : gMem} {c : Nat} {r : Int64} (hC : gC X Y cX1_addGuestsTo "GuestStaff$House" 6 0 0) (hF : gF X Y (some .long) (gQl Y (r, M))) (hc : c < 4) {e : (Int64 × Int32)} (kE : ∀ s : (Int64 × Int32), e = s → gWW X Y 6 95 [(3, .long s.1)] [] M) : ∀ (F : Nat) (s : (Int64 × Int32)), itr F (fun s => s_X1_addGuestsTo_5 M c s.1 s.2) s = some e → gWW X Y 6 5 [(0, .ref (gad Y c 0)), (3, .long s.1), (5, .int s.2)] [] M := by
  intro F s
  refine itr_w (P := fun s => gWW X Y 6 5 [(0, .ref (gad Y c 0)), (3, .long s.1), (5, .int s.2)] [] M) (fun s o hx kI kx => ?_) F s
  obtain ⟨b3, b5⟩ := s
  have hx : s_X1_addGuestsTo_5 M c b3 b5 = some o := hx
  have kE : ∀ s : (Int64 × Int32), o = .inr s → gWW X Y 6 95 [(3, .long s.1)] [] M := fun s q => kE s (kx _ q).symm
  unfold s_X1_addGuestsTo_5 at hx
  refine q_iload hC 2 dX1_addGuestsTo_5 rfl ?_
  refine q_aload_n hC 0 dX1_addGuestsTo_7 rfl rfl ?_
  refine gf_X1_55 hC hc dX1_addGuestsTo_8 ?_
  refine q_ic_ge hC 95 dX1_addGuestsTo_11 rfl (fun h1 => ?_) (fun h1 => ?_)
  · have hx := gi_p h1 hx
    exact q_sub [1] rfl (kE (b3, b5) (Option.some.inj hx).symm)
  · have hx := gi_n h1 hx
    refine q_ldc2 hC 31 dX1_addGuestsTo_14 wC_X1_122 ?_
    refine q_lload_n hC 1 dX1_addGuestsTo_17 rfl rfl ?_
    refine q_lmul hC dX1_addGuestsTo_18 ?_
    refine q_aload_n hC 0 dX1_addGuestsTo_19 rfl rfl ?_
    refine gf_X1_9 hC hc dX1_addGuestsTo_20 ?_
    refine q_iload hC 2 dX1_addGuestsTo_23 rfl ?_
    have g2 := (gd_e hx).1
    have hx := (gd_e hx).2
    refine q_iald hC 6 (gV_h hc (by decide)) rfl g2 dX1_addGuestsTo_25 ?_
    refine q_i2l hC dX1_addGuestsTo_26 ?_
    refine q_ladd hC dX1_addGuestsTo_27 ?_
    refine q_lstore_n hC [(3, .long ((31 * b3) + (Int32.toInt64 (M.1 c 1 (b5).toNatClampNeg)))), (0, .ref (gad Y c 0)), (5, .int b5)] dX1_addGuestsTo_28 rfl (by decide) rfl ?_
    refine q_ldc2 hC 31 dX1_addGuestsTo_29 wC_X1_122 ?_
    refine q_lload_n hC 0 dX1_addGuestsTo_32 rfl rfl ?_
    refine q_lmul hC dX1_addGuestsTo_33 ?_
    refine q_aload_n hC 1 dX1_addGuestsTo_34 rfl rfl ?_
    refine gf_X1_15 hC hc dX1_addGuestsTo_35 ?_
    refine q_iload hC 2 dX1_addGuestsTo_38 rfl ?_
    have g3 := (gd_e hx).1
    have hx := (gd_e hx).2
    refine q_iald hC 6 (gV_h hc (by decide)) rfl g3 dX1_addGuestsTo_40 ?_
    refine q_i2l hC dX1_addGuestsTo_41 ?_
    refine q_ladd hC dX1_addGuestsTo_42 ?_
    refine q_lstore_n hC [(3, .long ((31 * ((31 * b3) + (Int32.toInt64 (M.1 c 1 (b5).toNatClampNeg)))) + (Int32.toInt64 (M.1 c 2 (b5).toNatClampNeg)))), (0, .ref (gad Y c 0)), (5, .int b5)] dX1_addGuestsTo_43 rfl (by decide) rfl ?_
    refine q_ldc2 hC 31 dX1_addGuestsTo_44 wC_X1_122 ?_
    refine q_lload_n hC 0 dX1_addGuestsTo_47 rfl rfl ?_
    refine q_lmul hC dX1_addGuestsTo_48 ?_
    refine q_aload_n hC 1 dX1_addGuestsTo_49 rfl rfl ?_
    refine gf_X1_18 hC hc dX1_addGuestsTo_50 ?_
    refine q_iload hC 2 dX1_addGuestsTo_53 rfl ?_
    have g4 := (gd_e hx).1
    have hx := (gd_e hx).2
    refine q_iald hC 6 (gV_h hc (by decide)) rfl g4 dX1_addGuestsTo_55 ?_
    refine q_i2l hC dX1_addGuestsTo_56 ?_
    refine q_ladd hC dX1_addGuestsTo_57 ?_
    refine q_lstore_n hC [(3, .long ((31 * ((31 * ((31 * b3) + (Int32.toInt64 (M.1 c 1 (b5).toNatClampNeg)))) + (Int32.toInt64 (M.1 c 2 (b5).toNatClampNeg)))) + (Int32.toInt64 (M.1 c 3 (b5).toNatClampNeg)))), (0, .ref (gad Y c 0)), (5, .int b5)] dX1_addGuestsTo_58 rfl (by decide) rfl ?_
    refine q_ldc2 hC 31 dX1_addGuestsTo_59 wC_X1_122 ?_
    refine q_lload_n hC 0 dX1_addGuestsTo_62 rfl rfl ?_
    refine q_lmul hC dX1_addGuestsTo_63 ?_
    refine q_aload_n hC 1 dX1_addGuestsTo_64 rfl rfl ?_
    refine gf_X1_21 hC hc dX1_addGuestsTo_65 ?_
    refine q_iload hC 2 dX1_addGuestsTo_68 rfl ?_
    have g5 := (gd_e hx).1
    have hx := (gd_e hx).2
    refine q_iald hC 6 (gV_h hc (by decide)) rfl g5 dX1_addGuestsTo_70 ?_
    refine q_i2l hC dX1_addGuestsTo_71 ?_
    refine q_ladd hC dX1_addGuestsTo_72 ?_
    refine q_lstore_n hC [(3, .long ((31 * ((31 * ((31 * ((31 * b3) + (Int32.toInt64 (M.1 c 1 (b5).toNatClampNeg)))) + (Int32.toInt64 (M.1 c 2 (b5).toNatClampNeg)))) + (Int32.toInt64 (M.1 c 3 (b5).toNatClampNeg)))) + (Int32.toInt64 (M.1 c 4 (b5).toNatClampNeg)))), (0, .ref (gad Y c 0)), (5, .int b5)] dX1_addGuestsTo_73 rfl (by decide) rfl ?_
    refine q_ldc2 hC 31 dX1_addGuestsTo_74 wC_X1_122 ?_
    refine q_lload_n hC 0 dX1_addGuestsTo_77 rfl rfl ?_
    refine q_lmul hC dX1_addGuestsTo_78 ?_
    refine q_aload_n hC 1 dX1_addGuestsTo_79 rfl rfl ?_
    refine gf_X1_24 hC hc dX1_addGuestsTo_80 ?_
    refine q_iload hC 2 dX1_addGuestsTo_83 rfl ?_
    have g6 := (gd_e hx).1
    have hx := (gd_e hx).2
    refine q_iald hC 6 (gV_h hc (by decide)) rfl g6 dX1_addGuestsTo_85 ?_
    refine q_i2l hC dX1_addGuestsTo_86 ?_
    refine q_ladd hC dX1_addGuestsTo_87 ?_
    refine q_lstore_n hC [(3, .long ((31 * ((31 * ((31 * ((31 * ((31 * b3) + (Int32.toInt64 (M.1 c 1 (b5).toNatClampNeg)))) + (Int32.toInt64 (M.1 c 2 (b5).toNatClampNeg)))) + (Int32.toInt64 (M.1 c 3 (b5).toNatClampNeg)))) + (Int32.toInt64 (M.1 c 4 (b5).toNatClampNeg)))) + (Int32.toInt64 (M.1 c 5 (b5).toNatClampNeg)))), (0, .ref (gad Y c 0)), (5, .int b5)] dX1_addGuestsTo_88 rfl (by decide) rfl ?_
    refine q_iinc hC 2 1 [(5, .int (b5 + 1)), (3, .long ((31 * ((31 * ((31 * ((31 * ((31 * b3) + (Int32.toInt64 (M.1 c 1 (b5).toNatClampNeg)))) + (Int32.toInt64 (M.1 c 2 (b5).toNatClampNeg)))) + (Int32.toInt64 (M.1 c 3 (b5).toNatClampNeg)))) + (Int32.toInt64 (M.1 c 4 (b5).toNatClampNeg)))) + (Int32.toInt64 (M.1 c 5 (b5).toNatClampNeg)))), (0, .ref (gad Y c 0))] dX1_addGuestsTo_89 rfl rfl (by decide) rfl ?_
    refine q_goto hC 5 dX1_addGuestsTo_92 rfl ?_
    exact q_sub [2, 1, 0] rfl (kI ((31 * ((31 * ((31 * ((31 * ((31 * b3) + (Int32.toInt64 (M.1 c 1 (b5).toNatClampNeg)))) + (Int32.toInt64 (M.1 c 2 (b5).toNatClampNeg)))) + (Int32.toInt64 (M.1 c 3 (b5).toNatClampNeg)))) + (Int32.toInt64 (M.1 c 4 (b5).toNatClampNeg)))) + (Int32.toInt64 (M.1 c 5 (b5).toNatClampNeg)), b5 + 1) (Option.some.inj hx).symm)
set_option maxRecDepth 100000 in
set_option maxHeartbeats 4000000 in
theorem c_X1_addGuestsTo {l : Launch} {Y : gY} {M : gMem} {c : Nat} {p1 : Int64} {r : Int64} (hc : c < 4) (hx : x_X1_addGuestsTo M c p1 = some r) : Met l yX1_addGuestsTo (gws yX1_addGuestsTo cX1_addGuestsTo 6 (some .long)) { frames := 0, cells := 0, slots := 0, locals := 0 } (va_Pc [.ref (gad Y c 0), .long p1] (gS0 Y M)) (gQl Y (r, M)) 0 0 (gA Y) := by
  refine gmet (lv := [(0, .ref (gad Y c 0)), (1, .long p1)]) "GuestStaff$House" (by decide) rfl (Nat.le_of_ble_eq_true rfl) rfl (fun X hC hF => ?_)
  unfold x_X1_addGuestsTo at hx
  refine q_lload_n hC 1 dX1_addGuestsTo_0 rfl rfl ?_
  refine q_lstore_n hC [(3, .long p1), (0, .ref (gad Y c 0)), (1, .long p1)] dX1_addGuestsTo_1 rfl (by decide) rfl ?_
  refine q_iconst hC 0 dX1_addGuestsTo_2 rfl ?_
  refine q_istore hC [(5, .int 0), (3, .long p1), (0, .ref (gad Y c 0)), (1, .long p1)] dX1_addGuestsTo_3 (by decide) rfl ?_
  obtain ⟨e7, qe7, hx⟩ := gb_e hx
  refine q_sub [2, 1, 0] rfl (w_X1_addGuestsTo_5 hC hF hc (e := e7) (fun s q => ?_) _ _ qe7)
  · subst q
    refine q_lload_n hC 0 dX1_addGuestsTo_95 rfl rfl ?_
    exact q_lret hC hF dX1_addGuestsTo_96 (congrArg (fun z => (z, M)) (Option.some.inj hx))

theorem dX3_add_0 : decode cX3_add 0 = .ok (.aload_n 0, 1) := by decide +kernel
theorem dX3_add_1 : decode cX3_add 1 = .ok (.getfield 13, 3) := by decide +kernel
theorem dX3_add_4 : decode cX3_add 4 = .ok (.aload_n 0, 1) := by decide +kernel
theorem dX3_add_5 : decode cX3_add 5 = .ok (.getfield 16, 3) := by decide +kernel
theorem dX3_add_8 : decode cX3_add 8 = .ok (.aaload, 1) := by decide +kernel
theorem dX3_add_9 : decode cX3_add 9 = .ok (.astore 6, 2) := by decide +kernel
theorem dX3_add_11 : decode cX3_add 11 = .ok (.aload 6, 2) := by decide +kernel
theorem dX3_add_13 : decode cX3_add 13 = .ok (.iconst 0, 1) := by decide +kernel
theorem dX3_add_14 : decode cX3_add 14 = .ok (.iload_n 1, 1) := by decide +kernel
theorem dX3_add_15 : decode cX3_add 15 = .ok (.iastore, 1) := by decide +kernel
theorem dX3_add_16 : decode cX3_add 16 = .ok (.aload 6, 2) := by decide +kernel
theorem dX3_add_18 : decode cX3_add 18 = .ok (.iconst 1, 1) := by decide +kernel
theorem dX3_add_19 : decode cX3_add 19 = .ok (.iload_n 2, 1) := by decide +kernel
theorem dX3_add_20 : decode cX3_add 20 = .ok (.iastore, 1) := by decide +kernel
theorem dX3_add_21 : decode cX3_add 21 = .ok (.aload 6, 2) := by decide +kernel
theorem dX3_add_23 : decode cX3_add 23 = .ok (.iconst 2, 1) := by decide +kernel
theorem dX3_add_24 : decode cX3_add 24 = .ok (.iload_n 3, 1) := by decide +kernel
theorem dX3_add_25 : decode cX3_add 25 = .ok (.iastore, 1) := by decide +kernel
theorem dX3_add_26 : decode cX3_add 26 = .ok (.aload 6, 2) := by decide +kernel
theorem dX3_add_28 : decode cX3_add 28 = .ok (.iconst 3, 1) := by decide +kernel
theorem dX3_add_29 : decode cX3_add 29 = .ok (.iload 4, 2) := by decide +kernel
theorem dX3_add_31 : decode cX3_add 31 = .ok (.iastore, 1) := by decide +kernel
theorem dX3_add_32 : decode cX3_add 32 = .ok (.aload 6, 2) := by decide +kernel
theorem dX3_add_34 : decode cX3_add 34 = .ok (.iconst 4, 1) := by decide +kernel
theorem dX3_add_35 : decode cX3_add 35 = .ok (.iload 5, 2) := by decide +kernel
theorem dX3_add_37 : decode cX3_add 37 = .ok (.iastore, 1) := by decide +kernel
theorem dX3_add_38 : decode cX3_add 38 = .ok (.aload_n 0, 1) := by decide +kernel
theorem dX3_add_39 : decode cX3_add 39 = .ok (.dup, 1) := by decide +kernel
theorem dX3_add_40 : decode cX3_add 40 = .ok (.getfield 16, 3) := by decide +kernel
theorem dX3_add_43 : decode cX3_add 43 = .ok (.iconst 1, 1) := by decide +kernel
theorem dX3_add_44 : decode cX3_add 44 = .ok (.iadd, 1) := by decide +kernel
theorem dX3_add_45 : decode cX3_add 45 = .ok (.putfield 16, 3) := by decide +kernel
theorem dX3_add_48 : decode cX3_add 48 = .ok (.aload_n 0, 1) := by decide +kernel
theorem dX3_add_49 : decode cX3_add 49 = .ok (.getfield 16, 3) := by decide +kernel
theorem dX3_add_52 : decode cX3_add 52 = .ok (.ireturn, 1) := by decide +kernel
def x_X3_add (M : gMem) (c : Nat) (p1 : Int32) (p2 : Int32) (p3 : Int32) (p4 : Int32) (p5 : Int32) : Option (Int32 × gMem) := gd (gin (M.1 c 6 1) 6) (some ((gwr (gwr (gwr (gwr (gwr (gwr M c (8 + (M.1 c 6 1).toNatClampNeg) 0 p1) c (8 + (M.1 c 6 1).toNatClampNeg) 1 p2) c (8 + (M.1 c 6 1).toNatClampNeg) 2 p3) c (8 + (M.1 c 6 1).toNatClampNeg) 3 p4) c (8 + (M.1 c 6 1).toNatClampNeg) 4 p5) c 6 1 (((gwr (gwr (gwr (gwr (gwr M c (8 + (M.1 c 6 1).toNatClampNeg) 0 p1) c (8 + (M.1 c 6 1).toNatClampNeg) 1 p2) c (8 + (M.1 c 6 1).toNatClampNeg) 2 p3) c (8 + (M.1 c 6 1).toNatClampNeg) 3 p4) c (8 + (M.1 c 6 1).toNatClampNeg) 4 p5).1 c 6 1) + 1)).1 c 6 1, gwr (gwr (gwr (gwr (gwr (gwr M c (8 + (M.1 c 6 1).toNatClampNeg) 0 p1) c (8 + (M.1 c 6 1).toNatClampNeg) 1 p2) c (8 + (M.1 c 6 1).toNatClampNeg) 2 p3) c (8 + (M.1 c 6 1).toNatClampNeg) 3 p4) c (8 + (M.1 c 6 1).toNatClampNeg) 4 p5) c 6 1 (((gwr (gwr (gwr (gwr (gwr M c (8 + (M.1 c 6 1).toNatClampNeg) 0 p1) c (8 + (M.1 c 6 1).toNatClampNeg) 1 p2) c (8 + (M.1 c 6 1).toNatClampNeg) 2 p3) c (8 + (M.1 c 6 1).toNatClampNeg) 3 p4) c (8 + (M.1 c 6 1).toNatClampNeg) 4 p5).1 c 6 1) + 1)))
set_option maxRecDepth 100000 in
set_option maxHeartbeats 4000000 in
theorem c_X3_add {l : Launch} {Y : gY} {M : gMem} {c : Nat} {p1 : Int32} {p2 : Int32} {p3 : Int32} {p4 : Int32} {p5 : Int32} {r : (Int32 × gMem)} (hc : c < 4) (hx : x_X3_add M c p1 p2 p3 p4 p5 = some r) : Met l yX3_add (gws yX3_add cX3_add 7 (some .int)) { frames := 0, cells := 0, slots := 0, locals := 0 } (va_Pc [.ref (gad Y c 6), .int p1, .int p2, .int p3, .int p4, .int p5] (gS0 Y M)) (gQi Y r) 0 0 (gA Y) := by
  refine gmet (lv := [(0, .ref (gad Y c 6)), (1, .int p1), (2, .int p2), (3, .int p3), (4, .int p4), (5, .int p5)]) "GuestStaff$Notes" (by decide) rfl (Nat.le_of_ble_eq_true rfl) rfl (fun X hC hF => ?_)
  unfold x_X3_add at hx
  refine q_aload_n hC 0 dX3_add_0 rfl rfl ?_
  refine gf_X3_13 hC hc dX3_add_1 ?_
  refine q_aload_n hC 0 dX3_add_4 rfl rfl ?_
  refine gf_X3_16 hC hc dX3_add_5 ?_
  have g1 := (gd_e hx).1
  have hx := (gd_e hx).2
  refine q_aald (t0 := 4) hC (gV_h hc (by decide)) rfl rfl rfl g1 (grow_i g1) dX3_add_8 ?_
  refine q_astore hC [(6, .ref (gad Y c (8 + (M.1 c 6 1).toNatClampNeg))), (0, .ref (gad Y c 6)), (1, .int p1), (2, .int p2), (3, .int p3), (4, .int p4), (5, .int p5)] dX3_add_9 (by decide) rfl ?_
  refine q_aload hC 0 dX3_add_11 rfl ?_
  refine q_iconst hC 0 dX3_add_13 rfl ?_
  refine q_iload_n hC 2 dX3_add_14 rfl rfl ?_
  refine q_iastk hC 0 4 (gV_hr 6 hc g1 (by decide)) (gl_of (by decide) g1) (by decide) rfl dX3_add_15 ?_
  refine q_aload hC 0 dX3_add_16 rfl ?_
  refine q_iconst hC 1 dX3_add_18 rfl ?_
  refine q_iload_n hC 3 dX3_add_19 rfl rfl ?_
  refine q_iastk hC 1 4 (gV_hr 6 hc g1 (by decide)) (gl_of (by decide) g1) (by decide) rfl dX3_add_20 ?_
  refine q_aload hC 0 dX3_add_21 rfl ?_
  refine q_iconst hC 2 dX3_add_23 rfl ?_
  refine q_iload_n hC 4 dX3_add_24 rfl rfl ?_
  refine q_iastk hC 2 4 (gV_hr 6 hc g1 (by decide)) (gl_of (by decide) g1) (by decide) rfl dX3_add_25 ?_
  refine q_aload hC 0 dX3_add_26 rfl ?_
  refine q_iconst hC 3 dX3_add_28 rfl ?_
  refine q_iload hC 5 dX3_add_29 rfl ?_
  refine q_iastk hC 3 4 (gV_hr 6 hc g1 (by decide)) (gl_of (by decide) g1) (by decide) rfl dX3_add_31 ?_
  refine q_aload hC 0 dX3_add_32 rfl ?_
  refine q_iconst hC 4 dX3_add_34 rfl ?_
  refine q_iload hC 6 dX3_add_35 rfl ?_
  refine q_iastk hC 4 4 (gV_hr 6 hc g1 (by decide)) (gl_of (by decide) g1) (by decide) rfl dX3_add_37 ?_
  refine q_aload_n hC 1 dX3_add_38 rfl rfl ?_
  refine q_dup hC dX3_add_39 rfl ?_
  refine gf_X3_16 hC hc dX3_add_40 ?_
  refine q_iconst hC 1 dX3_add_43 rfl ?_
  refine q_iadd hC dX3_add_44 ?_
  refine pf_X3_16 hC hc dX3_add_45 ?_
  refine q_aload_n hC 1 dX3_add_48 rfl rfl ?_
  refine gf_X3_16 hC hc dX3_add_49 ?_
  exact q_iret hC hF dX3_add_52 (Option.some.inj hx)

theorem dX3_addTo_0 : decode cX3_addTo 0 = .ok (.lload_n 1, 1) := by decide +kernel
theorem dX3_addTo_1 : decode cX3_addTo 1 = .ok (.lstore_n 3, 1) := by decide +kernel
theorem dX3_addTo_2 : decode cX3_addTo 2 = .ok (.iconst 0, 1) := by decide +kernel
theorem dX3_addTo_3 : decode cX3_addTo 3 = .ok (.istore 5, 2) := by decide +kernel
theorem dX3_addTo_5 : decode cX3_addTo 5 = .ok (.iload 5, 2) := by decide +kernel
theorem dX3_addTo_7 : decode cX3_addTo 7 = .ok (.aload_n 0, 1) := by decide +kernel
theorem dX3_addTo_8 : decode cX3_addTo 8 = .ok (.getfield 16, 3) := by decide +kernel
theorem dX3_addTo_11 : decode cX3_addTo 11 = .ok (.if_icmp .ge 42, 3) := by decide +kernel
theorem dX3_addTo_14 : decode cX3_addTo 14 = .ok (.iconst 0, 1) := by decide +kernel
theorem dX3_addTo_15 : decode cX3_addTo 15 = .ok (.istore 6, 2) := by decide +kernel
theorem dX3_addTo_17 : decode cX3_addTo 17 = .ok (.iload 6, 2) := by decide +kernel
theorem dX3_addTo_19 : decode cX3_addTo 19 = .ok (.iconst 5, 1) := by decide +kernel
theorem dX3_addTo_20 : decode cX3_addTo 20 = .ok (.if_icmp .ge 27, 3) := by decide +kernel
theorem dX3_addTo_23 : decode cX3_addTo 23 = .ok (.ldc2_w 36, 3) := by decide +kernel
theorem dX3_addTo_26 : decode cX3_addTo 26 = .ok (.lload_n 3, 1) := by decide +kernel
theorem dX3_addTo_27 : decode cX3_addTo 27 = .ok (.lmul, 1) := by decide +kernel
theorem dX3_addTo_28 : decode cX3_addTo 28 = .ok (.aload_n 0, 1) := by decide +kernel
theorem dX3_addTo_29 : decode cX3_addTo 29 = .ok (.getfield 13, 3) := by decide +kernel
theorem dX3_addTo_32 : decode cX3_addTo 32 = .ok (.iload 5, 2) := by decide +kernel
theorem dX3_addTo_34 : decode cX3_addTo 34 = .ok (.aaload, 1) := by decide +kernel
theorem dX3_addTo_35 : decode cX3_addTo 35 = .ok (.iload 6, 2) := by decide +kernel
theorem dX3_addTo_37 : decode cX3_addTo 37 = .ok (.iaload, 1) := by decide +kernel
theorem dX3_addTo_38 : decode cX3_addTo 38 = .ok (.i2l, 1) := by decide +kernel
theorem dX3_addTo_39 : decode cX3_addTo 39 = .ok (.ladd, 1) := by decide +kernel
theorem dX3_addTo_40 : decode cX3_addTo 40 = .ok (.lstore_n 3, 1) := by decide +kernel
theorem dX3_addTo_41 : decode cX3_addTo 41 = .ok (.iinc 6 1, 3) := by decide +kernel
theorem dX3_addTo_44 : decode cX3_addTo 44 = .ok (.goto (-27), 3) := by decide +kernel
theorem dX3_addTo_47 : decode cX3_addTo 47 = .ok (.iinc 5 1, 3) := by decide +kernel
theorem dX3_addTo_50 : decode cX3_addTo 50 = .ok (.goto (-45), 3) := by decide +kernel
theorem dX3_addTo_53 : decode cX3_addTo 53 = .ok (.lload_n 3, 1) := by decide +kernel
theorem dX3_addTo_54 : decode cX3_addTo 54 = .ok (.lreturn, 1) := by decide +kernel
def s_X3_addTo_17 (M : gMem) (c : Nat) (a5 : Int32) (b3 : Int64) (b6 : Int32) : Option ((Int64 × Int32) ⊕ (Int64 × Int32)) := (if 5 ≤ b6 then some (.inr (b3, b6)) else gd (gin a5 6) (gd (gin b6 5) (some (.inl ((31 * b3) + (Int32.toInt64 (M.1 c (8 + (a5).toNatClampNeg) (b6).toNatClampNeg)), b6 + 1)))))
def s_X3_addTo_5 (M : gMem) (c : Nat) (b3 : Int64) (b5 : Int32) : Option ((Int64 × Int32) ⊕ (Int64 × Int32)) := (if (M.1 c 6 1) ≤ b5 then some (.inr (b3, b5)) else Option.bind (itr FU (fun s => s_X3_addTo_17 M c b5 s.1 s.2) (b3, 0)) (fun e5 => some (.inl (e5.1, b5 + 1))))
def x_X3_addTo (M : gMem) (c : Nat) (p1 : Int64) : Option Int64 := Option.bind (itr FU (fun s => s_X3_addTo_5 M c s.1 s.2) (p1, 0)) (fun e6 => some e6.1)
set_option maxRecDepth 100000 in
set_option maxHeartbeats 4000000 in
theorem w_X3_addTo_17 {X : gX} {Y : gY} {M : gMem} {c : Nat} {a5 : Int32} {r : Int64} (hC : gC X Y cX3_addTo "GuestStaff$Notes" 7 0 0) (hF : gF X Y (some .long) (gQl Y (r, M))) (hc : c < 4) {e : (Int64 × Int32)} (kE : ∀ s : (Int64 × Int32), e = s → gWW X Y 7 47 [(0, .ref (gad Y c 6)), (3, .long s.1), (5, .int a5)] [] M) : ∀ (F : Nat) (s : (Int64 × Int32)), itr F (fun s => s_X3_addTo_17 M c a5 s.1 s.2) s = some e → gWW X Y 7 17 [(0, .ref (gad Y c 6)), (3, .long s.1), (5, .int a5), (6, .int s.2)] [] M := by
  intro F s
  refine itr_w (P := fun s => gWW X Y 7 17 [(0, .ref (gad Y c 6)), (3, .long s.1), (5, .int a5), (6, .int s.2)] [] M) (fun s o hx kI kx => ?_) F s
  obtain ⟨b3, b6⟩ := s
  have hx : s_X3_addTo_17 M c a5 b3 b6 = some o := hx
  have kE : ∀ s : (Int64 × Int32), o = .inr s → gWW X Y 7 47 [(0, .ref (gad Y c 6)), (3, .long s.1), (5, .int a5)] [] M := fun s q => kE s (kx _ q).symm
  unfold s_X3_addTo_17 at hx
  refine q_iload hC 3 dX3_addTo_17 rfl ?_
  refine q_iconst hC 5 dX3_addTo_19 rfl ?_
  refine q_ic_ge hC 47 dX3_addTo_20 rfl (fun h2 => ?_) (fun h2 => ?_)
  · have hx := gi_p h2 hx
    exact q_sub [0, 1, 2] rfl (kE (b3, b6) (Option.some.inj hx).symm)
  · have hx := gi_n h2 hx
    refine q_ldc2 hC 31 dX3_addTo_23 wC_X3_36 ?_
    refine q_lload_n hC 1 dX3_addTo_26 rfl rfl ?_
    refine q_lmul hC dX3_addTo_27 ?_
    refine q_aload_n hC 0 dX3_addTo_28 rfl rfl ?_
    refine gf_X3_13 hC hc dX3_addTo_29 ?_
    refine q_iload hC 2 dX3_addTo_32 rfl ?_
    have g3 := (gd_e hx).1
    have hx := (gd_e hx).2
    refine q_aald (t0 := 4) hC (gV_h hc (by decide)) rfl rfl rfl g3 (grow_i g3) dX3_addTo_34 ?_
    refine q_iload hC 3 dX3_addTo_35 rfl ?_
    have g4 := (gd_e hx).1
    have hx := (gd_e hx).2
    refine q_iald hC 4 (gV_hr 6 hc g3 (by decide)) (gl_of (by decide) g3) g4 dX3_addTo_37 ?_
    refine q_i2l hC dX3_addTo_38 ?_
    refine q_ladd hC dX3_addTo_39 ?_
    refine q_lstore_n hC [(3, .long ((31 * b3) + (Int32.toInt64 (M.1 c (8 + (a5).toNatClampNeg) (b6).toNatClampNeg)))), (0, .ref (gad Y c 6)), (5, .int a5), (6, .int b6)] dX3_addTo_40 rfl (by decide) rfl ?_
    refine q_iinc hC 3 1 [(6, .int (b6 + 1)), (3, .long ((31 * b3) + (Int32.toInt64 (M.1 c (8 + (a5).toNatClampNeg) (b6).toNatClampNeg)))), (0, .ref (gad Y c 6)), (5, .int a5)] dX3_addTo_41 rfl rfl (by decide) rfl ?_
    refine q_goto hC 17 dX3_addTo_44 rfl ?_
    exact q_sub [2, 1, 3, 0] rfl (kI ((31 * b3) + (Int32.toInt64 (M.1 c (8 + (a5).toNatClampNeg) (b6).toNatClampNeg)), b6 + 1) (Option.some.inj hx).symm)
set_option maxRecDepth 100000 in
set_option maxHeartbeats 4000000 in
theorem w_X3_addTo_5 {X : gX} {Y : gY} {M : gMem} {c : Nat} {r : Int64} (hC : gC X Y cX3_addTo "GuestStaff$Notes" 7 0 0) (hF : gF X Y (some .long) (gQl Y (r, M))) (hc : c < 4) {e : (Int64 × Int32)} (kE : ∀ s : (Int64 × Int32), e = s → gWW X Y 7 53 [(3, .long s.1)] [] M) : ∀ (F : Nat) (s : (Int64 × Int32)), itr F (fun s => s_X3_addTo_5 M c s.1 s.2) s = some e → gWW X Y 7 5 [(0, .ref (gad Y c 6)), (3, .long s.1), (5, .int s.2)] [] M := by
  intro F s
  refine itr_w (P := fun s => gWW X Y 7 5 [(0, .ref (gad Y c 6)), (3, .long s.1), (5, .int s.2)] [] M) (fun s o hx kI kx => ?_) F s
  obtain ⟨b3, b5⟩ := s
  have hx : s_X3_addTo_5 M c b3 b5 = some o := hx
  have kE : ∀ s : (Int64 × Int32), o = .inr s → gWW X Y 7 53 [(3, .long s.1)] [] M := fun s q => kE s (kx _ q).symm
  unfold s_X3_addTo_5 at hx
  refine q_iload hC 2 dX3_addTo_5 rfl ?_
  refine q_aload_n hC 0 dX3_addTo_7 rfl rfl ?_
  refine gf_X3_16 hC hc dX3_addTo_8 ?_
  refine q_ic_ge hC 53 dX3_addTo_11 rfl (fun h1 => ?_) (fun h1 => ?_)
  · have hx := gi_p h1 hx
    exact q_sub [1] rfl (kE (b3, b5) (Option.some.inj hx).symm)
  · have hx := gi_n h1 hx
    refine q_iconst hC 0 dX3_addTo_14 rfl ?_
    refine q_istore hC [(6, .int 0), (0, .ref (gad Y c 6)), (3, .long b3), (5, .int b5)] dX3_addTo_15 (by decide) rfl ?_
    obtain ⟨e5, qe5, hx⟩ := gb_e hx
    refine q_sub [1, 2, 3, 0] rfl (w_X3_addTo_17 hC hF hc (e := e5) (fun s q => ?_) _ _ qe5)
    · subst q
      refine q_iinc hC 2 1 [(5, .int (b5 + 1)), (0, .ref (gad Y c 6)), (3, .long e5.1)] dX3_addTo_47 rfl rfl (by decide) rfl ?_
      refine q_goto hC 5 dX3_addTo_50 rfl ?_
      exact q_sub [1, 2, 0] rfl (kI (e5.1, b5 + 1) (Option.some.inj hx).symm)
set_option maxRecDepth 100000 in
set_option maxHeartbeats 4000000 in
theorem c_X3_addTo {l : Launch} {Y : gY} {M : gMem} {c : Nat} {p1 : Int64} {r : Int64} (hc : c < 4) (hx : x_X3_addTo M c p1 = some r) : Met l yX3_addTo (gws yX3_addTo cX3_addTo 7 (some .long)) { frames := 0, cells := 0, slots := 0, locals := 0 } (va_Pc [.ref (gad Y c 6), .long p1] (gS0 Y M)) (gQl Y (r, M)) 0 0 (gA Y) := by
  refine gmet (lv := [(0, .ref (gad Y c 6)), (1, .long p1)]) "GuestStaff$Notes" (by decide) rfl (Nat.le_of_ble_eq_true rfl) rfl (fun X hC hF => ?_)
  unfold x_X3_addTo at hx
  refine q_lload_n hC 1 dX3_addTo_0 rfl rfl ?_
  refine q_lstore_n hC [(3, .long p1), (0, .ref (gad Y c 6)), (1, .long p1)] dX3_addTo_1 rfl (by decide) rfl ?_
  refine q_iconst hC 0 dX3_addTo_2 rfl ?_
  refine q_istore hC [(5, .int 0), (3, .long p1), (0, .ref (gad Y c 6)), (1, .long p1)] dX3_addTo_3 (by decide) rfl ?_
  obtain ⟨e6, qe6, hx⟩ := gb_e hx
  refine q_sub [2, 1, 0] rfl (w_X3_addTo_5 hC hF hc (e := e6) (fun s q => ?_) _ _ qe6)
  · subst q
    refine q_lload_n hC 0 dX3_addTo_53 rfl rfl ?_
    exact q_lret hC hF dX3_addTo_54 (congrArg (fun z => (z, M)) (Option.some.inj hx))
end
section
theorem dJ6_bitCount_0f7a4_0 : decode cJ6_bitCount_0f7a4 0 = .ok (.iload_n 0, 1) := by decide +kernel
theorem dJ6_bitCount_0f7a4_1 : decode cJ6_bitCount_0f7a4 1 = .ok (.iload_n 0, 1) := by decide +kernel
theorem dJ6_bitCount_0f7a4_2 : decode cJ6_bitCount_0f7a4 2 = .ok (.iconst 1, 1) := by decide +kernel
theorem dJ6_bitCount_0f7a4_3 : decode cJ6_bitCount_0f7a4 3 = .ok (.iushr, 1) := by decide +kernel
theorem dJ6_bitCount_0f7a4_4 : decode cJ6_bitCount_0f7a4 4 = .ok (.ldc_w 265, 3) := by decide +kernel
theorem dJ6_bitCount_0f7a4_7 : decode cJ6_bitCount_0f7a4 7 = .ok (.iand, 1) := by decide +kernel
theorem dJ6_bitCount_0f7a4_8 : decode cJ6_bitCount_0f7a4 8 = .ok (.isub, 1) := by decide +kernel
theorem dJ6_bitCount_0f7a4_9 : decode cJ6_bitCount_0f7a4 9 = .ok (.istore_n 0, 1) := by decide +kernel
theorem dJ6_bitCount_0f7a4_10 : decode cJ6_bitCount_0f7a4 10 = .ok (.iload_n 0, 1) := by decide +kernel
theorem dJ6_bitCount_0f7a4_11 : decode cJ6_bitCount_0f7a4 11 = .ok (.ldc_w 266, 3) := by decide +kernel
theorem dJ6_bitCount_0f7a4_14 : decode cJ6_bitCount_0f7a4 14 = .ok (.iand, 1) := by decide +kernel
theorem dJ6_bitCount_0f7a4_15 : decode cJ6_bitCount_0f7a4 15 = .ok (.iload_n 0, 1) := by decide +kernel
theorem dJ6_bitCount_0f7a4_16 : decode cJ6_bitCount_0f7a4 16 = .ok (.iconst 2, 1) := by decide +kernel
theorem dJ6_bitCount_0f7a4_17 : decode cJ6_bitCount_0f7a4 17 = .ok (.iushr, 1) := by decide +kernel
theorem dJ6_bitCount_0f7a4_18 : decode cJ6_bitCount_0f7a4 18 = .ok (.ldc_w 266, 3) := by decide +kernel
theorem dJ6_bitCount_0f7a4_21 : decode cJ6_bitCount_0f7a4 21 = .ok (.iand, 1) := by decide +kernel
theorem dJ6_bitCount_0f7a4_22 : decode cJ6_bitCount_0f7a4 22 = .ok (.iadd, 1) := by decide +kernel
theorem dJ6_bitCount_0f7a4_23 : decode cJ6_bitCount_0f7a4 23 = .ok (.istore_n 0, 1) := by decide +kernel
theorem dJ6_bitCount_0f7a4_24 : decode cJ6_bitCount_0f7a4 24 = .ok (.iload_n 0, 1) := by decide +kernel
theorem dJ6_bitCount_0f7a4_25 : decode cJ6_bitCount_0f7a4 25 = .ok (.iload_n 0, 1) := by decide +kernel
theorem dJ6_bitCount_0f7a4_26 : decode cJ6_bitCount_0f7a4 26 = .ok (.iconst 4, 1) := by decide +kernel
theorem dJ6_bitCount_0f7a4_27 : decode cJ6_bitCount_0f7a4 27 = .ok (.iushr, 1) := by decide +kernel
theorem dJ6_bitCount_0f7a4_28 : decode cJ6_bitCount_0f7a4 28 = .ok (.iadd, 1) := by decide +kernel
theorem dJ6_bitCount_0f7a4_29 : decode cJ6_bitCount_0f7a4 29 = .ok (.ldc_w 267, 3) := by decide +kernel
theorem dJ6_bitCount_0f7a4_32 : decode cJ6_bitCount_0f7a4 32 = .ok (.iand, 1) := by decide +kernel
theorem dJ6_bitCount_0f7a4_33 : decode cJ6_bitCount_0f7a4 33 = .ok (.istore_n 0, 1) := by decide +kernel
theorem dJ6_bitCount_0f7a4_34 : decode cJ6_bitCount_0f7a4 34 = .ok (.iload_n 0, 1) := by decide +kernel
theorem dJ6_bitCount_0f7a4_35 : decode cJ6_bitCount_0f7a4 35 = .ok (.iload_n 0, 1) := by decide +kernel
theorem dJ6_bitCount_0f7a4_36 : decode cJ6_bitCount_0f7a4 36 = .ok (.bipush 8, 2) := by decide +kernel
theorem dJ6_bitCount_0f7a4_38 : decode cJ6_bitCount_0f7a4 38 = .ok (.iushr, 1) := by decide +kernel
theorem dJ6_bitCount_0f7a4_39 : decode cJ6_bitCount_0f7a4 39 = .ok (.iadd, 1) := by decide +kernel
theorem dJ6_bitCount_0f7a4_40 : decode cJ6_bitCount_0f7a4 40 = .ok (.istore_n 0, 1) := by decide +kernel
theorem dJ6_bitCount_0f7a4_41 : decode cJ6_bitCount_0f7a4 41 = .ok (.iload_n 0, 1) := by decide +kernel
theorem dJ6_bitCount_0f7a4_42 : decode cJ6_bitCount_0f7a4 42 = .ok (.iload_n 0, 1) := by decide +kernel
theorem dJ6_bitCount_0f7a4_43 : decode cJ6_bitCount_0f7a4 43 = .ok (.bipush 16, 2) := by decide +kernel
theorem dJ6_bitCount_0f7a4_45 : decode cJ6_bitCount_0f7a4 45 = .ok (.iushr, 1) := by decide +kernel
theorem dJ6_bitCount_0f7a4_46 : decode cJ6_bitCount_0f7a4 46 = .ok (.iadd, 1) := by decide +kernel
theorem dJ6_bitCount_0f7a4_47 : decode cJ6_bitCount_0f7a4 47 = .ok (.istore_n 0, 1) := by decide +kernel
theorem dJ6_bitCount_0f7a4_48 : decode cJ6_bitCount_0f7a4 48 = .ok (.iload_n 0, 1) := by decide +kernel
theorem dJ6_bitCount_0f7a4_49 : decode cJ6_bitCount_0f7a4 49 = .ok (.bipush 63, 2) := by decide +kernel
theorem dJ6_bitCount_0f7a4_51 : decode cJ6_bitCount_0f7a4 51 = .ok (.iand, 1) := by decide +kernel
theorem dJ6_bitCount_0f7a4_52 : decode cJ6_bitCount_0f7a4 52 = .ok (.ireturn, 1) := by decide +kernel
def x_J6_bitCount_0f7a4 (p0 : Int32) : Option Int32 := some ((((((((p0 - (((Int32.toUInt32 p0 >>> (Int32.toUInt32 1 &&& Int32.toUInt32 31)).toInt32) &&& 1431655765)) &&& 858993459) + (((Int32.toUInt32 (p0 - (((Int32.toUInt32 p0 >>> (Int32.toUInt32 1 &&& Int32.toUInt32 31)).toInt32) &&& 1431655765)) >>> (Int32.toUInt32 2 &&& Int32.toUInt32 31)).toInt32) &&& 858993459)) + ((Int32.toUInt32 (((p0 - (((Int32.toUInt32 p0 >>> (Int32.toUInt32 1 &&& Int32.toUInt32 31)).toInt32) &&& 1431655765)) &&& 858993459) + (((Int32.toUInt32 (p0 - (((Int32.toUInt32 p0 >>> (Int32.toUInt32 1 &&& Int32.toUInt32 31)).toInt32) &&& 1431655765)) >>> (Int32.toUInt32 2 &&& Int32.toUInt32 31)).toInt32) &&& 858993459)) >>> (Int32.toUInt32 4 &&& Int32.toUInt32 31)).toInt32)) &&& 252645135) + ((Int32.toUInt32 (((((p0 - (((Int32.toUInt32 p0 >>> (Int32.toUInt32 1 &&& Int32.toUInt32 31)).toInt32) &&& 1431655765)) &&& 858993459) + (((Int32.toUInt32 (p0 - (((Int32.toUInt32 p0 >>> (Int32.toUInt32 1 &&& Int32.toUInt32 31)).toInt32) &&& 1431655765)) >>> (Int32.toUInt32 2 &&& Int32.toUInt32 31)).toInt32) &&& 858993459)) + ((Int32.toUInt32 (((p0 - (((Int32.toUInt32 p0 >>> (Int32.toUInt32 1 &&& Int32.toUInt32 31)).toInt32) &&& 1431655765)) &&& 858993459) + (((Int32.toUInt32 (p0 - (((Int32.toUInt32 p0 >>> (Int32.toUInt32 1 &&& Int32.toUInt32 31)).toInt32) &&& 1431655765)) >>> (Int32.toUInt32 2 &&& Int32.toUInt32 31)).toInt32) &&& 858993459)) >>> (Int32.toUInt32 4 &&& Int32.toUInt32 31)).toInt32)) &&& 252645135) >>> (Int32.toUInt32 8 &&& Int32.toUInt32 31)).toInt32)) + ((Int32.toUInt32 ((((((p0 - (((Int32.toUInt32 p0 >>> (Int32.toUInt32 1 &&& Int32.toUInt32 31)).toInt32) &&& 1431655765)) &&& 858993459) + (((Int32.toUInt32 (p0 - (((Int32.toUInt32 p0 >>> (Int32.toUInt32 1 &&& Int32.toUInt32 31)).toInt32) &&& 1431655765)) >>> (Int32.toUInt32 2 &&& Int32.toUInt32 31)).toInt32) &&& 858993459)) + ((Int32.toUInt32 (((p0 - (((Int32.toUInt32 p0 >>> (Int32.toUInt32 1 &&& Int32.toUInt32 31)).toInt32) &&& 1431655765)) &&& 858993459) + (((Int32.toUInt32 (p0 - (((Int32.toUInt32 p0 >>> (Int32.toUInt32 1 &&& Int32.toUInt32 31)).toInt32) &&& 1431655765)) >>> (Int32.toUInt32 2 &&& Int32.toUInt32 31)).toInt32) &&& 858993459)) >>> (Int32.toUInt32 4 &&& Int32.toUInt32 31)).toInt32)) &&& 252645135) + ((Int32.toUInt32 (((((p0 - (((Int32.toUInt32 p0 >>> (Int32.toUInt32 1 &&& Int32.toUInt32 31)).toInt32) &&& 1431655765)) &&& 858993459) + (((Int32.toUInt32 (p0 - (((Int32.toUInt32 p0 >>> (Int32.toUInt32 1 &&& Int32.toUInt32 31)).toInt32) &&& 1431655765)) >>> (Int32.toUInt32 2 &&& Int32.toUInt32 31)).toInt32) &&& 858993459)) + ((Int32.toUInt32 (((p0 - (((Int32.toUInt32 p0 >>> (Int32.toUInt32 1 &&& Int32.toUInt32 31)).toInt32) &&& 1431655765)) &&& 858993459) + (((Int32.toUInt32 (p0 - (((Int32.toUInt32 p0 >>> (Int32.toUInt32 1 &&& Int32.toUInt32 31)).toInt32) &&& 1431655765)) >>> (Int32.toUInt32 2 &&& Int32.toUInt32 31)).toInt32) &&& 858993459)) >>> (Int32.toUInt32 4 &&& Int32.toUInt32 31)).toInt32)) &&& 252645135) >>> (Int32.toUInt32 8 &&& Int32.toUInt32 31)).toInt32)) >>> (Int32.toUInt32 16 &&& Int32.toUInt32 31)).toInt32)) &&& 63)
set_option maxRecDepth 100000 in
set_option maxHeartbeats 4000000 in
theorem c_J6_bitCount_0f7a4 {l : Launch} {Y : gY} {M : gMem} {p0 : Int32} {r : Int32} (hx : x_J6_bitCount_0f7a4 p0 = some r) : Met l yJ6_bitCount_0f7a4 (gws yJ6_bitCount_0f7a4 cJ6_bitCount_0f7a4 1 (some .int)) { frames := 0, cells := 0, slots := 0, locals := 0 } (va_Pc [.int p0] (gS0 Y M)) (gQi Y (r, M)) 0 0 (gA Y) := by
  refine gmet (lv := [(0, .int p0)]) "java/lang/Integer" (by decide) rfl (Nat.le_of_ble_eq_true rfl) rfl (fun X hC hF => ?_)
  unfold x_J6_bitCount_0f7a4 at hx
  refine q_iload_n hC 0 dJ6_bitCount_0f7a4_0 rfl rfl ?_
  refine q_iload_n hC 0 dJ6_bitCount_0f7a4_1 rfl rfl ?_
  refine q_iconst hC 1 dJ6_bitCount_0f7a4_2 rfl ?_
  refine q_iushr hC dJ6_bitCount_0f7a4_3 ?_
  refine q_ldcw hC 1431655765 dJ6_bitCount_0f7a4_4 wC_J6_265 ?_
  refine q_iand hC dJ6_bitCount_0f7a4_7 ?_
  refine q_isub hC dJ6_bitCount_0f7a4_8 ?_
  refine q_istore_n hC [(0, .int (p0 - (((Int32.toUInt32 p0 >>> (Int32.toUInt32 1 &&& Int32.toUInt32 31)).toInt32) &&& 1431655765)))] dJ6_bitCount_0f7a4_9 rfl (by decide) rfl ?_
  refine q_iload_n hC 0 dJ6_bitCount_0f7a4_10 rfl rfl ?_
  refine q_ldcw hC 858993459 dJ6_bitCount_0f7a4_11 wC_J6_266 ?_
  refine q_iand hC dJ6_bitCount_0f7a4_14 ?_
  refine q_iload_n hC 0 dJ6_bitCount_0f7a4_15 rfl rfl ?_
  refine q_iconst hC 2 dJ6_bitCount_0f7a4_16 rfl ?_
  refine q_iushr hC dJ6_bitCount_0f7a4_17 ?_
  refine q_ldcw hC 858993459 dJ6_bitCount_0f7a4_18 wC_J6_266 ?_
  refine q_iand hC dJ6_bitCount_0f7a4_21 ?_
  refine q_iadd hC dJ6_bitCount_0f7a4_22 ?_
  refine q_istore_n hC [(0, .int (((p0 - (((Int32.toUInt32 p0 >>> (Int32.toUInt32 1 &&& Int32.toUInt32 31)).toInt32) &&& 1431655765)) &&& 858993459) + (((Int32.toUInt32 (p0 - (((Int32.toUInt32 p0 >>> (Int32.toUInt32 1 &&& Int32.toUInt32 31)).toInt32) &&& 1431655765)) >>> (Int32.toUInt32 2 &&& Int32.toUInt32 31)).toInt32) &&& 858993459)))] dJ6_bitCount_0f7a4_23 rfl (by decide) rfl ?_
  refine q_iload_n hC 0 dJ6_bitCount_0f7a4_24 rfl rfl ?_
  refine q_iload_n hC 0 dJ6_bitCount_0f7a4_25 rfl rfl ?_
  refine q_iconst hC 4 dJ6_bitCount_0f7a4_26 rfl ?_
  refine q_iushr hC dJ6_bitCount_0f7a4_27 ?_
  refine q_iadd hC dJ6_bitCount_0f7a4_28 ?_
  refine q_ldcw hC 252645135 dJ6_bitCount_0f7a4_29 wC_J6_267 ?_
  refine q_iand hC dJ6_bitCount_0f7a4_32 ?_
  refine q_istore_n hC [(0, .int (((((p0 - (((Int32.toUInt32 p0 >>> (Int32.toUInt32 1 &&& Int32.toUInt32 31)).toInt32) &&& 1431655765)) &&& 858993459) + (((Int32.toUInt32 (p0 - (((Int32.toUInt32 p0 >>> (Int32.toUInt32 1 &&& Int32.toUInt32 31)).toInt32) &&& 1431655765)) >>> (Int32.toUInt32 2 &&& Int32.toUInt32 31)).toInt32) &&& 858993459)) + ((Int32.toUInt32 (((p0 - (((Int32.toUInt32 p0 >>> (Int32.toUInt32 1 &&& Int32.toUInt32 31)).toInt32) &&& 1431655765)) &&& 858993459) + (((Int32.toUInt32 (p0 - (((Int32.toUInt32 p0 >>> (Int32.toUInt32 1 &&& Int32.toUInt32 31)).toInt32) &&& 1431655765)) >>> (Int32.toUInt32 2 &&& Int32.toUInt32 31)).toInt32) &&& 858993459)) >>> (Int32.toUInt32 4 &&& Int32.toUInt32 31)).toInt32)) &&& 252645135))] dJ6_bitCount_0f7a4_33 rfl (by decide) rfl ?_
  refine q_iload_n hC 0 dJ6_bitCount_0f7a4_34 rfl rfl ?_
  refine q_iload_n hC 0 dJ6_bitCount_0f7a4_35 rfl rfl ?_
  refine q_bipush hC 8 dJ6_bitCount_0f7a4_36 rfl ?_
  refine q_iushr hC dJ6_bitCount_0f7a4_38 ?_
  refine q_iadd hC dJ6_bitCount_0f7a4_39 ?_
  refine q_istore_n hC [(0, .int ((((((p0 - (((Int32.toUInt32 p0 >>> (Int32.toUInt32 1 &&& Int32.toUInt32 31)).toInt32) &&& 1431655765)) &&& 858993459) + (((Int32.toUInt32 (p0 - (((Int32.toUInt32 p0 >>> (Int32.toUInt32 1 &&& Int32.toUInt32 31)).toInt32) &&& 1431655765)) >>> (Int32.toUInt32 2 &&& Int32.toUInt32 31)).toInt32) &&& 858993459)) + ((Int32.toUInt32 (((p0 - (((Int32.toUInt32 p0 >>> (Int32.toUInt32 1 &&& Int32.toUInt32 31)).toInt32) &&& 1431655765)) &&& 858993459) + (((Int32.toUInt32 (p0 - (((Int32.toUInt32 p0 >>> (Int32.toUInt32 1 &&& Int32.toUInt32 31)).toInt32) &&& 1431655765)) >>> (Int32.toUInt32 2 &&& Int32.toUInt32 31)).toInt32) &&& 858993459)) >>> (Int32.toUInt32 4 &&& Int32.toUInt32 31)).toInt32)) &&& 252645135) + ((Int32.toUInt32 (((((p0 - (((Int32.toUInt32 p0 >>> (Int32.toUInt32 1 &&& Int32.toUInt32 31)).toInt32) &&& 1431655765)) &&& 858993459) + (((Int32.toUInt32 (p0 - (((Int32.toUInt32 p0 >>> (Int32.toUInt32 1 &&& Int32.toUInt32 31)).toInt32) &&& 1431655765)) >>> (Int32.toUInt32 2 &&& Int32.toUInt32 31)).toInt32) &&& 858993459)) + ((Int32.toUInt32 (((p0 - (((Int32.toUInt32 p0 >>> (Int32.toUInt32 1 &&& Int32.toUInt32 31)).toInt32) &&& 1431655765)) &&& 858993459) + (((Int32.toUInt32 (p0 - (((Int32.toUInt32 p0 >>> (Int32.toUInt32 1 &&& Int32.toUInt32 31)).toInt32) &&& 1431655765)) >>> (Int32.toUInt32 2 &&& Int32.toUInt32 31)).toInt32) &&& 858993459)) >>> (Int32.toUInt32 4 &&& Int32.toUInt32 31)).toInt32)) &&& 252645135) >>> (Int32.toUInt32 8 &&& Int32.toUInt32 31)).toInt32)))] dJ6_bitCount_0f7a4_40 rfl (by decide) rfl ?_
  refine q_iload_n hC 0 dJ6_bitCount_0f7a4_41 rfl rfl ?_
  refine q_iload_n hC 0 dJ6_bitCount_0f7a4_42 rfl rfl ?_
  refine q_bipush hC 16 dJ6_bitCount_0f7a4_43 rfl ?_
  refine q_iushr hC dJ6_bitCount_0f7a4_45 ?_
  refine q_iadd hC dJ6_bitCount_0f7a4_46 ?_
  refine q_istore_n hC [(0, .int (((((((p0 - (((Int32.toUInt32 p0 >>> (Int32.toUInt32 1 &&& Int32.toUInt32 31)).toInt32) &&& 1431655765)) &&& 858993459) + (((Int32.toUInt32 (p0 - (((Int32.toUInt32 p0 >>> (Int32.toUInt32 1 &&& Int32.toUInt32 31)).toInt32) &&& 1431655765)) >>> (Int32.toUInt32 2 &&& Int32.toUInt32 31)).toInt32) &&& 858993459)) + ((Int32.toUInt32 (((p0 - (((Int32.toUInt32 p0 >>> (Int32.toUInt32 1 &&& Int32.toUInt32 31)).toInt32) &&& 1431655765)) &&& 858993459) + (((Int32.toUInt32 (p0 - (((Int32.toUInt32 p0 >>> (Int32.toUInt32 1 &&& Int32.toUInt32 31)).toInt32) &&& 1431655765)) >>> (Int32.toUInt32 2 &&& Int32.toUInt32 31)).toInt32) &&& 858993459)) >>> (Int32.toUInt32 4 &&& Int32.toUInt32 31)).toInt32)) &&& 252645135) + ((Int32.toUInt32 (((((p0 - (((Int32.toUInt32 p0 >>> (Int32.toUInt32 1 &&& Int32.toUInt32 31)).toInt32) &&& 1431655765)) &&& 858993459) + (((Int32.toUInt32 (p0 - (((Int32.toUInt32 p0 >>> (Int32.toUInt32 1 &&& Int32.toUInt32 31)).toInt32) &&& 1431655765)) >>> (Int32.toUInt32 2 &&& Int32.toUInt32 31)).toInt32) &&& 858993459)) + ((Int32.toUInt32 (((p0 - (((Int32.toUInt32 p0 >>> (Int32.toUInt32 1 &&& Int32.toUInt32 31)).toInt32) &&& 1431655765)) &&& 858993459) + (((Int32.toUInt32 (p0 - (((Int32.toUInt32 p0 >>> (Int32.toUInt32 1 &&& Int32.toUInt32 31)).toInt32) &&& 1431655765)) >>> (Int32.toUInt32 2 &&& Int32.toUInt32 31)).toInt32) &&& 858993459)) >>> (Int32.toUInt32 4 &&& Int32.toUInt32 31)).toInt32)) &&& 252645135) >>> (Int32.toUInt32 8 &&& Int32.toUInt32 31)).toInt32)) + ((Int32.toUInt32 ((((((p0 - (((Int32.toUInt32 p0 >>> (Int32.toUInt32 1 &&& Int32.toUInt32 31)).toInt32) &&& 1431655765)) &&& 858993459) + (((Int32.toUInt32 (p0 - (((Int32.toUInt32 p0 >>> (Int32.toUInt32 1 &&& Int32.toUInt32 31)).toInt32) &&& 1431655765)) >>> (Int32.toUInt32 2 &&& Int32.toUInt32 31)).toInt32) &&& 858993459)) + ((Int32.toUInt32 (((p0 - (((Int32.toUInt32 p0 >>> (Int32.toUInt32 1 &&& Int32.toUInt32 31)).toInt32) &&& 1431655765)) &&& 858993459) + (((Int32.toUInt32 (p0 - (((Int32.toUInt32 p0 >>> (Int32.toUInt32 1 &&& Int32.toUInt32 31)).toInt32) &&& 1431655765)) >>> (Int32.toUInt32 2 &&& Int32.toUInt32 31)).toInt32) &&& 858993459)) >>> (Int32.toUInt32 4 &&& Int32.toUInt32 31)).toInt32)) &&& 252645135) + ((Int32.toUInt32 (((((p0 - (((Int32.toUInt32 p0 >>> (Int32.toUInt32 1 &&& Int32.toUInt32 31)).toInt32) &&& 1431655765)) &&& 858993459) + (((Int32.toUInt32 (p0 - (((Int32.toUInt32 p0 >>> (Int32.toUInt32 1 &&& Int32.toUInt32 31)).toInt32) &&& 1431655765)) >>> (Int32.toUInt32 2 &&& Int32.toUInt32 31)).toInt32) &&& 858993459)) + ((Int32.toUInt32 (((p0 - (((Int32.toUInt32 p0 >>> (Int32.toUInt32 1 &&& Int32.toUInt32 31)).toInt32) &&& 1431655765)) &&& 858993459) + (((Int32.toUInt32 (p0 - (((Int32.toUInt32 p0 >>> (Int32.toUInt32 1 &&& Int32.toUInt32 31)).toInt32) &&& 1431655765)) >>> (Int32.toUInt32 2 &&& Int32.toUInt32 31)).toInt32) &&& 858993459)) >>> (Int32.toUInt32 4 &&& Int32.toUInt32 31)).toInt32)) &&& 252645135) >>> (Int32.toUInt32 8 &&& Int32.toUInt32 31)).toInt32)) >>> (Int32.toUInt32 16 &&& Int32.toUInt32 31)).toInt32)))] dJ6_bitCount_0f7a4_47 rfl (by decide) rfl ?_
  refine q_iload_n hC 0 dJ6_bitCount_0f7a4_48 rfl rfl ?_
  refine q_bipush hC 63 dJ6_bitCount_0f7a4_49 rfl ?_
  refine q_iand hC dJ6_bitCount_0f7a4_51 ?_
  exact q_iret hC hF dJ6_bitCount_0f7a4_52 (congrArg (fun z => (z, M)) (Option.some.inj hx))

theorem dX7_costOf_0 : decode cX7_costOf 0 = .ok (.iload_n 3, 1) := by decide +kernel
theorem dX7_costOf_1 : decode cX7_costOf 1 = .ok (.lookupswitch 47 #[(1, 27), (2, 39)], 27) := by decide +kernel
theorem dX7_costOf_28 : decode cX7_costOf 28 = .ok (.aload_n 0, 1) := by decide +kernel
theorem dX7_costOf_29 : decode cX7_costOf 29 = .ok (.iload_n 1, 1) := by decide +kernel
theorem dX7_costOf_30 : decode cX7_costOf 30 = .ok (.aload_n 0, 1) := by decide +kernel
theorem dX7_costOf_31 : decode cX7_costOf 31 = .ok (.getfield 43, 3) := by decide +kernel
theorem dX7_costOf_34 : decode cX7_costOf 34 = .ok (.iload_n 2, 1) := by decide +kernel
theorem dX7_costOf_35 : decode cX7_costOf 35 = .ok (.iaload, 1) := by decide +kernel
theorem dX7_costOf_36 : decode cX7_costOf 36 = .ok (.invokevirtual 46, 3) := by decide +kernel
theorem dX7_costOf_39 : decode cX7_costOf 39 = .ok (.ireturn, 1) := by decide +kernel
theorem dX7_costOf_40 : decode cX7_costOf 40 = .ok (.aload_n 0, 1) := by decide +kernel
theorem dX7_costOf_41 : decode cX7_costOf 41 = .ok (.iload_n 2, 1) := by decide +kernel
theorem dX7_costOf_42 : decode cX7_costOf 42 = .ok (.iload_n 1, 1) := by decide +kernel
theorem dX7_costOf_43 : decode cX7_costOf 43 = .ok (.invokevirtual 50, 3) := by decide +kernel
theorem dX7_costOf_46 : decode cX7_costOf 46 = .ok (.ineg, 1) := by decide +kernel
theorem dX7_costOf_47 : decode cX7_costOf 47 = .ok (.ireturn, 1) := by decide +kernel
theorem dX7_costOf_48 : decode cX7_costOf 48 = .ok (.iconst 0, 1) := by decide +kernel
theorem dX7_costOf_49 : decode cX7_costOf 49 = .ok (.ireturn, 1) := by decide +kernel
def x_X7_costOf (M : gMem) (d : Nat) (p1 : Int32) (p2 : Int32) (p3 : Int32) : Option Int32 := (if p3 = 1 then gd (gin p2 7) (Option.bind (x_X1_workFor M d p1 (M.1 d 2 (p2).toNatClampNeg)) (fun v3 => some v3)) else (if p3 = 2 then Option.bind (x_X1_contentBy M d p2 p1) (fun v6 => some (-v6)) else some 0))
set_option maxRecDepth 100000 in
set_option maxHeartbeats 4000000 in
theorem c_X7_costOf {l : Launch} {Y : gY} {M : gMem} {d : Nat} {p1 : Int32} {p2 : Int32} {p3 : Int32} {r : Int32} (hd : d < 4) (hx : x_X7_costOf M d p1 p2 p3 = some r) : Met l yX7_costOf (gws yX7_costOf cX7_costOf 4 (some .int)) { frames := 5, cells := 0, slots := 0, locals := 110 } (va_Pc [.ref (gad Y d 0), .int p1, .int p2, .int p3] (gS0 Y M)) (gQi Y (r, M)) 0 0 (gA Y) := by
  refine gmet (lv := [(0, .ref (gad Y d 0)), (1, .int p1), (2, .int p2), (3, .int p3)]) "GuestStaff$Rows" (by decide) rfl (Nat.le_of_ble_eq_true rfl) rfl (fun X hC hF => ?_)
  unfold x_X7_costOf at hx
  refine q_iload_n hC 3 dX7_costOf_0 rfl rfl ?_
  by_cases h1 : p3 = 1
  · have hx := gi_p h1 hx
    refine q_lsw hC 28 dX7_costOf_1 (by decide) (by rw [h1] <;> rfl) rfl ?_
    refine q_aload_n hC 0 dX7_costOf_28 rfl rfl ?_
    refine q_iload_n hC 1 dX7_costOf_29 rfl rfl ?_
    refine q_aload_n hC 0 dX7_costOf_30 rfl rfl ?_
    refine gf_X7_43 hC hd dX7_costOf_31 ?_
    refine q_iload_n hC 2 dX7_costOf_34 rfl rfl ?_
    have g2 := (gd_e hx).1
    have hx := (gd_e hx).2
    refine q_iald hC 6 (gV_h hd (by decide)) rfl g2 dX7_costOf_35 ?_
    obtain ⟨v3, q4, hx⟩ := gb_e hx
    refine q_kip (q_rV (As := [.int p1, .int (M.1 d 2 (p2).toNatClampNeg)]) (rest := []) hC mm_X1_workFor wM_X7_46 (c_X1_workFor hd q4) ⟨rfl, rfl, Nat.le_of_ble_eq_true rfl, Nat.le_of_ble_eq_true rfl⟩ (gV_h hd (by decide)) rfl rfl rfl rfl (Nat.le_of_ble_eq_true rfl) dX7_costOf_36) ?_
    exact q_iret hC hF dX7_costOf_39 (congrArg (fun z => (z, M)) (Option.some.inj hx))
  have hx := gi_n h1 hx
  by_cases h5 : p3 = 2
  · have hx := gi_p h5 hx
    refine q_lsw hC 40 dX7_costOf_1 (by decide) (by rw [h5] <;> rfl) rfl ?_
    refine q_aload_n hC 0 dX7_costOf_40 rfl rfl ?_
    refine q_iload_n hC 2 dX7_costOf_41 rfl rfl ?_
    refine q_iload_n hC 1 dX7_costOf_42 rfl rfl ?_
    obtain ⟨v6, q7, hx⟩ := gb_e hx
    refine q_kip (q_rV (As := [.int p2, .int p1]) (rest := []) hC mm_X1_contentBy wM_X7_50 (c_X1_contentBy hd q7) ⟨rfl, rfl, Nat.le_of_ble_eq_true rfl, Nat.le_of_ble_eq_true rfl⟩ (gV_h hd (by decide)) rfl rfl rfl rfl (Nat.le_of_ble_eq_true rfl) dX7_costOf_43) ?_
    refine q_ineg hC dX7_costOf_46 ?_
    exact q_iret hC hF dX7_costOf_47 (congrArg (fun z => (z, M)) (Option.some.inj hx))
  have hx := gi_n h5 hx
  have th1 := lv_neT (a := 1) h1 (by decide)
  have th5 := lv_neT (a := 2) h5 (by decide)
  refine q_lsw hC 48 dX7_costOf_1 (by decide) (by simp [Op.lookupswitch.offset, th1, Ne.symm th1, th5, Ne.symm th5]; try rfl) rfl ?_
  refine q_iconst hC 0 dX7_costOf_48 rfl ?_
  exact q_iret hC hF dX7_costOf_49 (congrArg (fun z => (z, M)) (Option.some.inj hx))

theorem dX7_gather_0 : decode cX7_gather 0 = .ok (.aload_n 0, 1) := by decide +kernel
theorem dX7_gather_1 : decode cX7_gather 1 = .ok (.iconst 0, 1) := by decide +kernel
theorem dX7_gather_2 : decode cX7_gather 2 = .ok (.putfield 26, 3) := by decide +kernel
theorem dX7_gather_5 : decode cX7_gather 5 = .ok (.iconst 0, 1) := by decide +kernel
theorem dX7_gather_6 : decode cX7_gather 6 = .ok (.istore 4, 2) := by decide +kernel
theorem dX7_gather_8 : decode cX7_gather 8 = .ok (.iload 4, 2) := by decide +kernel
theorem dX7_gather_10 : decode cX7_gather 10 = .ok (.aload_n 1, 1) := by decide +kernel
theorem dX7_gather_11 : decode cX7_gather 11 = .ok (.getfield 30, 3) := by decide +kernel
theorem dX7_gather_14 : decode cX7_gather 14 = .ok (.if_icmp .ge 39, 3) := by decide +kernel
theorem dX7_gather_17 : decode cX7_gather 17 = .ok (.iload_n 2, 1) := by decide +kernel
theorem dX7_gather_18 : decode cX7_gather 18 = .ok (.iload 4, 2) := by decide +kernel
theorem dX7_gather_20 : decode cX7_gather 20 = .ok (.ishr, 1) := by decide +kernel
theorem dX7_gather_21 : decode cX7_gather 21 = .ok (.iconst 1, 1) := by decide +kernel
theorem dX7_gather_22 : decode cX7_gather 22 = .ok (.iand, 1) := by decide +kernel
theorem dX7_gather_23 : decode cX7_gather 23 = .ok (.ifCond .eq 24, 3) := by decide +kernel
theorem dX7_gather_26 : decode cX7_gather 26 = .ok (.aload_n 0, 1) := by decide +kernel
theorem dX7_gather_27 : decode cX7_gather 27 = .ok (.getfield 9, 3) := by decide +kernel
theorem dX7_gather_30 : decode cX7_gather 30 = .ok (.aload_n 0, 1) := by decide +kernel
theorem dX7_gather_31 : decode cX7_gather 31 = .ok (.getfield 26, 3) := by decide +kernel
theorem dX7_gather_34 : decode cX7_gather 34 = .ok (.iload 4, 2) := by decide +kernel
theorem dX7_gather_36 : decode cX7_gather 36 = .ok (.iastore, 1) := by decide +kernel
theorem dX7_gather_37 : decode cX7_gather 37 = .ok (.aload_n 0, 1) := by decide +kernel
theorem dX7_gather_38 : decode cX7_gather 38 = .ok (.dup, 1) := by decide +kernel
theorem dX7_gather_39 : decode cX7_gather 39 = .ok (.getfield 26, 3) := by decide +kernel
theorem dX7_gather_42 : decode cX7_gather 42 = .ok (.iconst 1, 1) := by decide +kernel
theorem dX7_gather_43 : decode cX7_gather 43 = .ok (.iadd, 1) := by decide +kernel
theorem dX7_gather_44 : decode cX7_gather 44 = .ok (.putfield 26, 3) := by decide +kernel
theorem dX7_gather_47 : decode cX7_gather 47 = .ok (.iinc 4 1, 3) := by decide +kernel
theorem dX7_gather_50 : decode cX7_gather 50 = .ok (.goto (-42), 3) := by decide +kernel
theorem dX7_gather_53 : decode cX7_gather 53 = .ok (.iconst 0, 1) := by decide +kernel
theorem dX7_gather_54 : decode cX7_gather 54 = .ok (.istore 4, 2) := by decide +kernel
theorem dX7_gather_56 : decode cX7_gather 56 = .ok (.iload 4, 2) := by decide +kernel
theorem dX7_gather_58 : decode cX7_gather 58 = .ok (.aload_n 0, 1) := by decide +kernel
theorem dX7_gather_59 : decode cX7_gather 59 = .ok (.getfield 26, 3) := by decide +kernel
theorem dX7_gather_62 : decode cX7_gather 62 = .ok (.if_icmp .ge 106, 3) := by decide +kernel
theorem dX7_gather_65 : decode cX7_gather 65 = .ok (.aload_n 0, 1) := by decide +kernel
theorem dX7_gather_66 : decode cX7_gather 66 = .ok (.getfield 15, 3) := by decide +kernel
theorem dX7_gather_69 : decode cX7_gather 69 = .ok (.iload 4, 2) := by decide +kernel
theorem dX7_gather_71 : decode cX7_gather 71 = .ok (.iconst 0, 1) := by decide +kernel
theorem dX7_gather_72 : decode cX7_gather 72 = .ok (.iastore, 1) := by decide +kernel
theorem dX7_gather_73 : decode cX7_gather 73 = .ok (.iconst 0, 1) := by decide +kernel
theorem dX7_gather_74 : decode cX7_gather 74 = .ok (.istore 5, 2) := by decide +kernel
theorem dX7_gather_76 : decode cX7_gather 76 = .ok (.iload 5, 2) := by decide +kernel
theorem dX7_gather_78 : decode cX7_gather 78 = .ok (.aload_n 0, 1) := by decide +kernel
theorem dX7_gather_79 : decode cX7_gather 79 = .ok (.getfield 26, 3) := by decide +kernel
theorem dX7_gather_82 : decode cX7_gather 82 = .ok (.if_icmp .ge 80, 3) := by decide +kernel
theorem dX7_gather_85 : decode cX7_gather 85 = .ok (.iload 4, 2) := by decide +kernel
theorem dX7_gather_87 : decode cX7_gather 87 = .ok (.iload 5, 2) := by decide +kernel
theorem dX7_gather_89 : decode cX7_gather 89 = .ok (.if_icmp .eq 67, 3) := by decide +kernel
theorem dX7_gather_92 : decode cX7_gather 92 = .ok (.aload_n 1, 1) := by decide +kernel
theorem dX7_gather_93 : decode cX7_gather 93 = .ok (.aload_n 0, 1) := by decide +kernel
theorem dX7_gather_94 : decode cX7_gather 94 = .ok (.getfield 9, 3) := by decide +kernel
theorem dX7_gather_97 : decode cX7_gather 97 = .ok (.iload 4, 2) := by decide +kernel
theorem dX7_gather_99 : decode cX7_gather 99 = .ok (.iaload, 1) := by decide +kernel
theorem dX7_gather_100 : decode cX7_gather 100 = .ok (.aload_n 0, 1) := by decide +kernel
theorem dX7_gather_101 : decode cX7_gather 101 = .ok (.getfield 9, 3) := by decide +kernel
theorem dX7_gather_104 : decode cX7_gather 104 = .ok (.iload 5, 2) := by decide +kernel
theorem dX7_gather_106 : decode cX7_gather 106 = .ok (.iaload, 1) := by decide +kernel
theorem dX7_gather_107 : decode cX7_gather 107 = .ok (.invokevirtual 35, 3) := by decide +kernel
theorem dX7_gather_110 : decode cX7_gather 110 = .ok (.ifCond .eq 46, 3) := by decide +kernel
theorem dX7_gather_113 : decode cX7_gather 113 = .ok (.aload_n 0, 1) := by decide +kernel
theorem dX7_gather_114 : decode cX7_gather 114 = .ok (.getfield 15, 3) := by decide +kernel
theorem dX7_gather_117 : decode cX7_gather 117 = .ok (.iload 4, 2) := by decide +kernel
theorem dX7_gather_119 : decode cX7_gather 119 = .ok (.dup2, 1) := by decide +kernel
theorem dX7_gather_120 : decode cX7_gather 120 = .ok (.iaload, 1) := by decide +kernel
theorem dX7_gather_121 : decode cX7_gather 121 = .ok (.iconst 1, 1) := by decide +kernel
theorem dX7_gather_122 : decode cX7_gather 122 = .ok (.iload 5, 2) := by decide +kernel
theorem dX7_gather_124 : decode cX7_gather 124 = .ok (.ishl, 1) := by decide +kernel
theorem dX7_gather_125 : decode cX7_gather 125 = .ok (.ior, 1) := by decide +kernel
theorem dX7_gather_126 : decode cX7_gather 126 = .ok (.iastore, 1) := by decide +kernel
theorem dX7_gather_127 : decode cX7_gather 127 = .ok (.aload_n 0, 1) := by decide +kernel
theorem dX7_gather_128 : decode cX7_gather 128 = .ok (.getfield 20, 3) := by decide +kernel
theorem dX7_gather_131 : decode cX7_gather 131 = .ok (.iload 4, 2) := by decide +kernel
theorem dX7_gather_133 : decode cX7_gather 133 = .ok (.aaload, 1) := by decide +kernel
theorem dX7_gather_134 : decode cX7_gather 134 = .ok (.iload 5, 2) := by decide +kernel
theorem dX7_gather_136 : decode cX7_gather 136 = .ok (.aload_n 1, 1) := by decide +kernel
theorem dX7_gather_137 : decode cX7_gather 137 = .ok (.aload_n 0, 1) := by decide +kernel
theorem dX7_gather_138 : decode cX7_gather 138 = .ok (.getfield 9, 3) := by decide +kernel
theorem dX7_gather_141 : decode cX7_gather 141 = .ok (.iload 4, 2) := by decide +kernel
theorem dX7_gather_143 : decode cX7_gather 143 = .ok (.iaload, 1) := by decide +kernel
theorem dX7_gather_144 : decode cX7_gather 144 = .ok (.aload_n 0, 1) := by decide +kernel
theorem dX7_gather_145 : decode cX7_gather 145 = .ok (.getfield 9, 3) := by decide +kernel
theorem dX7_gather_148 : decode cX7_gather 148 = .ok (.iload 5, 2) := by decide +kernel
theorem dX7_gather_150 : decode cX7_gather 150 = .ok (.iaload, 1) := by decide +kernel
theorem dX7_gather_151 : decode cX7_gather 151 = .ok (.iload_n 3, 1) := by decide +kernel
theorem dX7_gather_152 : decode cX7_gather 152 = .ok (.invokestatic 39, 3) := by decide +kernel
theorem dX7_gather_155 : decode cX7_gather 155 = .ok (.iastore, 1) := by decide +kernel
theorem dX7_gather_156 : decode cX7_gather 156 = .ok (.iinc 5 1, 3) := by decide +kernel
theorem dX7_gather_159 : decode cX7_gather 159 = .ok (.goto (-83), 3) := by decide +kernel
theorem dX7_gather_162 : decode cX7_gather 162 = .ok (.iinc 4 1, 3) := by decide +kernel
theorem dX7_gather_165 : decode cX7_gather 165 = .ok (.goto (-109), 3) := by decide +kernel
theorem dX7_gather_168 : decode cX7_gather 168 = .ok (.return_, 1) := by decide +kernel
def j_X7_gather_8_47 (d : Nat) (a2 : Int32) (a3 : Int32) (N : gMem) (b4 : Int32) : Option ((Int32 × gMem) ⊕ (Int32 × gMem)) := some (.inl (b4 + 1, N))
def s_X7_gather_8 (d : Nat) (a2 : Int32) (a3 : Int32) (b4 : Int32) (N : gMem) : Option ((Int32 × gMem) ⊕ (Int32 × gMem)) := (if (N.1 d 0 13) ≤ b4 then some (.inr (b4, N)) else (if ((a2 >>> (b4 &&& 31)) &&& 1) = 0 then j_X7_gather_8_47 d a2 a3 N b4 else gd (gin (N.1 0 38 4) 7) (j_X7_gather_8_47 d a2 a3 (gwr (gwr N 0 39 (N.1 0 38 4).toNatClampNeg b4) 0 38 4 (((gwr N 0 39 (N.1 0 38 4).toNatClampNeg b4).1 0 38 4) + 1)) b4)))
def j_X7_gather_76_156 (d : Nat) (a3 : Int32) (a4 : Int32) (N : gMem) (b5 : Int32) : Option ((Int32 × gMem) ⊕ (Int32 × gMem)) := some (.inl (b5 + 1, N))
def s_X7_gather_76 (d : Nat) (a3 : Int32) (a4 : Int32) (b5 : Int32) (N : gMem) : Option ((Int32 × gMem) ⊕ (Int32 × gMem)) := (if (N.1 0 38 4) ≤ b5 then some (.inr (b5, N)) else (if a4 = b5 then j_X7_gather_76_156 d a3 a4 N b5 else gd (gin a4 7) (gd (gin b5 7) (Option.bind (x_X1_canServe N d (N.1 0 39 (a4).toNatClampNeg) (N.1 0 39 (b5).toNatClampNeg)) (fun v11 => (if v11 = 0 then j_X7_gather_76_156 d a3 a4 N b5 else gd (gin a4 7) (gd (gin a4 7) (gd (gin a4 7) (gd (gin a4 7) (gd (gin b5 7) (Option.bind (x_X7_costOf (gwr N 0 40 (a4).toNatClampNeg ((N.1 0 40 (a4).toNatClampNeg) ||| (1 <<< (b5 &&& 31)))) d ((gwr N 0 40 (a4).toNatClampNeg ((N.1 0 40 (a4).toNatClampNeg) ||| (1 <<< (b5 &&& 31)))).1 0 39 (a4).toNatClampNeg) ((gwr N 0 40 (a4).toNatClampNeg ((N.1 0 40 (a4).toNatClampNeg) ||| (1 <<< (b5 &&& 31)))).1 0 39 (b5).toNatClampNeg) a3) (fun v20 => gd (gin b5 7) (j_X7_gather_76_156 d a3 a4 (gwr (gwr N 0 40 (a4).toNatClampNeg ((N.1 0 40 (a4).toNatClampNeg) ||| (1 <<< (b5 &&& 31)))) 0 (42 + (a4).toNatClampNeg) (b5).toNatClampNeg v20) b5)))))))))))))
def s_X7_gather_56 (d : Nat) (a3 : Int32) (b4 : Int32) (N : gMem) : Option ((Int32 × gMem) ⊕ (Int32 × gMem)) := (if (N.1 0 38 4) ≤ b4 then some (.inr (b4, N)) else gd (gin b4 7) (Option.bind (itr FU (fun s => s_X7_gather_76 d a3 b4 s.1 s.2) (0, gwr N 0 40 (b4).toNatClampNeg 0)) (fun e23 => some (.inl (b4 + 1, e23.2)))))
def x_X7_gather (M : gMem) (d : Nat) (p2 : Int32) (p3 : Int32) : Option gMem := Option.bind (itr FU (fun s => s_X7_gather_8 d p2 p3 s.1 s.2) (0, gwr M 0 38 4 0)) (fun e4 => Option.bind (itr FU (fun s => s_X7_gather_56 d p3 s.1 s.2) (0, e4.2)) (fun e24 => some e24.2))
set_option maxRecDepth 100000 in
set_option maxHeartbeats 4000000 in
theorem w_X7_gather_8 {X : gX} {Y : gY} {d : Nat} {a2 : Int32} {a3 : Int32} {r : gMem} (hC : gC X Y cX7_gather "GuestStaff$Rows" 6 6 133) (hF : gF X Y none (gQv Y r)) (hd : d < 4) {e : (Int32 × gMem)} (kE : ∀ s : (Int32 × gMem), e = s → gWW X Y 6 53 [(0, .ref (gad Y 0 38)), (1, .ref (gad Y d 0)), (3, .int a3)] [] s.2) : ∀ (F : Nat) (s : (Int32 × gMem)), itr F (fun s => s_X7_gather_8 d a2 a3 s.1 s.2) s = some e → gWW X Y 6 8 [(0, .ref (gad Y 0 38)), (1, .ref (gad Y d 0)), (2, .int a2), (3, .int a3), (4, .int s.1)] [] s.2 := by
  intro F s
  refine itr_w (P := fun s => gWW X Y 6 8 [(0, .ref (gad Y 0 38)), (1, .ref (gad Y d 0)), (2, .int a2), (3, .int a3), (4, .int s.1)] [] s.2) (fun s o hx kI kx => ?_) F s
  obtain ⟨b4, N⟩ := s
  have hx : s_X7_gather_8 d a2 a3 b4 N = some o := hx
  have kE : ∀ s : (Int32 × gMem), o = .inr s → gWW X Y 6 53 [(0, .ref (gad Y 0 38)), (1, .ref (gad Y d 0)), (3, .int a3)] [] s.2 := fun s q => kE s (kx _ q).symm
  have J47 : ∀ (N : gMem) (b4 : Int32) , j_X7_gather_8_47 d a2 a3 N b4 = some o → gWW X Y 6 47 [(0, .ref (gad Y 0 38)), (1, .ref (gad Y d 0)), (2, .int a2), (3, .int a3), (4, .int b4)] [] N := by
    intro N b4 hx
    unfold j_X7_gather_8_47 at hx
    refine q_iinc hC 4 1 [(4, .int (b4 + 1)), (0, .ref (gad Y 0 38)), (1, .ref (gad Y d 0)), (2, .int a2), (3, .int a3)] dX7_gather_47 rfl rfl (by decide) rfl ?_
    refine q_goto hC 8 dX7_gather_50 rfl ?_
    exact q_sub [1, 2, 3, 4, 0] rfl (kI (b4 + 1, N) (Option.some.inj hx).symm)
  unfold s_X7_gather_8 at hx
  refine q_iload hC 4 dX7_gather_8 rfl ?_
  refine q_aload_n hC 1 dX7_gather_10 rfl rfl ?_
  refine gf_X7_30 hC hd dX7_gather_11 ?_
  refine q_ic_ge hC 53 dX7_gather_14 rfl (fun h1 => ?_) (fun h1 => ?_)
  · have hx := gi_p h1 hx
    exact q_sub [0, 1, 3] rfl (kE (b4, N) (Option.some.inj hx).symm)
  · have hx := gi_n h1 hx
    refine q_iload_n hC 2 dX7_gather_17 rfl rfl ?_
    refine q_iload hC 4 dX7_gather_18 rfl ?_
    refine q_ishr hC dX7_gather_20 ?_
    refine q_iconst hC 1 dX7_gather_21 rfl ?_
    refine q_iand hC dX7_gather_22 ?_
    refine q_if_eq hC 47 dX7_gather_23 rfl (fun h2 => ?_) (fun h2 => ?_)
    · have hx := gi_p h2 hx
      exact q_sub [0, 1, 2, 3, 4] rfl (J47 N b4 hx)
    · have hx := gi_n h2 hx
      refine q_aload_n hC 0 dX7_gather_26 rfl rfl ?_
      refine gf_X7_9 hC dX7_gather_27 ?_
      refine q_aload_n hC 0 dX7_gather_30 rfl rfl ?_
      refine gf_X7_26 hC dX7_gather_31 ?_
      refine q_iload hC 4 dX7_gather_34 rfl ?_
      have g3 := (gd_e hx).1
      have hx := (gd_e hx).2
      refine q_iast hC 6 (gV_t (by decide) (by decide)) rfl g3 dX7_gather_36 ?_
      refine q_aload_n hC 0 dX7_gather_37 rfl rfl ?_
      refine q_dup hC dX7_gather_38 rfl ?_
      refine gf_X7_26 hC dX7_gather_39 ?_
      refine q_iconst hC 1 dX7_gather_42 rfl ?_
      refine q_iadd hC dX7_gather_43 ?_
      refine pf_X7_26 hC dX7_gather_44 ?_
      exact q_sub [0, 1, 2, 3, 4] rfl (J47 (gwr (gwr N 0 39 (N.1 0 38 4).toNatClampNeg b4) 0 38 4 (((gwr N 0 39 (N.1 0 38 4).toNatClampNeg b4).1 0 38 4) + 1)) b4 hx)
set_option maxRecDepth 100000 in
set_option maxHeartbeats 4000000 in
theorem w_X7_gather_76 {X : gX} {Y : gY} {d : Nat} {a3 : Int32} {a4 : Int32} {r : gMem} (hC : gC X Y cX7_gather "GuestStaff$Rows" 6 6 133) (hF : gF X Y none (gQv Y r)) (hd : d < 4) {e : (Int32 × gMem)} (kE : ∀ s : (Int32 × gMem), e = s → gWW X Y 6 162 [(0, .ref (gad Y 0 38)), (1, .ref (gad Y d 0)), (3, .int a3), (4, .int a4)] [] s.2) : ∀ (F : Nat) (s : (Int32 × gMem)), itr F (fun s => s_X7_gather_76 d a3 a4 s.1 s.2) s = some e → gWW X Y 6 76 [(0, .ref (gad Y 0 38)), (1, .ref (gad Y d 0)), (3, .int a3), (4, .int a4), (5, .int s.1)] [] s.2 := by
  intro F s
  refine itr_w (P := fun s => gWW X Y 6 76 [(0, .ref (gad Y 0 38)), (1, .ref (gad Y d 0)), (3, .int a3), (4, .int a4), (5, .int s.1)] [] s.2) (fun s o hx kI kx => ?_) F s
  obtain ⟨b5, N⟩ := s
  have hx : s_X7_gather_76 d a3 a4 b5 N = some o := hx
  have kE : ∀ s : (Int32 × gMem), o = .inr s → gWW X Y 6 162 [(0, .ref (gad Y 0 38)), (1, .ref (gad Y d 0)), (3, .int a3), (4, .int a4)] [] s.2 := fun s q => kE s (kx _ q).symm
  have J156 : ∀ (N : gMem) (b5 : Int32) , j_X7_gather_76_156 d a3 a4 N b5 = some o → gWW X Y 6 156 [(0, .ref (gad Y 0 38)), (1, .ref (gad Y d 0)), (3, .int a3), (4, .int a4), (5, .int b5)] [] N := by
    intro N b5 hx
    unfold j_X7_gather_76_156 at hx
    refine q_iinc hC 4 1 [(5, .int (b5 + 1)), (0, .ref (gad Y 0 38)), (1, .ref (gad Y d 0)), (3, .int a3), (4, .int a4)] dX7_gather_156 rfl rfl (by decide) rfl ?_
    refine q_goto hC 76 dX7_gather_159 rfl ?_
    exact q_sub [1, 2, 3, 4, 0] rfl (kI (b5 + 1, N) (Option.some.inj hx).symm)
  unfold s_X7_gather_76 at hx
  refine q_iload hC 4 dX7_gather_76 rfl ?_
  refine q_aload_n hC 0 dX7_gather_78 rfl rfl ?_
  refine gf_X7_26 hC dX7_gather_79 ?_
  refine q_ic_ge hC 162 dX7_gather_82 rfl (fun h7 => ?_) (fun h7 => ?_)
  · have hx := gi_p h7 hx
    exact q_sub [0, 1, 2, 3] rfl (kE (b5, N) (Option.some.inj hx).symm)
  · have hx := gi_n h7 hx
    refine q_iload hC 3 dX7_gather_85 rfl ?_
    refine q_iload hC 4 dX7_gather_87 rfl ?_
    refine q_ic_eq hC 156 dX7_gather_89 rfl (fun h8 => ?_) (fun h8 => ?_)
    · have hx := gi_p h8 hx
      exact q_sub [0, 1, 2, 3, 4] rfl (J156 N b5 hx)
    · have hx := gi_n h8 hx
      refine q_aload_n hC 1 dX7_gather_92 rfl rfl ?_
      refine q_aload_n hC 0 dX7_gather_93 rfl rfl ?_
      refine gf_X7_9 hC dX7_gather_94 ?_
      refine q_iload hC 3 dX7_gather_97 rfl ?_
      have g9 := (gd_e hx).1
      have hx := (gd_e hx).2
      refine q_iald hC 6 (gV_t (by decide) (by decide)) rfl g9 dX7_gather_99 ?_
      refine q_aload_n hC 0 dX7_gather_100 rfl rfl ?_
      refine gf_X7_9 hC dX7_gather_101 ?_
      refine q_iload hC 4 dX7_gather_104 rfl ?_
      have g10 := (gd_e hx).1
      have hx := (gd_e hx).2
      refine q_iald hC 6 (gV_t (by decide) (by decide)) rfl g10 dX7_gather_106 ?_
      obtain ⟨v11, q12, hx⟩ := gb_e hx
      refine q_kzp (q_rV (As := [.int (N.1 0 39 (a4).toNatClampNeg), .int (N.1 0 39 (b5).toNatClampNeg)]) (rest := []) hC mm_X1_canServe wM_X7_35 (c_X1_canServe hd q12) ⟨rfl, rfl, Nat.le_of_ble_eq_true rfl, Nat.le_of_ble_eq_true rfl⟩ (gV_h hd (by decide)) rfl rfl rfl rfl (Nat.le_of_ble_eq_true rfl) dX7_gather_107) (fun z13 => ?_)
      refine q_if_eq hC 156 dX7_gather_110 rfl (fun h14 => ?_) (fun h14 => ?_)
      · have hx := gi_p h14 hx
        exact q_sub [0, 1, 2, 3, 4] rfl (J156 N b5 hx)
      · have hx := gi_n h14 hx
        refine q_aload_n hC 0 dX7_gather_113 rfl rfl ?_
        refine gf_X7_15 hC dX7_gather_114 ?_
        refine q_iload hC 3 dX7_gather_117 rfl ?_
        refine q_dup2 hC dX7_gather_119 rfl rfl ?_
        have g15 := (gd_e hx).1
        have hx := (gd_e hx).2
        refine q_iald hC 6 (gV_t (by decide) (by decide)) rfl g15 dX7_gather_120 ?_
        refine q_iconst hC 1 dX7_gather_121 rfl ?_
        refine q_iload hC 4 dX7_gather_122 rfl ?_
        refine q_ishl hC dX7_gather_124 ?_
        refine q_ior hC dX7_gather_125 ?_
        have g16 := (gd_e hx).1
        have hx := (gd_e hx).2
        refine q_iast hC 6 (gV_t (by decide) (by decide)) rfl g16 dX7_gather_126 ?_
        refine q_aload_n hC 0 dX7_gather_127 rfl rfl ?_
        refine gf_X7_20 hC dX7_gather_128 ?_
        refine q_iload hC 3 dX7_gather_131 rfl ?_
        have g17 := (gd_e hx).1
        have hx := (gd_e hx).2
        refine q_aald (t0 := 4) hC (gV_t (by decide) (by decide)) rfl rfl rfl g17 (grow_i g17) dX7_gather_133 ?_
        refine q_iload hC 4 dX7_gather_134 rfl ?_
        refine q_aload_n hC 1 dX7_gather_136 rfl rfl ?_
        refine q_aload_n hC 0 dX7_gather_137 rfl rfl ?_
        refine gf_X7_9 hC dX7_gather_138 ?_
        refine q_iload hC 3 dX7_gather_141 rfl ?_
        have g18 := (gd_e hx).1
        have hx := (gd_e hx).2
        refine q_iald hC 6 (gV_t (by decide) (by decide)) rfl g18 dX7_gather_143 ?_
        refine q_aload_n hC 0 dX7_gather_144 rfl rfl ?_
        refine gf_X7_9 hC dX7_gather_145 ?_
        refine q_iload hC 4 dX7_gather_148 rfl ?_
        have g19 := (gd_e hx).1
        have hx := (gd_e hx).2
        refine q_iald hC 6 (gV_t (by decide) (by decide)) rfl g19 dX7_gather_150 ?_
        refine q_iload_n hC 2 dX7_gather_151 rfl rfl ?_
        obtain ⟨v20, q21, hx⟩ := gb_e hx
        refine q_kip (q_rS (As := [.ref (gad Y d 0), .int ((gwr N 0 40 (a4).toNatClampNeg ((N.1 0 40 (a4).toNatClampNeg) ||| (1 <<< (b5 &&& 31)))).1 0 39 (a4).toNatClampNeg), .int ((gwr N 0 40 (a4).toNatClampNeg ((N.1 0 40 (a4).toNatClampNeg) ||| (1 <<< (b5 &&& 31)))).1 0 39 (b5).toNatClampNeg), .int a3]) (rest := [.int b5, .ref (gad Y 0 (42 + (a4).toNatClampNeg))]) hC mm_X7_costOf wM_X7_39 (c_X7_costOf hd q21) ⟨rfl, rfl, Nat.le_of_ble_eq_true rfl, Nat.le_of_ble_eq_true rfl⟩ rfl rfl (Nat.le_of_ble_eq_true rfl) dX7_gather_152) ?_
        have g22 := (gd_e hx).1
        have hx := (gd_e hx).2
        refine q_iast hC 6 (gV_tr 7 g17 (by decide) (by decide)) (gl_of (by decide) g17) g22 dX7_gather_155 ?_
        exact q_sub [0, 1, 2, 3, 4] rfl (J156 (gwr (gwr N 0 40 (a4).toNatClampNeg ((N.1 0 40 (a4).toNatClampNeg) ||| (1 <<< (b5 &&& 31)))) 0 (42 + (a4).toNatClampNeg) (b5).toNatClampNeg v20) b5 hx)
set_option maxRecDepth 100000 in
set_option maxHeartbeats 4000000 in
theorem w_X7_gather_56 {X : gX} {Y : gY} {d : Nat} {a3 : Int32} {r : gMem} (hC : gC X Y cX7_gather "GuestStaff$Rows" 6 6 133) (hF : gF X Y none (gQv Y r)) (hd : d < 4) {e : (Int32 × gMem)} (kE : ∀ s : (Int32 × gMem), e = s → gWW X Y 6 168 [] [] s.2) : ∀ (F : Nat) (s : (Int32 × gMem)), itr F (fun s => s_X7_gather_56 d a3 s.1 s.2) s = some e → gWW X Y 6 56 [(0, .ref (gad Y 0 38)), (1, .ref (gad Y d 0)), (3, .int a3), (4, .int s.1)] [] s.2 := by
  intro F s
  refine itr_w (P := fun s => gWW X Y 6 56 [(0, .ref (gad Y 0 38)), (1, .ref (gad Y d 0)), (3, .int a3), (4, .int s.1)] [] s.2) (fun s o hx kI kx => ?_) F s
  obtain ⟨b4, N⟩ := s
  have hx : s_X7_gather_56 d a3 b4 N = some o := hx
  have kE : ∀ s : (Int32 × gMem), o = .inr s → gWW X Y 6 168 [] [] s.2 := fun s q => kE s (kx _ q).symm
  unfold s_X7_gather_56 at hx
  refine q_iload hC 3 dX7_gather_56 rfl ?_
  refine q_aload_n hC 0 dX7_gather_58 rfl rfl ?_
  refine gf_X7_26 hC dX7_gather_59 ?_
  refine q_ic_ge hC 168 dX7_gather_62 rfl (fun h5 => ?_) (fun h5 => ?_)
  · have hx := gi_p h5 hx
    exact q_sub [] rfl (kE (b4, N) (Option.some.inj hx).symm)
  · have hx := gi_n h5 hx
    refine q_aload_n hC 0 dX7_gather_65 rfl rfl ?_
    refine gf_X7_15 hC dX7_gather_66 ?_
    refine q_iload hC 3 dX7_gather_69 rfl ?_
    refine q_iconst hC 0 dX7_gather_71 rfl ?_
    have g6 := (gd_e hx).1
    have hx := (gd_e hx).2
    refine q_iast hC 6 (gV_t (by decide) (by decide)) rfl g6 dX7_gather_72 ?_
    refine q_iconst hC 0 dX7_gather_73 rfl ?_
    refine q_istore hC [(5, .int 0), (0, .ref (gad Y 0 38)), (1, .ref (gad Y d 0)), (3, .int a3), (4, .int b4)] dX7_gather_74 (by decide) rfl ?_
    obtain ⟨e23, qe23, hx⟩ := gb_e hx
    refine q_sub [1, 2, 3, 4, 0] rfl (w_X7_gather_76 hC hF hd (e := e23) (fun s q => ?_) _ _ qe23)
    · subst q
      refine q_iinc hC 3 1 [(4, .int (b4 + 1)), (0, .ref (gad Y 0 38)), (1, .ref (gad Y d 0)), (3, .int a3)] dX7_gather_162 rfl rfl (by decide) rfl ?_
      refine q_goto hC 56 dX7_gather_165 rfl ?_
      exact q_sub [1, 2, 3, 0] rfl (kI (b4 + 1, e23.2) (Option.some.inj hx).symm)
set_option maxRecDepth 100000 in
set_option maxHeartbeats 4000000 in
theorem c_X7_gather {l : Launch} {Y : gY} {M : gMem} {d : Nat} {p2 : Int32} {p3 : Int32} {r : gMem} (hd : d < 4) (hx : x_X7_gather M d p2 p3 = some r) : Met l yX7_gather (gws yX7_gather cX7_gather 6 none) { frames := 6, cells := 0, slots := 0, locals := 133 } (va_Pc [.ref (gad Y 0 38), .ref (gad Y d 0), .int p2, .int p3] (gS0 Y M)) (gQv Y r) 0 0 (gA Y) := by
  refine gmet (lv := [(0, .ref (gad Y 0 38)), (1, .ref (gad Y d 0)), (2, .int p2), (3, .int p3)]) "GuestStaff$Rows" (by decide) rfl (Nat.le_of_ble_eq_true rfl) rfl (fun X hC hF => ?_)
  unfold x_X7_gather at hx
  refine q_aload_n hC 0 dX7_gather_0 rfl rfl ?_
  refine q_iconst hC 0 dX7_gather_1 rfl ?_
  refine pf_X7_26 hC dX7_gather_2 ?_
  refine q_iconst hC 0 dX7_gather_5 rfl ?_
  refine q_istore hC [(4, .int 0), (0, .ref (gad Y 0 38)), (1, .ref (gad Y d 0)), (2, .int p2), (3, .int p3)] dX7_gather_6 (by decide) rfl ?_
  obtain ⟨e4, qe4, hx⟩ := gb_e hx
  refine q_sub [1, 2, 3, 4, 0] rfl (w_X7_gather_8 hC hF hd (e := e4) (fun s q => ?_) _ _ qe4)
  · subst q
    refine q_iconst hC 0 dX7_gather_53 rfl ?_
    refine q_istore hC [(4, .int 0), (0, .ref (gad Y 0 38)), (1, .ref (gad Y d 0)), (3, .int p3)] dX7_gather_54 (by decide) rfl ?_
    obtain ⟨e24, qe24, hx⟩ := gb_e hx
    refine q_sub [1, 2, 3, 0] rfl (w_X7_gather_56 hC hF hd (e := e24) (fun s q => ?_) _ _ qe24)
    · subst q
      exact q_vret hC hF dX7_gather_168 (Option.some.inj hx)

theorem dX7_isOpen_0 : decode cX7_isOpen 0 = .ok (.iload_n 1, 1) := by decide +kernel
theorem dX7_isOpen_1 : decode cX7_isOpen 1 = .ok (.invokestatic 53, 3) := by decide +kernel
theorem dX7_isOpen_4 : decode cX7_isOpen 4 = .ok (.istore_n 3, 1) := by decide +kernel
theorem dX7_isOpen_5 : decode cX7_isOpen 5 = .ok (.iload_n 3, 1) := by decide +kernel
theorem dX7_isOpen_6 : decode cX7_isOpen 6 = .ok (.aload_n 0, 1) := by decide +kernel
theorem dX7_isOpen_7 : decode cX7_isOpen 7 = .ok (.getfield 26, 3) := by decide +kernel
theorem dX7_isOpen_10 : decode cX7_isOpen 10 = .ok (.if_icmp .ge 24, 3) := by decide +kernel
theorem dX7_isOpen_13 : decode cX7_isOpen 13 = .ok (.aload_n 0, 1) := by decide +kernel
theorem dX7_isOpen_14 : decode cX7_isOpen 14 = .ok (.getfield 15, 3) := by decide +kernel
theorem dX7_isOpen_17 : decode cX7_isOpen 17 = .ok (.iload_n 3, 1) := by decide +kernel
theorem dX7_isOpen_18 : decode cX7_isOpen 18 = .ok (.iaload, 1) := by decide +kernel
theorem dX7_isOpen_19 : decode cX7_isOpen 19 = .ok (.iload_n 1, 1) := by decide +kernel
theorem dX7_isOpen_20 : decode cX7_isOpen 20 = .ok (.iconst (-1), 1) := by decide +kernel
theorem dX7_isOpen_21 : decode cX7_isOpen 21 = .ok (.ixor, 1) := by decide +kernel
theorem dX7_isOpen_22 : decode cX7_isOpen 22 = .ok (.iand, 1) := by decide +kernel
theorem dX7_isOpen_23 : decode cX7_isOpen 23 = .ok (.iload_n 2, 1) := by decide +kernel
theorem dX7_isOpen_24 : decode cX7_isOpen 24 = .ok (.ishr, 1) := by decide +kernel
theorem dX7_isOpen_25 : decode cX7_isOpen 25 = .ok (.iconst 1, 1) := by decide +kernel
theorem dX7_isOpen_26 : decode cX7_isOpen 26 = .ok (.iand, 1) := by decide +kernel
theorem dX7_isOpen_27 : decode cX7_isOpen 27 = .ok (.ifCond .eq 7, 3) := by decide +kernel
theorem dX7_isOpen_30 : decode cX7_isOpen 30 = .ok (.iconst 1, 1) := by decide +kernel
theorem dX7_isOpen_31 : decode cX7_isOpen 31 = .ok (.goto 4, 3) := by decide +kernel
theorem dX7_isOpen_34 : decode cX7_isOpen 34 = .ok (.iconst 0, 1) := by decide +kernel
theorem dX7_isOpen_35 : decode cX7_isOpen 35 = .ok (.ireturn, 1) := by decide +kernel
def x_X7_isOpen (M : gMem) (p1 : Int32) (p2 : Int32) : Option Int32 := Option.bind (x_J6_bitCount_0f7a4 p1) (fun v1 => (if (M.1 0 38 4) ≤ v1 then some 0 else gd (gin v1 7) ((if ((((M.1 0 40 (v1).toNatClampNeg) &&& (p1 ^^^ (-1))) >>> (p2 &&& 31)) &&& 1) = 0 then some 0 else some 1))))
set_option maxRecDepth 100000 in
set_option maxHeartbeats 4000000 in
theorem c_X7_isOpen {l : Launch} {Y : gY} {M : gMem} {p1 : Int32} {p2 : Int32} {r : Int32} (hx : x_X7_isOpen M p1 p2 = some r) : Met l yX7_isOpen (gws yX7_isOpen cX7_isOpen 4 (some .boolean)) { frames := 1, cells := 0, slots := 0, locals := 20 } (va_Pc [.ref (gad Y 0 38), .int p1, .int p2] (gS0 Y M)) (gQz Y (r, M)) 0 0 (gA Y) := by
  refine gmet (lv := [(0, .ref (gad Y 0 38)), (1, .int p1), (2, .int p2)]) "GuestStaff$Rows" (by decide) rfl (Nat.le_of_ble_eq_true rfl) rfl (fun X hC hF => ?_)
  unfold x_X7_isOpen at hx
  refine q_iload_n hC 1 dX7_isOpen_0 rfl rfl ?_
  obtain ⟨v1, q2, hx⟩ := gb_e hx
  refine q_kip (q_rS (As := [.int p1]) (rest := []) hC mm_J6_bitCount_0f7a4 wM_X7_53 (c_J6_bitCount_0f7a4 q2) ⟨rfl, rfl, Nat.le_of_ble_eq_true rfl, Nat.le_of_ble_eq_true rfl⟩ rfl rfl (Nat.le_of_ble_eq_true rfl) dX7_isOpen_1) ?_
  refine q_istore_n hC [(3, .int v1), (0, .ref (gad Y 0 38)), (1, .int p1), (2, .int p2)] dX7_isOpen_4 rfl (by decide) rfl ?_
  refine q_iload_n hC 0 dX7_isOpen_5 rfl rfl ?_
  refine q_aload_n hC 1 dX7_isOpen_6 rfl rfl ?_
  refine gf_X7_26 hC dX7_isOpen_7 ?_
  refine q_ic_ge hC 34 dX7_isOpen_10 rfl (fun h3 => ?_) (fun h3 => ?_)
  · have hx := gi_p h3 hx
    refine q_iconst hC 0 dX7_isOpen_34 rfl ?_
    exact q_zret hC hF dX7_isOpen_35 (Or.inl rfl) (congrArg (fun z => (z, M)) (Option.some.inj hx))
  · have hx := gi_n h3 hx
    refine q_aload_n hC 1 dX7_isOpen_13 rfl rfl ?_
    refine gf_X7_15 hC dX7_isOpen_14 ?_
    refine q_iload_n hC 0 dX7_isOpen_17 rfl rfl ?_
    have g4 := (gd_e hx).1
    have hx := (gd_e hx).2
    refine q_iald hC 6 (gV_t (by decide) (by decide)) rfl g4 dX7_isOpen_18 ?_
    refine q_iload_n hC 2 dX7_isOpen_19 rfl rfl ?_
    refine q_iconst hC (-1) dX7_isOpen_20 rfl ?_
    refine q_ixor hC dX7_isOpen_21 ?_
    refine q_iand hC dX7_isOpen_22 ?_
    refine q_iload_n hC 3 dX7_isOpen_23 rfl rfl ?_
    refine q_ishr hC dX7_isOpen_24 ?_
    refine q_iconst hC 1 dX7_isOpen_25 rfl ?_
    refine q_iand hC dX7_isOpen_26 ?_
    refine q_if_eq hC 34 dX7_isOpen_27 rfl (fun h5 => ?_) (fun h5 => ?_)
    · have hx := gi_p h5 hx
      refine q_iconst hC 0 dX7_isOpen_34 rfl ?_
      exact q_zret hC hF dX7_isOpen_35 (Or.inl rfl) (congrArg (fun z => (z, M)) (Option.some.inj hx))
    · have hx := gi_n h5 hx
      refine q_iconst hC 1 dX7_isOpen_30 rfl ?_
      refine q_goto hC 35 dX7_isOpen_31 rfl ?_
      exact q_zret hC hF dX7_isOpen_35 (Or.inr rfl) (congrArg (fun z => (z, M)) (Option.some.inj hx))

theorem dX7_ways_0 : decode cX7_ways 0 = .ok (.iconst 1, 1) := by decide +kernel
theorem dX7_ways_1 : decode cX7_ways 1 = .ok (.aload_n 0, 1) := by decide +kernel
theorem dX7_ways_2 : decode cX7_ways 2 = .ok (.getfield 26, 3) := by decide +kernel
theorem dX7_ways_5 : decode cX7_ways 5 = .ok (.ishl, 1) := by decide +kernel
theorem dX7_ways_6 : decode cX7_ways 6 = .ok (.iconst 1, 1) := by decide +kernel
theorem dX7_ways_7 : decode cX7_ways 7 = .ok (.isub, 1) := by decide +kernel
theorem dX7_ways_8 : decode cX7_ways 8 = .ok (.istore_n 1, 1) := by decide +kernel
theorem dX7_ways_9 : decode cX7_ways 9 = .ok (.aload_n 0, 1) := by decide +kernel
theorem dX7_ways_10 : decode cX7_ways 10 = .ok (.getfield 23, 3) := by decide +kernel
theorem dX7_ways_13 : decode cX7_ways 13 = .ok (.iload_n 1, 1) := by decide +kernel
theorem dX7_ways_14 : decode cX7_ways 14 = .ok (.iconst 1, 1) := by decide +kernel
theorem dX7_ways_15 : decode cX7_ways 15 = .ok (.iastore, 1) := by decide +kernel
theorem dX7_ways_16 : decode cX7_ways 16 = .ok (.iload_n 1, 1) := by decide +kernel
theorem dX7_ways_17 : decode cX7_ways 17 = .ok (.iconst 1, 1) := by decide +kernel
theorem dX7_ways_18 : decode cX7_ways 18 = .ok (.isub, 1) := by decide +kernel
theorem dX7_ways_19 : decode cX7_ways 19 = .ok (.istore_n 2, 1) := by decide +kernel
theorem dX7_ways_20 : decode cX7_ways 20 = .ok (.iload_n 2, 1) := by decide +kernel
theorem dX7_ways_21 : decode cX7_ways 21 = .ok (.ifCond .lt 60, 3) := by decide +kernel
theorem dX7_ways_24 : decode cX7_ways 24 = .ok (.iconst 0, 1) := by decide +kernel
theorem dX7_ways_25 : decode cX7_ways 25 = .ok (.istore_n 3, 1) := by decide +kernel
theorem dX7_ways_26 : decode cX7_ways 26 = .ok (.iconst 0, 1) := by decide +kernel
theorem dX7_ways_27 : decode cX7_ways 27 = .ok (.istore 4, 2) := by decide +kernel
theorem dX7_ways_29 : decode cX7_ways 29 = .ok (.iload 4, 2) := by decide +kernel
theorem dX7_ways_31 : decode cX7_ways 31 = .ok (.aload_n 0, 1) := by decide +kernel
theorem dX7_ways_32 : decode cX7_ways 32 = .ok (.getfield 26, 3) := by decide +kernel
theorem dX7_ways_35 : decode cX7_ways 35 = .ok (.if_icmp .ge 33, 3) := by decide +kernel
theorem dX7_ways_38 : decode cX7_ways 38 = .ok (.aload_n 0, 1) := by decide +kernel
theorem dX7_ways_39 : decode cX7_ways 39 = .ok (.iload_n 2, 1) := by decide +kernel
theorem dX7_ways_40 : decode cX7_ways 40 = .ok (.iload 4, 2) := by decide +kernel
theorem dX7_ways_42 : decode cX7_ways 42 = .ok (.invokevirtual 59, 3) := by decide +kernel
theorem dX7_ways_45 : decode cX7_ways 45 = .ok (.ifCond .eq 17, 3) := by decide +kernel
theorem dX7_ways_48 : decode cX7_ways 48 = .ok (.iload_n 3, 1) := by decide +kernel
theorem dX7_ways_49 : decode cX7_ways 49 = .ok (.aload_n 0, 1) := by decide +kernel
theorem dX7_ways_50 : decode cX7_ways 50 = .ok (.getfield 23, 3) := by decide +kernel
theorem dX7_ways_53 : decode cX7_ways 53 = .ok (.iload_n 2, 1) := by decide +kernel
theorem dX7_ways_54 : decode cX7_ways 54 = .ok (.iconst 1, 1) := by decide +kernel
theorem dX7_ways_55 : decode cX7_ways 55 = .ok (.iload 4, 2) := by decide +kernel
theorem dX7_ways_57 : decode cX7_ways 57 = .ok (.ishl, 1) := by decide +kernel
theorem dX7_ways_58 : decode cX7_ways 58 = .ok (.ior, 1) := by decide +kernel
theorem dX7_ways_59 : decode cX7_ways 59 = .ok (.iaload, 1) := by decide +kernel
theorem dX7_ways_60 : decode cX7_ways 60 = .ok (.iadd, 1) := by decide +kernel
theorem dX7_ways_61 : decode cX7_ways 61 = .ok (.istore_n 3, 1) := by decide +kernel
theorem dX7_ways_62 : decode cX7_ways 62 = .ok (.iinc 4 1, 3) := by decide +kernel
theorem dX7_ways_65 : decode cX7_ways 65 = .ok (.goto (-36), 3) := by decide +kernel
theorem dX7_ways_68 : decode cX7_ways 68 = .ok (.aload_n 0, 1) := by decide +kernel
theorem dX7_ways_69 : decode cX7_ways 69 = .ok (.getfield 23, 3) := by decide +kernel
theorem dX7_ways_72 : decode cX7_ways 72 = .ok (.iload_n 2, 1) := by decide +kernel
theorem dX7_ways_73 : decode cX7_ways 73 = .ok (.iload_n 3, 1) := by decide +kernel
theorem dX7_ways_74 : decode cX7_ways 74 = .ok (.iastore, 1) := by decide +kernel
theorem dX7_ways_75 : decode cX7_ways 75 = .ok (.iinc 2 (-1), 3) := by decide +kernel
theorem dX7_ways_78 : decode cX7_ways 78 = .ok (.goto (-58), 3) := by decide +kernel
theorem dX7_ways_81 : decode cX7_ways 81 = .ok (.aload_n 0, 1) := by decide +kernel
theorem dX7_ways_82 : decode cX7_ways 82 = .ok (.getfield 23, 3) := by decide +kernel
theorem dX7_ways_85 : decode cX7_ways 85 = .ok (.iconst 0, 1) := by decide +kernel
theorem dX7_ways_86 : decode cX7_ways 86 = .ok (.iaload, 1) := by decide +kernel
theorem dX7_ways_87 : decode cX7_ways 87 = .ok (.ireturn, 1) := by decide +kernel
def j_X7_ways_29_62 (M : gMem) (a2 : Int32) (b3 : Int32) (b4 : Int32) : Option ((Int32 × Int32) ⊕ (Int32 × Int32)) := some (.inl (b3, b4 + 1))
def s_X7_ways_29 (M : gMem) (a2 : Int32) (b3 : Int32) (b4 : Int32) : Option ((Int32 × Int32) ⊕ (Int32 × Int32)) := (if (M.1 0 38 4) ≤ b4 then some (.inr (b3, b4)) else Option.bind (x_X7_isOpen M a2 b4) (fun v4 => (if v4 = 0 then j_X7_ways_29_62 M a2 b3 b4 else gd (gin (a2 ||| (1 <<< (b4 &&& 31))) 128) (j_X7_ways_29_62 M a2 (b3 + (M.1 0 49 (a2 ||| (1 <<< (b4 &&& 31))).toNatClampNeg)) b4))))
def s_X7_ways_20 (b2 : Int32) (N : gMem) : Option ((Int32 × gMem) ⊕ (Int32 × gMem)) := (if b2 < 0 then some (.inr (b2, N)) else Option.bind (itr FU (fun s => s_X7_ways_29 N b2 s.1 s.2) (0, 0)) (fun e9 => gd (gin b2 128) (some (.inl (b2 + (-1), gwr N 0 49 (b2).toNatClampNeg e9.1)))))
def x_X7_ways (M : gMem) : Option (Int32 × gMem) := gd (gin ((1 <<< ((M.1 0 38 4) &&& 31)) - 1) 128) (Option.bind (itr FU (fun s => s_X7_ways_20 s.1 s.2) (((1 <<< ((M.1 0 38 4) &&& 31)) - 1) - 1, gwr M 0 49 ((1 <<< ((M.1 0 38 4) &&& 31)) - 1).toNatClampNeg 1)) (fun e11 => some (e11.2.1 0 49 0, e11.2)))
set_option maxRecDepth 100000 in
set_option maxHeartbeats 4000000 in
theorem w_X7_ways_29 {X : gX} {Y : gY} {M : gMem} {a2 : Int32} {r : (Int32 × gMem)} (hC : gC X Y cX7_ways "GuestStaff$Rows" 5 2 43) (hF : gF X Y (some .int) (gQi Y r)) {e : (Int32 × Int32)} (kE : ∀ s : (Int32 × Int32), e = s → gWW X Y 5 68 [(0, .ref (gad Y 0 38)), (2, .int a2), (3, .int s.1)] [] M) : ∀ (F : Nat) (s : (Int32 × Int32)), itr F (fun s => s_X7_ways_29 M a2 s.1 s.2) s = some e → gWW X Y 5 29 [(0, .ref (gad Y 0 38)), (2, .int a2), (3, .int s.1), (4, .int s.2)] [] M := by
  intro F s
  refine itr_w (P := fun s => gWW X Y 5 29 [(0, .ref (gad Y 0 38)), (2, .int a2), (3, .int s.1), (4, .int s.2)] [] M) (fun s o hx kI kx => ?_) F s
  obtain ⟨b3, b4⟩ := s
  have hx : s_X7_ways_29 M a2 b3 b4 = some o := hx
  have kE : ∀ s : (Int32 × Int32), o = .inr s → gWW X Y 5 68 [(0, .ref (gad Y 0 38)), (2, .int a2), (3, .int s.1)] [] M := fun s q => kE s (kx _ q).symm
  have J62 : ∀ (b3 : Int32) (b4 : Int32) , j_X7_ways_29_62 M a2 b3 b4 = some o → gWW X Y 5 62 [(0, .ref (gad Y 0 38)), (2, .int a2), (3, .int b3), (4, .int b4)] [] M := by
    intro b3 b4 hx
    unfold j_X7_ways_29_62 at hx
    refine q_iinc hC 3 1 [(4, .int (b4 + 1)), (0, .ref (gad Y 0 38)), (2, .int a2), (3, .int b3)] dX7_ways_62 rfl rfl (by decide) rfl ?_
    refine q_goto hC 29 dX7_ways_65 rfl ?_
    exact q_sub [1, 2, 3, 0] rfl (kI (b3, b4 + 1) (Option.some.inj hx).symm)
  unfold s_X7_ways_29 at hx
  refine q_iload hC 3 dX7_ways_29 rfl ?_
  refine q_aload_n hC 0 dX7_ways_31 rfl rfl ?_
  refine gf_X7_26 hC dX7_ways_32 ?_
  refine q_ic_ge hC 68 dX7_ways_35 rfl (fun h3 => ?_) (fun h3 => ?_)
  · have hx := gi_p h3 hx
    exact q_sub [0, 1, 2] rfl (kE (b3, b4) (Option.some.inj hx).symm)
  · have hx := gi_n h3 hx
    refine q_aload_n hC 0 dX7_ways_38 rfl rfl ?_
    refine q_iload_n hC 1 dX7_ways_39 rfl rfl ?_
    refine q_iload hC 3 dX7_ways_40 rfl ?_
    obtain ⟨v4, q5, hx⟩ := gb_e hx
    refine q_kzp (q_rV (As := [.int a2, .int b4]) (rest := []) hC mm_X7_isOpen wM_X7_59 (c_X7_isOpen q5) ⟨rfl, rfl, Nat.le_of_ble_eq_true rfl, Nat.le_of_ble_eq_true rfl⟩ (gV_t (by decide) (by decide)) rfl rfl rfl rfl (Nat.le_of_ble_eq_true rfl) dX7_ways_42) (fun z6 => ?_)
    refine q_if_eq hC 62 dX7_ways_45 rfl (fun h7 => ?_) (fun h7 => ?_)
    · have hx := gi_p h7 hx
      exact q_sub [0, 1, 2, 3] rfl (J62 b3 b4 hx)
    · have hx := gi_n h7 hx
      refine q_iload_n hC 2 dX7_ways_48 rfl rfl ?_
      refine q_aload_n hC 0 dX7_ways_49 rfl rfl ?_
      refine gf_X7_23 hC dX7_ways_50 ?_
      refine q_iload_n hC 1 dX7_ways_53 rfl rfl ?_
      refine q_iconst hC 1 dX7_ways_54 rfl ?_
      refine q_iload hC 3 dX7_ways_55 rfl ?_
      refine q_ishl hC dX7_ways_57 ?_
      refine q_ior hC dX7_ways_58 ?_
      have g8 := (gd_e hx).1
      have hx := (gd_e hx).2
      refine q_iald hC 127 (gV_t (by decide) (by decide)) rfl g8 dX7_ways_59 ?_
      refine q_iadd hC dX7_ways_60 ?_
      refine q_istore_n hC [(3, .int (b3 + (M.1 0 49 (a2 ||| (1 <<< (b4 &&& 31))).toNatClampNeg))), (0, .ref (gad Y 0 38)), (2, .int a2), (4, .int b4)] dX7_ways_61 rfl (by decide) rfl ?_
      exact q_sub [1, 2, 0, 3] rfl (J62 (b3 + (M.1 0 49 (a2 ||| (1 <<< (b4 &&& 31))).toNatClampNeg)) b4 hx)
set_option maxRecDepth 100000 in
set_option maxHeartbeats 4000000 in
theorem w_X7_ways_20 {X : gX} {Y : gY} {r : (Int32 × gMem)} (hC : gC X Y cX7_ways "GuestStaff$Rows" 5 2 43) (hF : gF X Y (some .int) (gQi Y r)) {e : (Int32 × gMem)} (kE : ∀ s : (Int32 × gMem), e = s → gWW X Y 5 81 [(0, .ref (gad Y 0 38))] [] s.2) : ∀ (F : Nat) (s : (Int32 × gMem)), itr F (fun s => s_X7_ways_20 s.1 s.2) s = some e → gWW X Y 5 20 [(0, .ref (gad Y 0 38)), (2, .int s.1)] [] s.2 := by
  intro F s
  refine itr_w (P := fun s => gWW X Y 5 20 [(0, .ref (gad Y 0 38)), (2, .int s.1)] [] s.2) (fun s o hx kI kx => ?_) F s
  obtain ⟨b2, N⟩ := s
  have hx : s_X7_ways_20 b2 N = some o := hx
  have kE : ∀ s : (Int32 × gMem), o = .inr s → gWW X Y 5 81 [(0, .ref (gad Y 0 38))] [] s.2 := fun s q => kE s (kx _ q).symm
  unfold s_X7_ways_20 at hx
  refine q_iload_n hC 1 dX7_ways_20 rfl rfl ?_
  refine q_if_lt hC 81 dX7_ways_21 rfl (fun h2 => ?_) (fun h2 => ?_)
  · have hx := gi_p h2 hx
    exact q_sub [0] rfl (kE (b2, N) (Option.some.inj hx).symm)
  · have hx := gi_n h2 hx
    refine q_iconst hC 0 dX7_ways_24 rfl ?_
    refine q_istore_n hC [(3, .int 0), (0, .ref (gad Y 0 38)), (2, .int b2)] dX7_ways_25 rfl (by decide) rfl ?_
    refine q_iconst hC 0 dX7_ways_26 rfl ?_
    refine q_istore hC [(4, .int 0), (3, .int 0), (0, .ref (gad Y 0 38)), (2, .int b2)] dX7_ways_27 (by decide) rfl ?_
    obtain ⟨e9, qe9, hx⟩ := gb_e hx
    refine q_sub [2, 3, 1, 0] rfl (w_X7_ways_29 hC hF (e := e9) (fun s q => ?_) _ _ qe9)
    · subst q
      refine q_aload_n hC 0 dX7_ways_68 rfl rfl ?_
      refine gf_X7_23 hC dX7_ways_69 ?_
      refine q_iload_n hC 1 dX7_ways_72 rfl rfl ?_
      refine q_iload_n hC 2 dX7_ways_73 rfl rfl ?_
      have g10 := (gd_e hx).1
      have hx := (gd_e hx).2
      refine q_iast hC 127 (gV_t (by decide) (by decide)) rfl g10 dX7_ways_74 ?_
      refine q_iinc hC 1 (-1) [(2, .int (b2 + (-1))), (0, .ref (gad Y 0 38)), (3, .int e9.1)] dX7_ways_75 rfl rfl (by decide) rfl ?_
      refine q_goto hC 20 dX7_ways_78 rfl ?_
      exact q_sub [1, 0] rfl (kI (b2 + (-1), gwr N 0 49 (b2).toNatClampNeg e9.1) (Option.some.inj hx).symm)
set_option maxRecDepth 100000 in
set_option maxHeartbeats 4000000 in
theorem c_X7_ways {l : Launch} {Y : gY} {M : gMem} {r : (Int32 × gMem)} (hx : x_X7_ways M = some r) : Met l yX7_ways (gws yX7_ways cX7_ways 5 (some .int)) { frames := 2, cells := 0, slots := 0, locals := 43 } (va_Pc [.ref (gad Y 0 38)] (gS0 Y M)) (gQi Y r) 0 0 (gA Y) := by
  refine gmet (lv := [(0, .ref (gad Y 0 38))]) "GuestStaff$Rows" (by decide) rfl (Nat.le_of_ble_eq_true rfl) rfl (fun X hC hF => ?_)
  unfold x_X7_ways at hx
  refine q_iconst hC 1 dX7_ways_0 rfl ?_
  refine q_aload_n hC 0 dX7_ways_1 rfl rfl ?_
  refine gf_X7_26 hC dX7_ways_2 ?_
  refine q_ishl hC dX7_ways_5 ?_
  refine q_iconst hC 1 dX7_ways_6 rfl ?_
  refine q_isub hC dX7_ways_7 ?_
  refine q_istore_n hC [(1, .int ((1 <<< ((M.1 0 38 4) &&& 31)) - 1)), (0, .ref (gad Y 0 38))] dX7_ways_8 rfl (by decide) rfl ?_
  refine q_aload_n hC 1 dX7_ways_9 rfl rfl ?_
  refine gf_X7_23 hC dX7_ways_10 ?_
  refine q_iload_n hC 0 dX7_ways_13 rfl rfl ?_
  refine q_iconst hC 1 dX7_ways_14 rfl ?_
  have g1 := (gd_e hx).1
  have hx := (gd_e hx).2
  refine q_iast hC 127 (gV_t (by decide) (by decide)) rfl g1 dX7_ways_15 ?_
  refine q_iload_n hC 0 dX7_ways_16 rfl rfl ?_
  refine q_iconst hC 1 dX7_ways_17 rfl ?_
  refine q_isub hC dX7_ways_18 ?_
  refine q_istore_n hC [(2, .int (((1 <<< ((M.1 0 38 4) &&& 31)) - 1) - 1)), (1, .int ((1 <<< ((M.1 0 38 4) &&& 31)) - 1)), (0, .ref (gad Y 0 38))] dX7_ways_19 rfl (by decide) rfl ?_
  obtain ⟨e11, qe11, hx⟩ := gb_e hx
  refine q_sub [2, 0] rfl (w_X7_ways_20 hC hF (e := e11) (fun s q => ?_) _ _ qe11)
  · subst q
    refine q_aload_n hC 0 dX7_ways_81 rfl rfl ?_
    refine gf_X7_23 hC dX7_ways_82 ?_
    refine q_iconst hC 0 dX7_ways_85 rfl ?_
    refine q_ialdk hC 0 127 (gV_t (by decide) (by decide)) rfl (by decide) rfl dX7_ways_86 ?_
    exact q_iret hC hF dX7_ways_87 (Option.some.inj hx)

theorem dX7_costThrough_0 : decode cX7_costThrough 0 = .ok (.aload_n 0, 1) := by decide +kernel
theorem dX7_costThrough_1 : decode cX7_costThrough 1 = .ok (.getfield 23, 3) := by decide +kernel
theorem dX7_costThrough_4 : decode cX7_costThrough 4 = .ok (.iload_n 1, 1) := by decide +kernel
theorem dX7_costThrough_5 : decode cX7_costThrough 5 = .ok (.iconst 1, 1) := by decide +kernel
theorem dX7_costThrough_6 : decode cX7_costThrough 6 = .ok (.iload_n 2, 1) := by decide +kernel
theorem dX7_costThrough_7 : decode cX7_costThrough 7 = .ok (.ishl, 1) := by decide +kernel
theorem dX7_costThrough_8 : decode cX7_costThrough 8 = .ok (.ior, 1) := by decide +kernel
theorem dX7_costThrough_9 : decode cX7_costThrough 9 = .ok (.iaload, 1) := by decide +kernel
theorem dX7_costThrough_10 : decode cX7_costThrough 10 = .ok (.istore_n 3, 1) := by decide +kernel
theorem dX7_costThrough_11 : decode cX7_costThrough 11 = .ok (.iload_n 3, 1) := by decide +kernel
theorem dX7_costThrough_12 : decode cX7_costThrough 12 = .ok (.ldc 62, 2) := by decide +kernel
theorem dX7_costThrough_14 : decode cX7_costThrough 14 = .ok (.if_icmp .ne 8, 3) := by decide +kernel
theorem dX7_costThrough_17 : decode cX7_costThrough 17 = .ok (.ldc 62, 2) := by decide +kernel
theorem dX7_costThrough_19 : decode cX7_costThrough 19 = .ok (.goto 16, 3) := by decide +kernel
theorem dX7_costThrough_22 : decode cX7_costThrough 22 = .ok (.iload_n 3, 1) := by decide +kernel
theorem dX7_costThrough_23 : decode cX7_costThrough 23 = .ok (.aload_n 0, 1) := by decide +kernel
theorem dX7_costThrough_24 : decode cX7_costThrough 24 = .ok (.getfield 20, 3) := by decide +kernel
theorem dX7_costThrough_27 : decode cX7_costThrough 27 = .ok (.iload_n 1, 1) := by decide +kernel
theorem dX7_costThrough_28 : decode cX7_costThrough 28 = .ok (.invokestatic 53, 3) := by decide +kernel
theorem dX7_costThrough_31 : decode cX7_costThrough 31 = .ok (.aaload, 1) := by decide +kernel
theorem dX7_costThrough_32 : decode cX7_costThrough 32 = .ok (.iload_n 2, 1) := by decide +kernel
theorem dX7_costThrough_33 : decode cX7_costThrough 33 = .ok (.iaload, 1) := by decide +kernel
theorem dX7_costThrough_34 : decode cX7_costThrough 34 = .ok (.iadd, 1) := by decide +kernel
theorem dX7_costThrough_35 : decode cX7_costThrough 35 = .ok (.ireturn, 1) := by decide +kernel
def x_X7_costThrough (M : gMem) (p1 : Int32) (p2 : Int32) : Option Int32 := gd (gin (p1 ||| (1 <<< (p2 &&& 31))) 128) ((if (M.1 0 49 (p1 ||| (1 <<< (p2 &&& 31))).toNatClampNeg) = 1000000 then some 1000000 else Option.bind (x_J6_bitCount_0f7a4 p1) (fun v3 => gd (gin v3 7) (gd (gin p2 7) (some ((M.1 0 49 (p1 ||| (1 <<< (p2 &&& 31))).toNatClampNeg) + (M.1 0 (42 + (v3).toNatClampNeg) (p2).toNatClampNeg)))))))
set_option maxRecDepth 100000 in
set_option maxHeartbeats 4000000 in
theorem c_X7_costThrough {l : Launch} {Y : gY} {M : gMem} {p1 : Int32} {p2 : Int32} {r : Int32} (hx : x_X7_costThrough M p1 p2 = some r) : Met l yX7_costThrough (gws yX7_costThrough cX7_costThrough 4 (some .int)) { frames := 1, cells := 0, slots := 0, locals := 20 } (va_Pc [.ref (gad Y 0 38), .int p1, .int p2] (gS0 Y M)) (gQi Y (r, M)) 0 0 (gA Y) := by
  refine gmet (lv := [(0, .ref (gad Y 0 38)), (1, .int p1), (2, .int p2)]) "GuestStaff$Rows" (by decide) rfl (Nat.le_of_ble_eq_true rfl) rfl (fun X hC hF => ?_)
  unfold x_X7_costThrough at hx
  refine q_aload_n hC 0 dX7_costThrough_0 rfl rfl ?_
  refine gf_X7_23 hC dX7_costThrough_1 ?_
  refine q_iload_n hC 1 dX7_costThrough_4 rfl rfl ?_
  refine q_iconst hC 1 dX7_costThrough_5 rfl ?_
  refine q_iload_n hC 2 dX7_costThrough_6 rfl rfl ?_
  refine q_ishl hC dX7_costThrough_7 ?_
  refine q_ior hC dX7_costThrough_8 ?_
  have g1 := (gd_e hx).1
  have hx := (gd_e hx).2
  refine q_iald hC 127 (gV_t (by decide) (by decide)) rfl g1 dX7_costThrough_9 ?_
  refine q_istore_n hC [(3, .int (M.1 0 49 (p1 ||| (1 <<< (p2 &&& 31))).toNatClampNeg)), (0, .ref (gad Y 0 38)), (1, .int p1), (2, .int p2)] dX7_costThrough_10 rfl (by decide) rfl ?_
  refine q_iload_n hC 0 dX7_costThrough_11 rfl rfl ?_
  refine q_ldc hC 1000000 dX7_costThrough_12 wC_X7_62 ?_
  refine q_ic_ne hC 22 dX7_costThrough_14 rfl (fun h2 => ?_) (fun h2 => ?_)
  · have hx := gi_n h2 hx
    refine q_iload_n hC 0 dX7_costThrough_22 rfl rfl ?_
    refine q_aload_n hC 1 dX7_costThrough_23 rfl rfl ?_
    refine gf_X7_20 hC dX7_costThrough_24 ?_
    refine q_iload_n hC 2 dX7_costThrough_27 rfl rfl ?_
    obtain ⟨v3, q4, hx⟩ := gb_e hx
    refine q_kip (q_rS (As := [.int p1]) (rest := [.ref (gad Y 0 41), .int (M.1 0 49 (p1 ||| (1 <<< (p2 &&& 31))).toNatClampNeg)]) hC mm_J6_bitCount_0f7a4 wM_X7_53 (c_J6_bitCount_0f7a4 q4) ⟨rfl, rfl, Nat.le_of_ble_eq_true rfl, Nat.le_of_ble_eq_true rfl⟩ rfl rfl (Nat.le_of_ble_eq_true rfl) dX7_costThrough_28) ?_
    have g5 := (gd_e hx).1
    have hx := (gd_e hx).2
    refine q_aald (t0 := 4) hC (gV_t (by decide) (by decide)) rfl rfl rfl g5 (grow_i g5) dX7_costThrough_31 ?_
    refine q_iload_n hC 3 dX7_costThrough_32 rfl rfl ?_
    have g6 := (gd_e hx).1
    have hx := (gd_e hx).2
    refine q_iald hC 6 (gV_tr 7 g5 (by decide) (by decide)) (gl_of (by decide) g5) g6 dX7_costThrough_33 ?_
    refine q_iadd hC dX7_costThrough_34 ?_
    exact q_iret hC hF dX7_costThrough_35 (congrArg (fun z => (z, M)) (Option.some.inj hx))
  · have hx := gi_p h2 hx
    refine q_ldc hC 1000000 dX7_costThrough_17 wC_X7_62 ?_
    refine q_goto hC 35 dX7_costThrough_19 rfl ?_
    exact q_iret hC hF dX7_costThrough_35 (congrArg (fun z => (z, M)) (Option.some.inj hx))

theorem dX7_leastCost_0 : decode cX7_leastCost 0 = .ok (.iconst 1, 1) := by decide +kernel
theorem dX7_leastCost_1 : decode cX7_leastCost 1 = .ok (.aload_n 0, 1) := by decide +kernel
theorem dX7_leastCost_2 : decode cX7_leastCost 2 = .ok (.getfield 26, 3) := by decide +kernel
theorem dX7_leastCost_5 : decode cX7_leastCost 5 = .ok (.ishl, 1) := by decide +kernel
theorem dX7_leastCost_6 : decode cX7_leastCost 6 = .ok (.iconst 1, 1) := by decide +kernel
theorem dX7_leastCost_7 : decode cX7_leastCost 7 = .ok (.isub, 1) := by decide +kernel
theorem dX7_leastCost_8 : decode cX7_leastCost 8 = .ok (.istore_n 1, 1) := by decide +kernel
theorem dX7_leastCost_9 : decode cX7_leastCost 9 = .ok (.aload_n 0, 1) := by decide +kernel
theorem dX7_leastCost_10 : decode cX7_leastCost 10 = .ok (.getfield 23, 3) := by decide +kernel
theorem dX7_leastCost_13 : decode cX7_leastCost 13 = .ok (.iload_n 1, 1) := by decide +kernel
theorem dX7_leastCost_14 : decode cX7_leastCost 14 = .ok (.iconst 0, 1) := by decide +kernel
theorem dX7_leastCost_15 : decode cX7_leastCost 15 = .ok (.iastore, 1) := by decide +kernel
theorem dX7_leastCost_16 : decode cX7_leastCost 16 = .ok (.iload_n 1, 1) := by decide +kernel
theorem dX7_leastCost_17 : decode cX7_leastCost 17 = .ok (.iconst 1, 1) := by decide +kernel
theorem dX7_leastCost_18 : decode cX7_leastCost 18 = .ok (.isub, 1) := by decide +kernel
theorem dX7_leastCost_19 : decode cX7_leastCost 19 = .ok (.istore_n 2, 1) := by decide +kernel
theorem dX7_leastCost_20 : decode cX7_leastCost 20 = .ok (.iload_n 2, 1) := by decide +kernel
theorem dX7_leastCost_21 : decode cX7_leastCost 21 = .ok (.ifCond .lt 59, 3) := by decide +kernel
theorem dX7_leastCost_24 : decode cX7_leastCost 24 = .ok (.ldc 62, 2) := by decide +kernel
theorem dX7_leastCost_26 : decode cX7_leastCost 26 = .ok (.istore_n 3, 1) := by decide +kernel
theorem dX7_leastCost_27 : decode cX7_leastCost 27 = .ok (.iconst 0, 1) := by decide +kernel
theorem dX7_leastCost_28 : decode cX7_leastCost 28 = .ok (.istore 4, 2) := by decide +kernel
theorem dX7_leastCost_30 : decode cX7_leastCost 30 = .ok (.iload 4, 2) := by decide +kernel
theorem dX7_leastCost_32 : decode cX7_leastCost 32 = .ok (.aload_n 0, 1) := by decide +kernel
theorem dX7_leastCost_33 : decode cX7_leastCost 33 = .ok (.getfield 26, 3) := by decide +kernel
theorem dX7_leastCost_36 : decode cX7_leastCost 36 = .ok (.if_icmp .ge 31, 3) := by decide +kernel
theorem dX7_leastCost_39 : decode cX7_leastCost 39 = .ok (.aload_n 0, 1) := by decide +kernel
theorem dX7_leastCost_40 : decode cX7_leastCost 40 = .ok (.iload_n 2, 1) := by decide +kernel
theorem dX7_leastCost_41 : decode cX7_leastCost 41 = .ok (.iload 4, 2) := by decide +kernel
theorem dX7_leastCost_43 : decode cX7_leastCost 43 = .ok (.invokevirtual 59, 3) := by decide +kernel
theorem dX7_leastCost_46 : decode cX7_leastCost 46 = .ok (.ifCond .eq 15, 3) := by decide +kernel
theorem dX7_leastCost_49 : decode cX7_leastCost 49 = .ok (.iload_n 3, 1) := by decide +kernel
theorem dX7_leastCost_50 : decode cX7_leastCost 50 = .ok (.aload_n 0, 1) := by decide +kernel
theorem dX7_leastCost_51 : decode cX7_leastCost 51 = .ok (.iload_n 2, 1) := by decide +kernel
theorem dX7_leastCost_52 : decode cX7_leastCost 52 = .ok (.iload 4, 2) := by decide +kernel
theorem dX7_leastCost_54 : decode cX7_leastCost 54 = .ok (.invokevirtual 63, 3) := by decide +kernel
theorem dX7_leastCost_57 : decode cX7_leastCost 57 = .ok (.invokestatic 66, 3) := by decide +kernel
theorem dX7_leastCost_60 : decode cX7_leastCost 60 = .ok (.istore_n 3, 1) := by decide +kernel
theorem dX7_leastCost_61 : decode cX7_leastCost 61 = .ok (.iinc 4 1, 3) := by decide +kernel
theorem dX7_leastCost_64 : decode cX7_leastCost 64 = .ok (.goto (-34), 3) := by decide +kernel
theorem dX7_leastCost_67 : decode cX7_leastCost 67 = .ok (.aload_n 0, 1) := by decide +kernel
theorem dX7_leastCost_68 : decode cX7_leastCost 68 = .ok (.getfield 23, 3) := by decide +kernel
theorem dX7_leastCost_71 : decode cX7_leastCost 71 = .ok (.iload_n 2, 1) := by decide +kernel
theorem dX7_leastCost_72 : decode cX7_leastCost 72 = .ok (.iload_n 3, 1) := by decide +kernel
theorem dX7_leastCost_73 : decode cX7_leastCost 73 = .ok (.iastore, 1) := by decide +kernel
theorem dX7_leastCost_74 : decode cX7_leastCost 74 = .ok (.iinc 2 (-1), 3) := by decide +kernel
theorem dX7_leastCost_77 : decode cX7_leastCost 77 = .ok (.goto (-57), 3) := by decide +kernel
theorem dX7_leastCost_80 : decode cX7_leastCost 80 = .ok (.aload_n 0, 1) := by decide +kernel
theorem dX7_leastCost_81 : decode cX7_leastCost 81 = .ok (.getfield 23, 3) := by decide +kernel
theorem dX7_leastCost_84 : decode cX7_leastCost 84 = .ok (.iconst 0, 1) := by decide +kernel
theorem dX7_leastCost_85 : decode cX7_leastCost 85 = .ok (.iaload, 1) := by decide +kernel
theorem dX7_leastCost_86 : decode cX7_leastCost 86 = .ok (.ireturn, 1) := by decide +kernel
def j_X7_leastCost_30_61 (M : gMem) (a2 : Int32) (b3 : Int32) (b4 : Int32) : Option ((Int32 × Int32) ⊕ (Int32 × Int32)) := some (.inl (b3, b4 + 1))
def s_X7_leastCost_30 (M : gMem) (a2 : Int32) (b3 : Int32) (b4 : Int32) : Option ((Int32 × Int32) ⊕ (Int32 × Int32)) := (if (M.1 0 38 4) ≤ b4 then some (.inr (b3, b4)) else Option.bind (x_X7_isOpen M a2 b4) (fun v4 => (if v4 = 0 then j_X7_leastCost_30_61 M a2 b3 b4 else Option.bind (x_X7_costThrough M a2 b4) (fun v8 => j_X7_leastCost_30_61 M a2 (if v8 < b3 then v8 else b3) b4))))
def s_X7_leastCost_20 (b2 : Int32) (N : gMem) : Option ((Int32 × gMem) ⊕ (Int32 × gMem)) := (if b2 < 0 then some (.inr (b2, N)) else Option.bind (itr FU (fun s => s_X7_leastCost_30 N b2 s.1 s.2) (1000000, 0)) (fun e10 => gd (gin b2 128) (some (.inl (b2 + (-1), gwr N 0 49 (b2).toNatClampNeg e10.1)))))
def x_X7_leastCost (M : gMem) : Option (Int32 × gMem) := gd (gin ((1 <<< ((M.1 0 38 4) &&& 31)) - 1) 128) (Option.bind (itr FU (fun s => s_X7_leastCost_20 s.1 s.2) (((1 <<< ((M.1 0 38 4) &&& 31)) - 1) - 1, gwr M 0 49 ((1 <<< ((M.1 0 38 4) &&& 31)) - 1).toNatClampNeg 0)) (fun e12 => some (e12.2.1 0 49 0, e12.2)))
set_option maxRecDepth 100000 in
set_option maxHeartbeats 4000000 in
theorem w_X7_leastCost_30 {X : gX} {Y : gY} {M : gMem} {a2 : Int32} {r : (Int32 × gMem)} (hC : gC X Y cX7_leastCost "GuestStaff$Rows" 5 2 43) (hF : gF X Y (some .int) (gQi Y r)) {e : (Int32 × Int32)} (kE : ∀ s : (Int32 × Int32), e = s → gWW X Y 5 67 [(0, .ref (gad Y 0 38)), (2, .int a2), (3, .int s.1)] [] M) : ∀ (F : Nat) (s : (Int32 × Int32)), itr F (fun s => s_X7_leastCost_30 M a2 s.1 s.2) s = some e → gWW X Y 5 30 [(0, .ref (gad Y 0 38)), (2, .int a2), (3, .int s.1), (4, .int s.2)] [] M := by
  intro F s
  refine itr_w (P := fun s => gWW X Y 5 30 [(0, .ref (gad Y 0 38)), (2, .int a2), (3, .int s.1), (4, .int s.2)] [] M) (fun s o hx kI kx => ?_) F s
  obtain ⟨b3, b4⟩ := s
  have hx : s_X7_leastCost_30 M a2 b3 b4 = some o := hx
  have kE : ∀ s : (Int32 × Int32), o = .inr s → gWW X Y 5 67 [(0, .ref (gad Y 0 38)), (2, .int a2), (3, .int s.1)] [] M := fun s q => kE s (kx _ q).symm
  have J61 : ∀ (b3 : Int32) (b4 : Int32) , j_X7_leastCost_30_61 M a2 b3 b4 = some o → gWW X Y 5 61 [(0, .ref (gad Y 0 38)), (2, .int a2), (3, .int b3), (4, .int b4)] [] M := by
    intro b3 b4 hx
    unfold j_X7_leastCost_30_61 at hx
    refine q_iinc hC 3 1 [(4, .int (b4 + 1)), (0, .ref (gad Y 0 38)), (2, .int a2), (3, .int b3)] dX7_leastCost_61 rfl rfl (by decide) rfl ?_
    refine q_goto hC 30 dX7_leastCost_64 rfl ?_
    exact q_sub [1, 2, 3, 0] rfl (kI (b3, b4 + 1) (Option.some.inj hx).symm)
  unfold s_X7_leastCost_30 at hx
  refine q_iload hC 3 dX7_leastCost_30 rfl ?_
  refine q_aload_n hC 0 dX7_leastCost_32 rfl rfl ?_
  refine gf_X7_26 hC dX7_leastCost_33 ?_
  refine q_ic_ge hC 67 dX7_leastCost_36 rfl (fun h3 => ?_) (fun h3 => ?_)
  · have hx := gi_p h3 hx
    exact q_sub [0, 1, 2] rfl (kE (b3, b4) (Option.some.inj hx).symm)
  · have hx := gi_n h3 hx
    refine q_aload_n hC 0 dX7_leastCost_39 rfl rfl ?_
    refine q_iload_n hC 1 dX7_leastCost_40 rfl rfl ?_
    refine q_iload hC 3 dX7_leastCost_41 rfl ?_
    obtain ⟨v4, q5, hx⟩ := gb_e hx
    refine q_kzp (q_rV (As := [.int a2, .int b4]) (rest := []) hC mm_X7_isOpen wM_X7_59 (c_X7_isOpen q5) ⟨rfl, rfl, Nat.le_of_ble_eq_true rfl, Nat.le_of_ble_eq_true rfl⟩ (gV_t (by decide) (by decide)) rfl rfl rfl rfl (Nat.le_of_ble_eq_true rfl) dX7_leastCost_43) (fun z6 => ?_)
    refine q_if_eq hC 61 dX7_leastCost_46 rfl (fun h7 => ?_) (fun h7 => ?_)
    · have hx := gi_p h7 hx
      exact q_sub [0, 1, 2, 3] rfl (J61 b3 b4 hx)
    · have hx := gi_n h7 hx
      refine q_iload_n hC 2 dX7_leastCost_49 rfl rfl ?_
      refine q_aload_n hC 0 dX7_leastCost_50 rfl rfl ?_
      refine q_iload_n hC 1 dX7_leastCost_51 rfl rfl ?_
      refine q_iload hC 3 dX7_leastCost_52 rfl ?_
      obtain ⟨v8, q9, hx⟩ := gb_e hx
      refine q_kip (q_rV (As := [.int a2, .int b4]) (rest := [.int b3]) hC mm_X7_costThrough wM_X7_63 (c_X7_costThrough q9) ⟨rfl, rfl, Nat.le_of_ble_eq_true rfl, Nat.le_of_ble_eq_true rfl⟩ (gV_t (by decide) (by decide)) rfl rfl rfl rfl (Nat.le_of_ble_eq_true rfl) dX7_leastCost_54) ?_
      refine q_min hC wM_X7_66 (by decide) (Nat.le_of_ble_eq_true rfl) dX7_leastCost_57 ?_
      refine q_istore_n hC [(3, .int (if v8 < b3 then v8 else b3)), (0, .ref (gad Y 0 38)), (2, .int a2), (4, .int b4)] dX7_leastCost_60 rfl (by decide) rfl ?_
      exact q_sub [1, 2, 0, 3] rfl (J61 (if v8 < b3 then v8 else b3) b4 hx)
set_option maxRecDepth 100000 in
set_option maxHeartbeats 4000000 in
theorem w_X7_leastCost_20 {X : gX} {Y : gY} {r : (Int32 × gMem)} (hC : gC X Y cX7_leastCost "GuestStaff$Rows" 5 2 43) (hF : gF X Y (some .int) (gQi Y r)) {e : (Int32 × gMem)} (kE : ∀ s : (Int32 × gMem), e = s → gWW X Y 5 80 [(0, .ref (gad Y 0 38))] [] s.2) : ∀ (F : Nat) (s : (Int32 × gMem)), itr F (fun s => s_X7_leastCost_20 s.1 s.2) s = some e → gWW X Y 5 20 [(0, .ref (gad Y 0 38)), (2, .int s.1)] [] s.2 := by
  intro F s
  refine itr_w (P := fun s => gWW X Y 5 20 [(0, .ref (gad Y 0 38)), (2, .int s.1)] [] s.2) (fun s o hx kI kx => ?_) F s
  obtain ⟨b2, N⟩ := s
  have hx : s_X7_leastCost_20 b2 N = some o := hx
  have kE : ∀ s : (Int32 × gMem), o = .inr s → gWW X Y 5 80 [(0, .ref (gad Y 0 38))] [] s.2 := fun s q => kE s (kx _ q).symm
  unfold s_X7_leastCost_20 at hx
  refine q_iload_n hC 1 dX7_leastCost_20 rfl rfl ?_
  refine q_if_lt hC 80 dX7_leastCost_21 rfl (fun h2 => ?_) (fun h2 => ?_)
  · have hx := gi_p h2 hx
    exact q_sub [0] rfl (kE (b2, N) (Option.some.inj hx).symm)
  · have hx := gi_n h2 hx
    refine q_ldc hC 1000000 dX7_leastCost_24 wC_X7_62 ?_
    refine q_istore_n hC [(3, .int 1000000), (0, .ref (gad Y 0 38)), (2, .int b2)] dX7_leastCost_26 rfl (by decide) rfl ?_
    refine q_iconst hC 0 dX7_leastCost_27 rfl ?_
    refine q_istore hC [(4, .int 0), (3, .int 1000000), (0, .ref (gad Y 0 38)), (2, .int b2)] dX7_leastCost_28 (by decide) rfl ?_
    obtain ⟨e10, qe10, hx⟩ := gb_e hx
    refine q_sub [2, 3, 1, 0] rfl (w_X7_leastCost_30 hC hF (e := e10) (fun s q => ?_) _ _ qe10)
    · subst q
      refine q_aload_n hC 0 dX7_leastCost_67 rfl rfl ?_
      refine gf_X7_23 hC dX7_leastCost_68 ?_
      refine q_iload_n hC 1 dX7_leastCost_71 rfl rfl ?_
      refine q_iload_n hC 2 dX7_leastCost_72 rfl rfl ?_
      have g11 := (gd_e hx).1
      have hx := (gd_e hx).2
      refine q_iast hC 127 (gV_t (by decide) (by decide)) rfl g11 dX7_leastCost_73 ?_
      refine q_iinc hC 1 (-1) [(2, .int (b2 + (-1))), (0, .ref (gad Y 0 38)), (3, .int e10.1)] dX7_leastCost_74 rfl rfl (by decide) rfl ?_
      refine q_goto hC 20 dX7_leastCost_77 rfl ?_
      exact q_sub [1, 0] rfl (kI (b2 + (-1), gwr N 0 49 (b2).toNatClampNeg e10.1) (Option.some.inj hx).symm)
set_option maxRecDepth 100000 in
set_option maxHeartbeats 4000000 in
theorem c_X7_leastCost {l : Launch} {Y : gY} {M : gMem} {r : (Int32 × gMem)} (hx : x_X7_leastCost M = some r) : Met l yX7_leastCost (gws yX7_leastCost cX7_leastCost 5 (some .int)) { frames := 2, cells := 0, slots := 0, locals := 43 } (va_Pc [.ref (gad Y 0 38)] (gS0 Y M)) (gQi Y r) 0 0 (gA Y) := by
  refine gmet (lv := [(0, .ref (gad Y 0 38))]) "GuestStaff$Rows" (by decide) rfl (Nat.le_of_ble_eq_true rfl) rfl (fun X hC hF => ?_)
  unfold x_X7_leastCost at hx
  refine q_iconst hC 1 dX7_leastCost_0 rfl ?_
  refine q_aload_n hC 0 dX7_leastCost_1 rfl rfl ?_
  refine gf_X7_26 hC dX7_leastCost_2 ?_
  refine q_ishl hC dX7_leastCost_5 ?_
  refine q_iconst hC 1 dX7_leastCost_6 rfl ?_
  refine q_isub hC dX7_leastCost_7 ?_
  refine q_istore_n hC [(1, .int ((1 <<< ((M.1 0 38 4) &&& 31)) - 1)), (0, .ref (gad Y 0 38))] dX7_leastCost_8 rfl (by decide) rfl ?_
  refine q_aload_n hC 1 dX7_leastCost_9 rfl rfl ?_
  refine gf_X7_23 hC dX7_leastCost_10 ?_
  refine q_iload_n hC 0 dX7_leastCost_13 rfl rfl ?_
  refine q_iconst hC 0 dX7_leastCost_14 rfl ?_
  have g1 := (gd_e hx).1
  have hx := (gd_e hx).2
  refine q_iast hC 127 (gV_t (by decide) (by decide)) rfl g1 dX7_leastCost_15 ?_
  refine q_iload_n hC 0 dX7_leastCost_16 rfl rfl ?_
  refine q_iconst hC 1 dX7_leastCost_17 rfl ?_
  refine q_isub hC dX7_leastCost_18 ?_
  refine q_istore_n hC [(2, .int (((1 <<< ((M.1 0 38 4) &&& 31)) - 1) - 1)), (1, .int ((1 <<< ((M.1 0 38 4) &&& 31)) - 1)), (0, .ref (gad Y 0 38))] dX7_leastCost_19 rfl (by decide) rfl ?_
  obtain ⟨e12, qe12, hx⟩ := gb_e hx
  refine q_sub [2, 0] rfl (w_X7_leastCost_20 hC hF (e := e12) (fun s q => ?_) _ _ qe12)
  · subst q
    refine q_aload_n hC 0 dX7_leastCost_80 rfl rfl ?_
    refine gf_X7_23 hC dX7_leastCost_81 ?_
    refine q_iconst hC 0 dX7_leastCost_84 rfl ?_
    refine q_ialdk hC 0 127 (gV_t (by decide) (by decide)) rfl (by decide) rfl dX7_leastCost_85 ?_
    exact q_iret hC hF dX7_leastCost_86 (Option.some.inj hx)

theorem dX7_firstBest_0 : decode cX7_firstBest 0 = .ok (.iconst 0, 1) := by decide +kernel
theorem dX7_firstBest_1 : decode cX7_firstBest 1 = .ok (.istore_n 2, 1) := by decide +kernel
theorem dX7_firstBest_2 : decode cX7_firstBest 2 = .ok (.iload_n 2, 1) := by decide +kernel
theorem dX7_firstBest_3 : decode cX7_firstBest 3 = .ok (.aload_n 0, 1) := by decide +kernel
theorem dX7_firstBest_4 : decode cX7_firstBest 4 = .ok (.getfield 26, 3) := by decide +kernel
theorem dX7_firstBest_7 : decode cX7_firstBest 7 = .ok (.if_icmp .ge 35, 3) := by decide +kernel
theorem dX7_firstBest_10 : decode cX7_firstBest 10 = .ok (.aload_n 0, 1) := by decide +kernel
theorem dX7_firstBest_11 : decode cX7_firstBest 11 = .ok (.iload_n 1, 1) := by decide +kernel
theorem dX7_firstBest_12 : decode cX7_firstBest 12 = .ok (.iload_n 2, 1) := by decide +kernel
theorem dX7_firstBest_13 : decode cX7_firstBest 13 = .ok (.invokevirtual 59, 3) := by decide +kernel
theorem dX7_firstBest_16 : decode cX7_firstBest 16 = .ok (.ifCond .eq 20, 3) := by decide +kernel
theorem dX7_firstBest_19 : decode cX7_firstBest 19 = .ok (.aload_n 0, 1) := by decide +kernel
theorem dX7_firstBest_20 : decode cX7_firstBest 20 = .ok (.iload_n 1, 1) := by decide +kernel
theorem dX7_firstBest_21 : decode cX7_firstBest 21 = .ok (.iload_n 2, 1) := by decide +kernel
theorem dX7_firstBest_22 : decode cX7_firstBest 22 = .ok (.invokevirtual 63, 3) := by decide +kernel
theorem dX7_firstBest_25 : decode cX7_firstBest 25 = .ok (.aload_n 0, 1) := by decide +kernel
theorem dX7_firstBest_26 : decode cX7_firstBest 26 = .ok (.getfield 23, 3) := by decide +kernel
theorem dX7_firstBest_29 : decode cX7_firstBest 29 = .ok (.iload_n 1, 1) := by decide +kernel
theorem dX7_firstBest_30 : decode cX7_firstBest 30 = .ok (.iaload, 1) := by decide +kernel
theorem dX7_firstBest_31 : decode cX7_firstBest 31 = .ok (.if_icmp .ne 5, 3) := by decide +kernel
theorem dX7_firstBest_34 : decode cX7_firstBest 34 = .ok (.iload_n 2, 1) := by decide +kernel
theorem dX7_firstBest_35 : decode cX7_firstBest 35 = .ok (.ireturn, 1) := by decide +kernel
theorem dX7_firstBest_36 : decode cX7_firstBest 36 = .ok (.iinc 2 1, 3) := by decide +kernel
theorem dX7_firstBest_39 : decode cX7_firstBest 39 = .ok (.goto (-37), 3) := by decide +kernel
theorem dX7_firstBest_42 : decode cX7_firstBest 42 = .ok (.iconst (-1), 1) := by decide +kernel
theorem dX7_firstBest_43 : decode cX7_firstBest 43 = .ok (.ireturn, 1) := by decide +kernel
def j_X7_firstBest_2_36 (M : gMem) (a1 : Int32) (b2 : Int32) : Option (Int32 ⊕ (Int32 ⊕ Int32)) := some (.inl (b2 + 1))
def s_X7_firstBest_2 (M : gMem) (a1 : Int32) (b2 : Int32) : Option (Int32 ⊕ (Int32 ⊕ Int32)) := (if (M.1 0 38 4) ≤ b2 then some (.inr (.inl b2)) else Option.bind (x_X7_isOpen M a1 b2) (fun v2 => (if v2 = 0 then j_X7_firstBest_2_36 M a1 b2 else Option.bind (x_X7_costThrough M a1 b2) (fun v6 => gd (gin a1 128) ((if v6 = (M.1 0 49 (a1).toNatClampNeg) then some (.inr (.inr b2)) else j_X7_firstBest_2_36 M a1 b2))))))
def x_X7_firstBest (M : gMem) (p1 : Int32) : Option Int32 := Option.bind (itr FU (fun s => s_X7_firstBest_2 M p1 s) 0) (fun e10 => Sum.elim (fun s11 => some (-1)) (fun z12 => some z12) e10)
set_option maxRecDepth 100000 in
set_option maxHeartbeats 4000000 in
theorem w_X7_firstBest_2 {X : gX} {Y : gY} {M : gMem} {a1 : Int32} {r : Int32} (hC : gC X Y cX7_firstBest "GuestStaff$Rows" 3 2 43) (hF : gF X Y (some .int) (gQi Y (r, M))) {e : (Int32 ⊕ Int32)} (kE : ∀ s : Int32, e = .inl s → gWW X Y 3 42 [] [] M) (kR : ∀ z : Int32, e = .inr z → z = r) : ∀ (F : Nat) (s : Int32), itr F (fun s => s_X7_firstBest_2 M a1 s) s = some e → gWW X Y 3 2 [(0, .ref (gad Y 0 38)), (1, .int a1), (2, .int s)] [] M := by
  intro F s
  refine itr_w (P := fun s => gWW X Y 3 2 [(0, .ref (gad Y 0 38)), (1, .int a1), (2, .int s)] [] M) (fun s o hx kI kx => ?_) F s
  obtain ⟨b2, rfl⟩ : ∃ z, z = s := ⟨s, rfl⟩
  have hx : s_X7_firstBest_2 M a1 b2 = some o := hx
  have kE : ∀ s : Int32, o = .inr (.inl s) → gWW X Y 3 42 [] [] M := fun s q => kE s (kx _ q).symm
  have kR : ∀ z : Int32, o = .inr (.inr z) → z = r := fun z q => kR z (kx _ q).symm
  have J36 : ∀ (b2 : Int32) , j_X7_firstBest_2_36 M a1 b2 = some o → gWW X Y 3 36 [(0, .ref (gad Y 0 38)), (1, .int a1), (2, .int b2)] [] M := by
    intro b2 hx
    unfold j_X7_firstBest_2_36 at hx
    refine q_iinc hC 2 1 [(2, .int (b2 + 1)), (0, .ref (gad Y 0 38)), (1, .int a1)] dX7_firstBest_36 rfl rfl (by decide) rfl ?_
    refine q_goto hC 2 dX7_firstBest_39 rfl ?_
    exact q_sub [1, 2, 0] rfl (kI (b2 + 1) (Option.some.inj hx).symm)
  unfold s_X7_firstBest_2 at hx
  refine q_iload_n hC 2 dX7_firstBest_2 rfl rfl ?_
  refine q_aload_n hC 0 dX7_firstBest_3 rfl rfl ?_
  refine gf_X7_26 hC dX7_firstBest_4 ?_
  refine q_ic_ge hC 42 dX7_firstBest_7 rfl (fun h1 => ?_) (fun h1 => ?_)
  · have hx := gi_p h1 hx
    exact q_sub [] rfl (kE b2 (Option.some.inj hx).symm)
  · have hx := gi_n h1 hx
    refine q_aload_n hC 0 dX7_firstBest_10 rfl rfl ?_
    refine q_iload_n hC 1 dX7_firstBest_11 rfl rfl ?_
    refine q_iload_n hC 2 dX7_firstBest_12 rfl rfl ?_
    obtain ⟨v2, q3, hx⟩ := gb_e hx
    refine q_kzp (q_rV (As := [.int a1, .int b2]) (rest := []) hC mm_X7_isOpen wM_X7_59 (c_X7_isOpen q3) ⟨rfl, rfl, Nat.le_of_ble_eq_true rfl, Nat.le_of_ble_eq_true rfl⟩ (gV_t (by decide) (by decide)) rfl rfl rfl rfl (Nat.le_of_ble_eq_true rfl) dX7_firstBest_13) (fun z4 => ?_)
    refine q_if_eq hC 36 dX7_firstBest_16 rfl (fun h5 => ?_) (fun h5 => ?_)
    · have hx := gi_p h5 hx
      exact q_sub [0, 1, 2] rfl (J36 b2 hx)
    · have hx := gi_n h5 hx
      refine q_aload_n hC 0 dX7_firstBest_19 rfl rfl ?_
      refine q_iload_n hC 1 dX7_firstBest_20 rfl rfl ?_
      refine q_iload_n hC 2 dX7_firstBest_21 rfl rfl ?_
      obtain ⟨v6, q7, hx⟩ := gb_e hx
      refine q_kip (q_rV (As := [.int a1, .int b2]) (rest := []) hC mm_X7_costThrough wM_X7_63 (c_X7_costThrough q7) ⟨rfl, rfl, Nat.le_of_ble_eq_true rfl, Nat.le_of_ble_eq_true rfl⟩ (gV_t (by decide) (by decide)) rfl rfl rfl rfl (Nat.le_of_ble_eq_true rfl) dX7_firstBest_22) ?_
      refine q_aload_n hC 0 dX7_firstBest_25 rfl rfl ?_
      refine gf_X7_23 hC dX7_firstBest_26 ?_
      refine q_iload_n hC 1 dX7_firstBest_29 rfl rfl ?_
      have g8 := (gd_e hx).1
      have hx := (gd_e hx).2
      refine q_iald hC 127 (gV_t (by decide) (by decide)) rfl g8 dX7_firstBest_30 ?_
      refine q_ic_ne hC 36 dX7_firstBest_31 rfl (fun h9 => ?_) (fun h9 => ?_)
      · have hx := gi_n h9 hx
        exact q_sub [0, 1, 2] rfl (J36 b2 hx)
      · have hx := gi_p h9 hx
        refine q_iload_n hC 2 dX7_firstBest_34 rfl rfl ?_
        exact q_iret hC hF dX7_firstBest_35 (congrArg (fun z => (z, M)) (kR _ (Option.some.inj hx).symm))
set_option maxRecDepth 100000 in
set_option maxHeartbeats 4000000 in
theorem c_X7_firstBest {l : Launch} {Y : gY} {M : gMem} {p1 : Int32} {r : Int32} (hx : x_X7_firstBest M p1 = some r) : Met l yX7_firstBest (gws yX7_firstBest cX7_firstBest 3 (some .int)) { frames := 2, cells := 0, slots := 0, locals := 43 } (va_Pc [.ref (gad Y 0 38), .int p1] (gS0 Y M)) (gQi Y (r, M)) 0 0 (gA Y) := by
  refine gmet (lv := [(0, .ref (gad Y 0 38)), (1, .int p1)]) "GuestStaff$Rows" (by decide) rfl (Nat.le_of_ble_eq_true rfl) rfl (fun X hC hF => ?_)
  unfold x_X7_firstBest at hx
  refine q_iconst hC 0 dX7_firstBest_0 rfl ?_
  refine q_istore_n hC [(2, .int 0), (0, .ref (gad Y 0 38)), (1, .int p1)] dX7_firstBest_1 rfl (by decide) rfl ?_
  obtain ⟨e10, qe10, hx⟩ := gb_e hx
  refine q_sub [1, 2, 0] rfl (w_X7_firstBest_2 hC hF (e := e10) (fun s11 qs11 => ?_) (fun z12 qz12 => ?_) _ _ qe10)
  · subst qs11
    refine q_iconst hC (-1) dX7_firstBest_42 rfl ?_
    exact q_iret hC hF dX7_firstBest_43 (congrArg (fun z => (z, M)) (Option.some.inj hx))
  · subst qz12
    exact Option.some.inj hx

theorem dX7_dutyInBest_0 : decode cX7_dutyInBest 0 = .ok (.aload_n 0, 1) := by decide +kernel
theorem dX7_dutyInBest_1 : decode cX7_dutyInBest 1 = .ok (.invokevirtual 71, 3) := by decide +kernel
theorem dX7_dutyInBest_4 : decode cX7_dutyInBest 4 = .ok (.ldc 62, 2) := by decide +kernel
theorem dX7_dutyInBest_6 : decode cX7_dutyInBest 6 = .ok (.if_icmp .ne 5, 3) := by decide +kernel
theorem dX7_dutyInBest_9 : decode cX7_dutyInBest 9 = .ok (.iconst (-1), 1) := by decide +kernel
theorem dX7_dutyInBest_10 : decode cX7_dutyInBest 10 = .ok (.ireturn, 1) := by decide +kernel
theorem dX7_dutyInBest_11 : decode cX7_dutyInBest 11 = .ok (.iconst 0, 1) := by decide +kernel
theorem dX7_dutyInBest_12 : decode cX7_dutyInBest 12 = .ok (.istore_n 2, 1) := by decide +kernel
theorem dX7_dutyInBest_13 : decode cX7_dutyInBest 13 = .ok (.iconst 0, 1) := by decide +kernel
theorem dX7_dutyInBest_14 : decode cX7_dutyInBest 14 = .ok (.istore_n 3, 1) := by decide +kernel
theorem dX7_dutyInBest_15 : decode cX7_dutyInBest 15 = .ok (.iload_n 3, 1) := by decide +kernel
theorem dX7_dutyInBest_16 : decode cX7_dutyInBest 16 = .ok (.aload_n 0, 1) := by decide +kernel
theorem dX7_dutyInBest_17 : decode cX7_dutyInBest 17 = .ok (.getfield 26, 3) := by decide +kernel
theorem dX7_dutyInBest_20 : decode cX7_dutyInBest 20 = .ok (.if_icmp .ge 52, 3) := by decide +kernel
theorem dX7_dutyInBest_23 : decode cX7_dutyInBest 23 = .ok (.aload_n 0, 1) := by decide +kernel
theorem dX7_dutyInBest_24 : decode cX7_dutyInBest 24 = .ok (.iload_n 2, 1) := by decide +kernel
theorem dX7_dutyInBest_25 : decode cX7_dutyInBest 25 = .ok (.invokevirtual 75, 3) := by decide +kernel
theorem dX7_dutyInBest_28 : decode cX7_dutyInBest 28 = .ok (.istore 4, 2) := by decide +kernel
theorem dX7_dutyInBest_30 : decode cX7_dutyInBest 30 = .ok (.iload_n 3, 1) := by decide +kernel
theorem dX7_dutyInBest_31 : decode cX7_dutyInBest 31 = .ok (.iload_n 1, 1) := by decide +kernel
theorem dX7_dutyInBest_32 : decode cX7_dutyInBest 32 = .ok (.if_icmp .eq 9, 3) := by decide +kernel
theorem dX7_dutyInBest_35 : decode cX7_dutyInBest 35 = .ok (.iload 4, 2) := by decide +kernel
theorem dX7_dutyInBest_37 : decode cX7_dutyInBest 37 = .ok (.iconst (-1), 1) := by decide +kernel
theorem dX7_dutyInBest_38 : decode cX7_dutyInBest 38 = .ok (.if_icmp .ne 21, 3) := by decide +kernel
theorem dX7_dutyInBest_41 : decode cX7_dutyInBest 41 = .ok (.iload 4, 2) := by decide +kernel
theorem dX7_dutyInBest_43 : decode cX7_dutyInBest 43 = .ok (.iconst (-1), 1) := by decide +kernel
theorem dX7_dutyInBest_44 : decode cX7_dutyInBest 44 = .ok (.if_icmp .ne 7, 3) := by decide +kernel
theorem dX7_dutyInBest_47 : decode cX7_dutyInBest 47 = .ok (.iconst (-1), 1) := by decide +kernel
theorem dX7_dutyInBest_48 : decode cX7_dutyInBest 48 = .ok (.goto 10, 3) := by decide +kernel
theorem dX7_dutyInBest_51 : decode cX7_dutyInBest 51 = .ok (.aload_n 0, 1) := by decide +kernel
theorem dX7_dutyInBest_52 : decode cX7_dutyInBest 52 = .ok (.getfield 9, 3) := by decide +kernel
theorem dX7_dutyInBest_55 : decode cX7_dutyInBest 55 = .ok (.iload 4, 2) := by decide +kernel
theorem dX7_dutyInBest_57 : decode cX7_dutyInBest 57 = .ok (.iaload, 1) := by decide +kernel
theorem dX7_dutyInBest_58 : decode cX7_dutyInBest 58 = .ok (.ireturn, 1) := by decide +kernel
theorem dX7_dutyInBest_59 : decode cX7_dutyInBest 59 = .ok (.iload_n 2, 1) := by decide +kernel
theorem dX7_dutyInBest_60 : decode cX7_dutyInBest 60 = .ok (.iconst 1, 1) := by decide +kernel
theorem dX7_dutyInBest_61 : decode cX7_dutyInBest 61 = .ok (.iload 4, 2) := by decide +kernel
theorem dX7_dutyInBest_63 : decode cX7_dutyInBest 63 = .ok (.ishl, 1) := by decide +kernel
theorem dX7_dutyInBest_64 : decode cX7_dutyInBest 64 = .ok (.ior, 1) := by decide +kernel
theorem dX7_dutyInBest_65 : decode cX7_dutyInBest 65 = .ok (.istore_n 2, 1) := by decide +kernel
theorem dX7_dutyInBest_66 : decode cX7_dutyInBest 66 = .ok (.iinc 3 1, 3) := by decide +kernel
theorem dX7_dutyInBest_69 : decode cX7_dutyInBest 69 = .ok (.goto (-54), 3) := by decide +kernel
theorem dX7_dutyInBest_72 : decode cX7_dutyInBest 72 = .ok (.iconst (-1), 1) := by decide +kernel
theorem dX7_dutyInBest_73 : decode cX7_dutyInBest 73 = .ok (.ireturn, 1) := by decide +kernel
def j_X7_dutyInBest_15_41 (M : gMem) (a1 : Int32) (b4 : Int32) : Option ((Int32 × Int32) ⊕ ((Int32 × Int32) ⊕ (Int32 × gMem))) := (if b4 = (-1) then some (.inr (.inr ((-1), M))) else gd (gin b4 7) (some (.inr (.inr (M.1 0 39 (b4).toNatClampNeg, M)))))
def s_X7_dutyInBest_15 (M : gMem) (a1 : Int32) (b2 : Int32) (b3 : Int32) : Option ((Int32 × Int32) ⊕ ((Int32 × Int32) ⊕ (Int32 × gMem))) := (if (M.1 0 38 4) ≤ b3 then some (.inr (.inl (b2, b3))) else Option.bind (x_X7_firstBest M b2) (fun v5 => (if b3 = a1 then j_X7_dutyInBest_15_41 M a1 v5 else (if v5 = (-1) then j_X7_dutyInBest_15_41 M a1 v5 else some (.inl (b2 ||| (1 <<< (v5 &&& 31)), b3 + 1))))))
def x_X7_dutyInBest (M : gMem) (p1 : Int32) : Option (Int32 × gMem) := Option.bind (x_X7_leastCost M) (fun v1 => (if v1.1 = 1000000 then some ((-1), v1.2) else Option.bind (itr FU (fun s => s_X7_dutyInBest_15 v1.2 p1 s.1 s.2) (0, 0)) (fun e11 => Sum.elim (fun s12 => some ((-1), v1.2)) (fun z13 => some z13) e11)))
set_option maxRecDepth 100000 in
set_option maxHeartbeats 4000000 in
theorem w_X7_dutyInBest_15 {X : gX} {Y : gY} {M : gMem} {a1 : Int32} {r : (Int32 × gMem)} (hC : gC X Y cX7_dutyInBest "GuestStaff$Rows" 5 3 67) (hF : gF X Y (some .int) (gQi Y r)) {e : ((Int32 × Int32) ⊕ (Int32 × gMem))} (kE : ∀ s : (Int32 × Int32), e = .inl s → gWW X Y 5 72 [] [] M) (kR : ∀ z : (Int32 × gMem), e = .inr z → z = r) : ∀ (F : Nat) (s : (Int32 × Int32)), itr F (fun s => s_X7_dutyInBest_15 M a1 s.1 s.2) s = some e → gWW X Y 5 15 [(0, .ref (gad Y 0 38)), (1, .int a1), (2, .int s.1), (3, .int s.2)] [] M := by
  intro F s
  refine itr_w (P := fun s => gWW X Y 5 15 [(0, .ref (gad Y 0 38)), (1, .int a1), (2, .int s.1), (3, .int s.2)] [] M) (fun s o hx kI kx => ?_) F s
  obtain ⟨b2, b3⟩ := s
  have hx : s_X7_dutyInBest_15 M a1 b2 b3 = some o := hx
  have kE : ∀ s : (Int32 × Int32), o = .inr (.inl s) → gWW X Y 5 72 [] [] M := fun s q => kE s (kx _ q).symm
  have kR : ∀ z : (Int32 × gMem), o = .inr (.inr z) → z = r := fun z q => kR z (kx _ q).symm
  have J41 : ∀ (b4 : Int32) , j_X7_dutyInBest_15_41 M a1 b4 = some o → gWW X Y 5 41 [(0, .ref (gad Y 0 38)), (4, .int b4)] [] M := by
    intro b4 hx
    unfold j_X7_dutyInBest_15_41 at hx
    refine q_iload hC 1 dX7_dutyInBest_41 rfl ?_
    refine q_iconst hC (-1) dX7_dutyInBest_43 rfl ?_
    refine q_ic_ne hC 51 dX7_dutyInBest_44 rfl (fun h8 => ?_) (fun h8 => ?_)
    · have hx := gi_n h8 hx
      refine q_aload_n hC 0 dX7_dutyInBest_51 rfl rfl ?_
      refine gf_X7_9 hC dX7_dutyInBest_52 ?_
      refine q_iload hC 1 dX7_dutyInBest_55 rfl ?_
      have g9 := (gd_e hx).1
      have hx := (gd_e hx).2
      refine q_iald hC 6 (gV_t (by decide) (by decide)) rfl g9 dX7_dutyInBest_57 ?_
      exact q_iret hC hF dX7_dutyInBest_58 (kR _ (Option.some.inj hx).symm)
    · have hx := gi_p h8 hx
      refine q_iconst hC (-1) dX7_dutyInBest_47 rfl ?_
      refine q_goto hC 58 dX7_dutyInBest_48 rfl ?_
      exact q_iret hC hF dX7_dutyInBest_58 (kR _ (Option.some.inj hx).symm)
  unfold s_X7_dutyInBest_15 at hx
  refine q_iload_n hC 3 dX7_dutyInBest_15 rfl rfl ?_
  refine q_aload_n hC 0 dX7_dutyInBest_16 rfl rfl ?_
  refine gf_X7_26 hC dX7_dutyInBest_17 ?_
  refine q_ic_ge hC 72 dX7_dutyInBest_20 rfl (fun h4 => ?_) (fun h4 => ?_)
  · have hx := gi_p h4 hx
    exact q_sub [] rfl (kE (b2, b3) (Option.some.inj hx).symm)
  · have hx := gi_n h4 hx
    refine q_aload_n hC 0 dX7_dutyInBest_23 rfl rfl ?_
    refine q_iload_n hC 2 dX7_dutyInBest_24 rfl rfl ?_
    obtain ⟨v5, q6, hx⟩ := gb_e hx
    refine q_kip (q_rV (As := [.int b2]) (rest := []) hC mm_X7_firstBest wM_X7_75 (c_X7_firstBest q6) ⟨rfl, rfl, Nat.le_of_ble_eq_true rfl, Nat.le_of_ble_eq_true rfl⟩ (gV_t (by decide) (by decide)) rfl rfl rfl rfl (Nat.le_of_ble_eq_true rfl) dX7_dutyInBest_25) ?_
    refine q_istore hC [(4, .int v5), (0, .ref (gad Y 0 38)), (1, .int a1), (2, .int b2), (3, .int b3)] dX7_dutyInBest_28 (by decide) rfl ?_
    refine q_iload_n hC 4 dX7_dutyInBest_30 rfl rfl ?_
    refine q_iload_n hC 2 dX7_dutyInBest_31 rfl rfl ?_
    refine q_ic_eq hC 41 dX7_dutyInBest_32 rfl (fun h7 => ?_) (fun h7 => ?_)
    · have hx := gi_p h7 hx
      exact q_sub [1, 0] rfl (J41 v5 hx)
    · have hx := gi_n h7 hx
      refine q_iload hC 0 dX7_dutyInBest_35 rfl ?_
      refine q_iconst hC (-1) dX7_dutyInBest_37 rfl ?_
      refine q_ic_ne hC 59 dX7_dutyInBest_38 rfl (fun h10 => ?_) (fun h10 => ?_)
      · have hx := gi_n h10 hx
        refine q_iload_n hC 3 dX7_dutyInBest_59 rfl rfl ?_
        refine q_iconst hC 1 dX7_dutyInBest_60 rfl ?_
        refine q_iload hC 0 dX7_dutyInBest_61 rfl ?_
        refine q_ishl hC dX7_dutyInBest_63 ?_
        refine q_ior hC dX7_dutyInBest_64 ?_
        refine q_istore_n hC [(2, .int (b2 ||| (1 <<< (v5 &&& 31)))), (4, .int v5), (0, .ref (gad Y 0 38)), (1, .int a1), (3, .int b3)] dX7_dutyInBest_65 rfl (by decide) rfl ?_
        refine q_iinc hC 4 1 [(3, .int (b3 + 1)), (2, .int (b2 ||| (1 <<< (v5 &&& 31)))), (4, .int v5), (0, .ref (gad Y 0 38)), (1, .int a1)] dX7_dutyInBest_66 rfl rfl (by decide) rfl ?_
        refine q_goto hC 15 dX7_dutyInBest_69 rfl ?_
        exact q_sub [3, 4, 1, 0] rfl (kI (b2 ||| (1 <<< (v5 &&& 31)), b3 + 1) (Option.some.inj hx).symm)
      · have hx := gi_p h10 hx
        exact q_sub [1, 0] rfl (J41 v5 hx)
set_option maxRecDepth 100000 in
set_option maxHeartbeats 4000000 in
theorem c_X7_dutyInBest {l : Launch} {Y : gY} {M : gMem} {p1 : Int32} {r : (Int32 × gMem)} (hx : x_X7_dutyInBest M p1 = some r) : Met l yX7_dutyInBest (gws yX7_dutyInBest cX7_dutyInBest 5 (some .int)) { frames := 3, cells := 0, slots := 0, locals := 67 } (va_Pc [.ref (gad Y 0 38), .int p1] (gS0 Y M)) (gQi Y r) 0 0 (gA Y) := by
  refine gmet (lv := [(0, .ref (gad Y 0 38)), (1, .int p1)]) "GuestStaff$Rows" (by decide) rfl (Nat.le_of_ble_eq_true rfl) rfl (fun X hC hF => ?_)
  unfold x_X7_dutyInBest at hx
  refine q_aload_n hC 0 dX7_dutyInBest_0 rfl rfl ?_
  obtain ⟨v1, q2, hx⟩ := gb_e hx
  refine q_ki (q_rV (As := []) (rest := []) hC mm_X7_leastCost wM_X7_71 (c_X7_leastCost q2) ⟨rfl, rfl, Nat.le_of_ble_eq_true rfl, Nat.le_of_ble_eq_true rfl⟩ (gV_t (by decide) (by decide)) rfl rfl rfl rfl (Nat.le_of_ble_eq_true rfl) dX7_dutyInBest_1) ?_
  refine q_ldc hC 1000000 dX7_dutyInBest_4 wC_X7_62 ?_
  refine q_ic_ne hC 11 dX7_dutyInBest_6 rfl (fun h3 => ?_) (fun h3 => ?_)
  · have hx := gi_n h3 hx
    refine q_iconst hC 0 dX7_dutyInBest_11 rfl ?_
    refine q_istore_n hC [(2, .int 0), (0, .ref (gad Y 0 38)), (1, .int p1)] dX7_dutyInBest_12 rfl (by decide) rfl ?_
    refine q_iconst hC 0 dX7_dutyInBest_13 rfl ?_
    refine q_istore_n hC [(3, .int 0), (2, .int 0), (0, .ref (gad Y 0 38)), (1, .int p1)] dX7_dutyInBest_14 rfl (by decide) rfl ?_
    obtain ⟨e11, qe11, hx⟩ := gb_e hx
    refine q_sub [2, 3, 1, 0] rfl (w_X7_dutyInBest_15 hC hF (e := e11) (fun s12 qs12 => ?_) (fun z13 qz13 => ?_) _ _ qe11)
    · subst qs12
      refine q_iconst hC (-1) dX7_dutyInBest_72 rfl ?_
      exact q_iret hC hF dX7_dutyInBest_73 (Option.some.inj hx)
    · subst qz13
      exact Option.some.inj hx
  · have hx := gi_p h3 hx
    refine q_iconst hC (-1) dX7_dutyInBest_9 rfl ?_
    exact q_iret hC hF dX7_dutyInBest_10 (Option.some.inj hx)
end
section
theorem zz_t : True := trivial
end
