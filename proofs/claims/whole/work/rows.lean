section
-- ===== PART A: goes FIRST, ahead of the names: the tables' words, and 'selects' of the private methods out of them =====
/-- a private method of a class that the tables say can be made, by its rows of tables_1 -/
def lw_okq (q : MethodName × Nat) : Prop := (q.1.cls ≠ "java/lang/invoke/MethodHandle" ∧ q.1.cls ≠ "java/lang/invoke/VarHandle") ∧ Cond.instantiable q.1.cls q.2 ∈ tables_1 ∧ Cond.privateMethod q.1 ∈ tables_1 ∧ Cond.instanceMethod q.1 ∈ tables_1
theorem lw_p0 : lw_okq (⟨"GuestStaff", "refuseBad", "(I)I"⟩, 9) := ⟨⟨by decide +kernel, by decide +kernel⟩, List.mem_of_getElem? (i := 21) (by decide +kernel), List.mem_of_getElem? (i := 255) (by decide +kernel), List.mem_of_getElem? (i := 256) (by decide +kernel)⟩
theorem lw_p1 : lw_okq (⟨"GuestStaff", "refuseFull", "()I"⟩, 9) := ⟨⟨by decide +kernel, by decide +kernel⟩, List.mem_of_getElem? (i := 21) (by decide +kernel), List.mem_of_getElem? (i := 259) (by decide +kernel), List.mem_of_getElem? (i := 260) (by decide +kernel)⟩
theorem lw_p2 : lw_okq (⟨"GuestStaff$Text", "step", "()V"⟩, 6) := ⟨⟨by decide +kernel, by decide +kernel⟩, List.mem_of_getElem? (i := 29) (by decide +kernel), List.mem_of_getElem? (i := 309) (by decide +kernel), List.mem_of_getElem? (i := 310) (by decide +kernel)⟩
theorem lw_p3 : lw_okq (⟨"GuestStaff$Text", "endOfRun", "(III)I"⟩, 6) := ⟨⟨by decide +kernel, by decide +kernel⟩, List.mem_of_getElem? (i := 29) (by decide +kernel), List.mem_of_getElem? (i := 313) (by decide +kernel), List.mem_of_getElem? (i := 314) (by decide +kernel)⟩
theorem lw_p4 : lw_okq (⟨"GuestStaff$Text", "numberHere", "()I"⟩, 6) := ⟨⟨by decide +kernel, by decide +kernel⟩, List.mem_of_getElem? (i := 29) (by decide +kernel), List.mem_of_getElem? (i := 317) (by decide +kernel), List.mem_of_getElem? (i := 318) (by decide +kernel)⟩
theorem lw_p5 : lw_okq (⟨"GuestStaff$Text", "signHere", "()I"⟩, 6) := ⟨⟨by decide +kernel, by decide +kernel⟩, List.mem_of_getElem? (i := 29) (by decide +kernel), List.mem_of_getElem? (i := 321) (by decide +kernel), List.mem_of_getElem? (i := 322) (by decide +kernel)⟩
theorem lw_p6 : lw_okq (⟨"GuestStaff$Text", "isWord", "(Ljava/lang/String;)Z"⟩, 6) := ⟨⟨by decide +kernel, by decide +kernel⟩, List.mem_of_getElem? (i := 29) (by decide +kernel), List.mem_of_getElem? (i := 327) (by decide +kernel), List.mem_of_getElem? (i := 328) (by decide +kernel)⟩
theorem lw_p7 : lw_okq (⟨"GuestStaff$Text", "stepToStop", "()Z"⟩, 6) := ⟨⟨by decide +kernel, by decide +kernel⟩, List.mem_of_getElem? (i := 29) (by decide +kernel), List.mem_of_getElem? (i := 379) (by decide +kernel), List.mem_of_getElem? (i := 380) (by decide +kernel)⟩
theorem lw_p8 : lw_okq (⟨"GuestStaff$Text", "parseItem", "(LGuestStaff$House;)Z"⟩, 6) := ⟨⟨by decide +kernel, by decide +kernel⟩, List.mem_of_getElem? (i := 29) (by decide +kernel), List.mem_of_getElem? (i := 383) (by decide +kernel), List.mem_of_getElem? (i := 384) (by decide +kernel)⟩
theorem lw_p9 : lw_okq (⟨"GuestStaff$Text", "parseGuest", "(LGuestStaff$House;)Z"⟩, 6) := ⟨⟨by decide +kernel, by decide +kernel⟩, List.mem_of_getElem? (i := 29) (by decide +kernel), List.mem_of_getElem? (i := 388) (by decide +kernel), List.mem_of_getElem? (i := 389) (by decide +kernel)⟩
theorem lw_p10 : lw_okq (⟨"GuestStaff$Text", "stepToNumber", "(I)Z"⟩, 6) := ⟨⟨by decide +kernel, by decide +kernel⟩, List.mem_of_getElem? (i := 29) (by decide +kernel), List.mem_of_getElem? (i := 392) (by decide +kernel), List.mem_of_getElem? (i := 393) (by decide +kernel)⟩
theorem lw_p11 : lw_okq (⟨"GuestStaff$Text", "isNumber", "(I)Z"⟩, 6) := ⟨⟨by decide +kernel, by decide +kernel⟩, List.mem_of_getElem? (i := 29) (by decide +kernel), List.mem_of_getElem? (i := 396) (by decide +kernel), List.mem_of_getElem? (i := 397) (by decide +kernel)⟩
theorem lw_p12 : lw_okq (⟨"GuestStaff$Text", "parseDuty", "(LGuestStaff$House;)Z"⟩, 6) := ⟨⟨by decide +kernel, by decide +kernel⟩, List.mem_of_getElem? (i := 29) (by decide +kernel), List.mem_of_getElem? (i := 402) (by decide +kernel), List.mem_of_getElem? (i := 403) (by decide +kernel)⟩
theorem lw_p13 : lw_okq (⟨"GuestStaff$House", "doesServe", "(II)Z"⟩, 16) := ⟨⟨by decide +kernel, by decide +kernel⟩, List.mem_of_getElem? (i := 125) (by decide +kernel), List.mem_of_getElem? (i := 432) (by decide +kernel), List.mem_of_getElem? (i := 433) (by decide +kernel)⟩
theorem lw_p14 : lw_okq (⟨"GuestStaff", "refuseNo", "()I"⟩, 9) := ⟨⟨by decide +kernel, by decide +kernel⟩, List.mem_of_getElem? (i := 21) (by decide +kernel), List.mem_of_getElem? (i := 473) (by decide +kernel), List.mem_of_getElem? (i := 474) (by decide +kernel)⟩
theorem lw_p15 : lw_okq (⟨"GuestStaff$Rows", "isOpen", "(II)Z"⟩, 5) := ⟨⟨by decide +kernel, by decide +kernel⟩, List.mem_of_getElem? (i := 58) (by decide +kernel), List.mem_of_getElem? (i := 537) (by decide +kernel), List.mem_of_getElem? (i := 538) (by decide +kernel)⟩
def lw_privs_1 : List (MethodName × Nat) := [(⟨"GuestStaff", "refuseBad", "(I)I"⟩, 9), (⟨"GuestStaff", "refuseFull", "()I"⟩, 9), (⟨"GuestStaff$Text", "step", "()V"⟩, 6), (⟨"GuestStaff$Text", "endOfRun", "(III)I"⟩, 6), (⟨"GuestStaff$Text", "numberHere", "()I"⟩, 6), (⟨"GuestStaff$Text", "signHere", "()I"⟩, 6), (⟨"GuestStaff$Text", "isWord", "(Ljava/lang/String;)Z"⟩, 6), (⟨"GuestStaff$Text", "stepToStop", "()Z"⟩, 6), (⟨"GuestStaff$Text", "parseItem", "(LGuestStaff$House;)Z"⟩, 6), (⟨"GuestStaff$Text", "parseGuest", "(LGuestStaff$House;)Z"⟩, 6), (⟨"GuestStaff$Text", "stepToNumber", "(I)Z"⟩, 6), (⟨"GuestStaff$Text", "isNumber", "(I)Z"⟩, 6), (⟨"GuestStaff$Text", "parseDuty", "(LGuestStaff$House;)Z"⟩, 6), (⟨"GuestStaff$House", "doesServe", "(II)Z"⟩, 16), (⟨"GuestStaff", "refuseNo", "()I"⟩, 9), (⟨"GuestStaff$Rows", "isOpen", "(II)Z"⟩, 5)]
theorem lw_r1 : ∀ q ∈ lw_privs_1, lw_okq q := List.forall_mem_cons.mpr ⟨lw_p0, List.forall_mem_cons.mpr ⟨lw_p1, List.forall_mem_cons.mpr ⟨lw_p2, List.forall_mem_cons.mpr ⟨lw_p3, List.forall_mem_cons.mpr ⟨lw_p4, List.forall_mem_cons.mpr ⟨lw_p5, List.forall_mem_cons.mpr ⟨lw_p6, List.forall_mem_cons.mpr ⟨lw_p7, List.forall_mem_cons.mpr ⟨lw_p8, List.forall_mem_cons.mpr ⟨lw_p9, List.forall_mem_cons.mpr ⟨lw_p10, List.forall_mem_cons.mpr ⟨lw_p11, List.forall_mem_cons.mpr ⟨lw_p12, List.forall_mem_cons.mpr ⟨lw_p13, List.forall_mem_cons.mpr ⟨lw_p14, List.forall_mem_cons.mpr ⟨lw_p15, fun _ h => absurd h List.not_mem_nil⟩⟩⟩⟩⟩⟩⟩⟩⟩⟩⟩⟩⟩⟩⟩⟩
theorem lw_p16 : lw_okq (⟨"GuestStaff$Rows", "costThrough", "(II)I"⟩, 5) := ⟨⟨by decide +kernel, by decide +kernel⟩, List.mem_of_getElem? (i := 58) (by decide +kernel), List.mem_of_getElem? (i := 556) (by decide +kernel), List.mem_of_getElem? (i := 557) (by decide +kernel)⟩
theorem lw_p17 : lw_okq (⟨"GuestStaff$Rows", "firstBest", "(I)I"⟩, 5) := ⟨⟨by decide +kernel, by decide +kernel⟩, List.mem_of_getElem? (i := 58) (by decide +kernel), List.mem_of_getElem? (i := 561) (by decide +kernel), List.mem_of_getElem? (i := 562) (by decide +kernel)⟩
theorem lw_p18 : lw_okq (⟨"GuestStaff", "closes", "(LGuestStaff$House;I)Z"⟩, 9) := ⟨⟨by decide +kernel, by decide +kernel⟩, List.mem_of_getElem? (i := 21) (by decide +kernel), List.mem_of_getElem? (i := 596) (by decide +kernel), List.mem_of_getElem? (i := 597) (by decide +kernel)⟩
theorem lw_p19 : lw_okq (⟨"GuestStaff$House", "wouldRather", "(III)Z"⟩, 16) := ⟨⟨by decide +kernel, by decide +kernel⟩, List.mem_of_getElem? (i := 125) (by decide +kernel), List.mem_of_getElem? (i := 608) (by decide +kernel), List.mem_of_getElem? (i := 609) (by decide +kernel)⟩
theorem lw_p20 : lw_okq (⟨"GuestStaff$Notes", "allFit", "(ILGuestStaff$Plain;I)Z"⟩, 2) := ⟨⟨by decide +kernel, by decide +kernel⟩, List.mem_of_getElem? (i := 131) (by decide +kernel), List.mem_of_getElem? (i := 640) (by decide +kernel), List.mem_of_getElem? (i := 641) (by decide +kernel)⟩
theorem lw_p21 : lw_okq (⟨"GuestStaff", "keepFraction", "(II)V"⟩, 9) := ⟨⟨by decide +kernel, by decide +kernel⟩, List.mem_of_getElem? (i := 21) (by decide +kernel), List.mem_of_getElem? (i := 671) (by decide +kernel), List.mem_of_getElem? (i := 672) (by decide +kernel)⟩
theorem lw_p22 : lw_okq (⟨"GuestStaff", "countOf", "(I)I"⟩, 9) := ⟨⟨by decide +kernel, by decide +kernel⟩, List.mem_of_getElem? (i := 21) (by decide +kernel), List.mem_of_getElem? (i := 704) (by decide +kernel), List.mem_of_getElem? (i := 705) (by decide +kernel)⟩
theorem lw_p23 : lw_okq (⟨"GuestStaffModel", "anew", "()V"⟩, 28) := ⟨⟨by decide +kernel, by decide +kernel⟩, List.mem_of_getElem? (i := 728) (by decide +kernel), List.mem_of_getElem? (i := 823) (by decide +kernel), List.mem_of_getElem? (i := 824) (by decide +kernel)⟩
theorem lw_p24 : lw_okq (⟨"GuestStaffModel", "bad", "()I"⟩, 28) := ⟨⟨by decide +kernel, by decide +kernel⟩, List.mem_of_getElem? (i := 728) (by decide +kernel), List.mem_of_getElem? (i := 837) (by decide +kernel), List.mem_of_getElem? (i := 838) (by decide +kernel)⟩
theorem lw_p25 : lw_okq (⟨"GuestStaffModel", "full", "()I"⟩, 28) := ⟨⟨by decide +kernel, by decide +kernel⟩, List.mem_of_getElem? (i := 728) (by decide +kernel), List.mem_of_getElem? (i := 841) (by decide +kernel), List.mem_of_getElem? (i := 842) (by decide +kernel)⟩
theorem lw_p26 : lw_okq (⟨"GuestStaffModel", "add", "(III)V"⟩, 28) := ⟨⟨by decide +kernel, by decide +kernel⟩, List.mem_of_getElem? (i := 728) (by decide +kernel), List.mem_of_getElem? (i := 845) (by decide +kernel), List.mem_of_getElem? (i := 846) (by decide +kernel)⟩
theorem lw_p27 : lw_okq (⟨"GuestStaffModel", "isGuest", "(I)Z"⟩, 28) := ⟨⟨by decide +kernel, by decide +kernel⟩, List.mem_of_getElem? (i := 728) (by decide +kernel), List.mem_of_getElem? (i := 853) (by decide +kernel), List.mem_of_getElem? (i := 854) (by decide +kernel)⟩
theorem lw_p28 : lw_okq (⟨"GuestStaffModel", "badFar", "()I"⟩, 28) := ⟨⟨by decide +kernel, by decide +kernel⟩, List.mem_of_getElem? (i := 728) (by decide +kernel), List.mem_of_getElem? (i := 857) (by decide +kernel), List.mem_of_getElem? (i := 858) (by decide +kernel)⟩
theorem lw_p29 : lw_okq (⟨"GuestStaffModel", "noteStep", "()V"⟩, 28) := ⟨⟨by decide +kernel, by decide +kernel⟩, List.mem_of_getElem? (i := 728) (by decide +kernel), List.mem_of_getElem? (i := 861) (by decide +kernel), List.mem_of_getElem? (i := 862) (by decide +kernel)⟩
theorem lw_p30 : lw_okq (⟨"GuestStaffModel", "readText", "(Z)I"⟩, 28) := ⟨⟨by decide +kernel, by decide +kernel⟩, List.mem_of_getElem? (i := 728) (by decide +kernel), List.mem_of_getElem? (i := 878) (by decide +kernel), List.mem_of_getElem? (i := 879) (by decide +kernel)⟩
theorem lw_p31 : lw_okq (⟨"GuestStaffModel", "nextToken", "()V"⟩, 28) := ⟨⟨by decide +kernel, by decide +kernel⟩, List.mem_of_getElem? (i := 728) (by decide +kernel), List.mem_of_getElem? (i := 882) (by decide +kernel), List.mem_of_getElem? (i := 883) (by decide +kernel)⟩
def lw_privs_2 : List (MethodName × Nat) := [(⟨"GuestStaff$Rows", "costThrough", "(II)I"⟩, 5), (⟨"GuestStaff$Rows", "firstBest", "(I)I"⟩, 5), (⟨"GuestStaff", "closes", "(LGuestStaff$House;I)Z"⟩, 9), (⟨"GuestStaff$House", "wouldRather", "(III)Z"⟩, 16), (⟨"GuestStaff$Notes", "allFit", "(ILGuestStaff$Plain;I)Z"⟩, 2), (⟨"GuestStaff", "keepFraction", "(II)V"⟩, 9), (⟨"GuestStaff", "countOf", "(I)I"⟩, 9), (⟨"GuestStaffModel", "anew", "()V"⟩, 28), (⟨"GuestStaffModel", "bad", "()I"⟩, 28), (⟨"GuestStaffModel", "full", "()I"⟩, 28), (⟨"GuestStaffModel", "add", "(III)V"⟩, 28), (⟨"GuestStaffModel", "isGuest", "(I)Z"⟩, 28), (⟨"GuestStaffModel", "badFar", "()I"⟩, 28), (⟨"GuestStaffModel", "noteStep", "()V"⟩, 28), (⟨"GuestStaffModel", "readText", "(Z)I"⟩, 28), (⟨"GuestStaffModel", "nextToken", "()V"⟩, 28)]
theorem lw_r2 : ∀ q ∈ lw_privs_2, lw_okq q := List.forall_mem_cons.mpr ⟨lw_p16, List.forall_mem_cons.mpr ⟨lw_p17, List.forall_mem_cons.mpr ⟨lw_p18, List.forall_mem_cons.mpr ⟨lw_p19, List.forall_mem_cons.mpr ⟨lw_p20, List.forall_mem_cons.mpr ⟨lw_p21, List.forall_mem_cons.mpr ⟨lw_p22, List.forall_mem_cons.mpr ⟨lw_p23, List.forall_mem_cons.mpr ⟨lw_p24, List.forall_mem_cons.mpr ⟨lw_p25, List.forall_mem_cons.mpr ⟨lw_p26, List.forall_mem_cons.mpr ⟨lw_p27, List.forall_mem_cons.mpr ⟨lw_p28, List.forall_mem_cons.mpr ⟨lw_p29, List.forall_mem_cons.mpr ⟨lw_p30, List.forall_mem_cons.mpr ⟨lw_p31, fun _ h => absurd h List.not_mem_nil⟩⟩⟩⟩⟩⟩⟩⟩⟩⟩⟩⟩⟩⟩⟩⟩
theorem lw_p32 : lw_okq (⟨"GuestStaffModel", "byteAt", "(I)I"⟩, 28) := ⟨⟨by decide +kernel, by decide +kernel⟩, List.mem_of_getElem? (i := 728) (by decide +kernel), List.mem_of_getElem? (i := 886) (by decide +kernel), List.mem_of_getElem? (i := 887) (by decide +kernel)⟩
theorem lw_p33 : lw_okq (⟨"GuestStaffModel", "readItem", "(IZ)Z"⟩, 28) := ⟨⟨by decide +kernel, by decide +kernel⟩, List.mem_of_getElem? (i := 728) (by decide +kernel), List.mem_of_getElem? (i := 894) (by decide +kernel), List.mem_of_getElem? (i := 895) (by decide +kernel)⟩
theorem lw_p34 : lw_okq (⟨"GuestStaffModel", "isWord", "(IIIII)Z"⟩, 28) := ⟨⟨by decide +kernel, by decide +kernel⟩, List.mem_of_getElem? (i := 728) (by decide +kernel), List.mem_of_getElem? (i := 898) (by decide +kernel), List.mem_of_getElem? (i := 899) (by decide +kernel)⟩
theorem lw_p35 : lw_okq (⟨"GuestStaffModel", "reads", "(II)Z"⟩, 28) := ⟨⟨by decide +kernel, by decide +kernel⟩, List.mem_of_getElem? (i := 728) (by decide +kernel), List.mem_of_getElem? (i := 902) (by decide +kernel), List.mem_of_getElem? (i := 903) (by decide +kernel)⟩
theorem lw_p36 : lw_okq (⟨"GuestStaffModel", "readServices", "()Z"⟩, 28) := ⟨⟨by decide +kernel, by decide +kernel⟩, List.mem_of_getElem? (i := 728) (by decide +kernel), List.mem_of_getElem? (i := 906) (by decide +kernel), List.mem_of_getElem? (i := 907) (by decide +kernel)⟩
theorem lw_p37 : lw_okq (⟨"GuestStaffModel", "oneHour", "()V"⟩, 28) := ⟨⟨by decide +kernel, by decide +kernel⟩, List.mem_of_getElem? (i := 728) (by decide +kernel), List.mem_of_getElem? (i := 915) (by decide +kernel), List.mem_of_getElem? (i := 916) (by decide +kernel)⟩
theorem lw_p38 : lw_okq (⟨"GuestStaffModel", "serverOf", "(I)I"⟩, 28) := ⟨⟨by decide +kernel, by decide +kernel⟩, List.mem_of_getElem? (i := 728) (by decide +kernel), List.mem_of_getElem? (i := 919) (by decide +kernel), List.mem_of_getElem? (i := 920) (by decide +kernel)⟩
theorem lw_p39 : lw_okq (⟨"GuestStaffModel", "canServe", "(II)Z"⟩, 28) := ⟨⟨by decide +kernel, by decide +kernel⟩, List.mem_of_getElem? (i := 728) (by decide +kernel), List.mem_of_getElem? (i := 923) (by decide +kernel), List.mem_of_getElem? (i := 924) (by decide +kernel)⟩
theorem lw_p40 : lw_okq (⟨"GuestStaffModel", "contentOf", "(II)I"⟩, 28) := ⟨⟨by decide +kernel, by decide +kernel⟩, List.mem_of_getElem? (i := 728) (by decide +kernel), List.mem_of_getElem? (i := 930) (by decide +kernel), List.mem_of_getElem? (i := 931) (by decide +kernel)⟩
theorem lw_p41 : lw_okq (⟨"GuestStaffModel", "no", "()I"⟩, 28) := ⟨⟨by decide +kernel, by decide +kernel⟩, List.mem_of_getElem? (i := 728) (by decide +kernel), List.mem_of_getElem? (i := 941) (by decide +kernel), List.mem_of_getElem? (i := 942) (by decide +kernel)⟩
theorem lw_p42 : lw_okq (⟨"GuestStaffModel", "workBy", "(II)I"⟩, 28) := ⟨⟨by decide +kernel, by decide +kernel⟩, List.mem_of_getElem? (i := 728) (by decide +kernel), List.mem_of_getElem? (i := 958) (by decide +kernel), List.mem_of_getElem? (i := 959) (by decide +kernel)⟩
theorem lw_p43 : lw_okq (⟨"GuestStaffModel", "isOne", "(I)Z"⟩, 28) := ⟨⟨by decide +kernel, by decide +kernel⟩, List.mem_of_getElem? (i := 728) (by decide +kernel), List.mem_of_getElem? (i := 966) (by decide +kernel), List.mem_of_getElem? (i := 967) (by decide +kernel)⟩
theorem lw_p44 : lw_okq (⟨"GuestStaffModel", "findRows", "()V"⟩, 28) := ⟨⟨by decide +kernel, by decide +kernel⟩, List.mem_of_getElem? (i := 728) (by decide +kernel), List.mem_of_getElem? (i := 970) (by decide +kernel), List.mem_of_getElem? (i := 971) (by decide +kernel)⟩
theorem lw_p45 : lw_okq (⟨"GuestStaffModel", "everybody", "()I"⟩, 28) := ⟨⟨by decide +kernel, by decide +kernel⟩, List.mem_of_getElem? (i := 728) (by decide +kernel), List.mem_of_getElem? (i := 974) (by decide +kernel), List.mem_of_getElem? (i := 975) (by decide +kernel)⟩
theorem lw_p46 : lw_okq (⟨"GuestStaffModel", "takeSet", "(I)V"⟩, 28) := ⟨⟨by decide +kernel, by decide +kernel⟩, List.mem_of_getElem? (i := 728) (by decide +kernel), List.mem_of_getElem? (i := 978) (by decide +kernel), List.mem_of_getElem? (i := 979) (by decide +kernel)⟩
theorem lw_p47 : lw_okq (⟨"GuestStaffModel", "isRow", "(I)Z"⟩, 28) := ⟨⟨by decide +kernel, by decide +kernel⟩, List.mem_of_getElem? (i := 728) (by decide +kernel), List.mem_of_getElem? (i := 985) (by decide +kernel), List.mem_of_getElem? (i := 986) (by decide +kernel)⟩
def lw_privs_3 : List (MethodName × Nat) := [(⟨"GuestStaffModel", "byteAt", "(I)I"⟩, 28), (⟨"GuestStaffModel", "readItem", "(IZ)Z"⟩, 28), (⟨"GuestStaffModel", "isWord", "(IIIII)Z"⟩, 28), (⟨"GuestStaffModel", "reads", "(II)Z"⟩, 28), (⟨"GuestStaffModel", "readServices", "()Z"⟩, 28), (⟨"GuestStaffModel", "oneHour", "()V"⟩, 28), (⟨"GuestStaffModel", "serverOf", "(I)I"⟩, 28), (⟨"GuestStaffModel", "canServe", "(II)Z"⟩, 28), (⟨"GuestStaffModel", "contentOf", "(II)I"⟩, 28), (⟨"GuestStaffModel", "no", "()I"⟩, 28), (⟨"GuestStaffModel", "workBy", "(II)I"⟩, 28), (⟨"GuestStaffModel", "isOne", "(I)Z"⟩, 28), (⟨"GuestStaffModel", "findRows", "()V"⟩, 28), (⟨"GuestStaffModel", "everybody", "()I"⟩, 28), (⟨"GuestStaffModel", "takeSet", "(I)V"⟩, 28), (⟨"GuestStaffModel", "isRow", "(I)Z"⟩, 28)]
theorem lw_r3 : ∀ q ∈ lw_privs_3, lw_okq q := List.forall_mem_cons.mpr ⟨lw_p32, List.forall_mem_cons.mpr ⟨lw_p33, List.forall_mem_cons.mpr ⟨lw_p34, List.forall_mem_cons.mpr ⟨lw_p35, List.forall_mem_cons.mpr ⟨lw_p36, List.forall_mem_cons.mpr ⟨lw_p37, List.forall_mem_cons.mpr ⟨lw_p38, List.forall_mem_cons.mpr ⟨lw_p39, List.forall_mem_cons.mpr ⟨lw_p40, List.forall_mem_cons.mpr ⟨lw_p41, List.forall_mem_cons.mpr ⟨lw_p42, List.forall_mem_cons.mpr ⟨lw_p43, List.forall_mem_cons.mpr ⟨lw_p44, List.forall_mem_cons.mpr ⟨lw_p45, List.forall_mem_cons.mpr ⟨lw_p46, List.forall_mem_cons.mpr ⟨lw_p47, fun _ h => absurd h List.not_mem_nil⟩⟩⟩⟩⟩⟩⟩⟩⟩⟩⟩⟩⟩⟩⟩⟩
theorem lw_p48 : lw_okq (⟨"GuestStaffModel", "rowWork", "()I"⟩, 28) := ⟨⟨by decide +kernel, by decide +kernel⟩, List.mem_of_getElem? (i := 728) (by decide +kernel), List.mem_of_getElem? (i := 989) (by decide +kernel), List.mem_of_getElem? (i := 990) (by decide +kernel)⟩
theorem lw_p49 : lw_okq (⟨"GuestStaffModel", "rowContent", "()I"⟩, 28) := ⟨⟨by decide +kernel, by decide +kernel⟩, List.mem_of_getElem? (i := 728) (by decide +kernel), List.mem_of_getElem? (i := 993) (by decide +kernel), List.mem_of_getElem? (i := 994) (by decide +kernel)⟩
theorem lw_p50 : lw_okq (⟨"GuestStaffModel", "ringOf", "(I)I"⟩, 28) := ⟨⟨by decide +kernel, by decide +kernel⟩, List.mem_of_getElem? (i := 728) (by decide +kernel), List.mem_of_getElem? (i := 1013) (by decide +kernel), List.mem_of_getElem? (i := 1014) (by decide +kernel)⟩
theorem lw_p51 : lw_okq (⟨"GuestStaffModel", "closes", "(I)Z"⟩, 28) := ⟨⟨by decide +kernel, by decide +kernel⟩, List.mem_of_getElem? (i := 728) (by decide +kernel), List.mem_of_getElem? (i := 1024) (by decide +kernel), List.mem_of_getElem? (i := 1025) (by decide +kernel)⟩
theorem lw_p52 : lw_okq (⟨"GuestStaffModel", "gains", "(II)Z"⟩, 28) := ⟨⟨by decide +kernel, by decide +kernel⟩, List.mem_of_getElem? (i := 728) (by decide +kernel), List.mem_of_getElem? (i := 1032) (by decide +kernel), List.mem_of_getElem? (i := 1033) (by decide +kernel)⟩
theorem lw_p53 : lw_okq (⟨"GuestStaffModel", "wantsBy", "(II)I"⟩, 28) := ⟨⟨by decide +kernel, by decide +kernel⟩, List.mem_of_getElem? (i := 728) (by decide +kernel), List.mem_of_getElem? (i := 1054) (by decide +kernel), List.mem_of_getElem? (i := 1055) (by decide +kernel)⟩
theorem lw_p54 : lw_okq (⟨"GuestStaffModel", "putAside", "()V"⟩, 28) := ⟨⟨by decide +kernel, by decide +kernel⟩, List.mem_of_getElem? (i := 728) (by decide +kernel), List.mem_of_getElem? (i := 1070) (by decide +kernel), List.mem_of_getElem? (i := 1071) (by decide +kernel)⟩
theorem lw_p55 : lw_okq (⟨"GuestStaffModel", "takeBack", "()V"⟩, 28) := ⟨⟨by decide +kernel, by decide +kernel⟩, List.mem_of_getElem? (i := 728) (by decide +kernel), List.mem_of_getElem? (i := 1074) (by decide +kernel), List.mem_of_getElem? (i := 1075) (by decide +kernel)⟩
theorem lw_p56 : lw_okq (⟨"GuestStaffModel", "servedMany", "()I"⟩, 28) := ⟨⟨by decide +kernel, by decide +kernel⟩, List.mem_of_getElem? (i := 728) (by decide +kernel), List.mem_of_getElem? (i := 1083) (by decide +kernel), List.mem_of_getElem? (i := 1084) (by decide +kernel)⟩
theorem lw_p57 : lw_okq (⟨"GuestStaffModel", "countOf", "(I)I"⟩, 28) := ⟨⟨by decide +kernel, by decide +kernel⟩, List.mem_of_getElem? (i := 728) (by decide +kernel), List.mem_of_getElem? (i := 1118) (by decide +kernel), List.mem_of_getElem? (i := 1119) (by decide +kernel)⟩
def lw_privs_4 : List (MethodName × Nat) := [(⟨"GuestStaffModel", "rowWork", "()I"⟩, 28), (⟨"GuestStaffModel", "rowContent", "()I"⟩, 28), (⟨"GuestStaffModel", "ringOf", "(I)I"⟩, 28), (⟨"GuestStaffModel", "closes", "(I)Z"⟩, 28), (⟨"GuestStaffModel", "gains", "(II)Z"⟩, 28), (⟨"GuestStaffModel", "wantsBy", "(II)I"⟩, 28), (⟨"GuestStaffModel", "putAside", "()V"⟩, 28), (⟨"GuestStaffModel", "takeBack", "()V"⟩, 28), (⟨"GuestStaffModel", "servedMany", "()I"⟩, 28), (⟨"GuestStaffModel", "countOf", "(I)I"⟩, 28)]
theorem lw_r4 : ∀ q ∈ lw_privs_4, lw_okq q := List.forall_mem_cons.mpr ⟨lw_p48, List.forall_mem_cons.mpr ⟨lw_p49, List.forall_mem_cons.mpr ⟨lw_p50, List.forall_mem_cons.mpr ⟨lw_p51, List.forall_mem_cons.mpr ⟨lw_p52, List.forall_mem_cons.mpr ⟨lw_p53, List.forall_mem_cons.mpr ⟨lw_p54, List.forall_mem_cons.mpr ⟨lw_p55, List.forall_mem_cons.mpr ⟨lw_p56, List.forall_mem_cons.mpr ⟨lw_p57, fun _ h => absurd h List.not_mem_nil⟩⟩⟩⟩⟩⟩⟩⟩⟩⟩
def lw_privs : List (MethodName × Nat) := lw_privs_1 ++ (lw_privs_2 ++ (lw_privs_3 ++ (lw_privs_4)))
def lw_tbl : List Cond := k2_sels lw_privs ++ tables_1
theorem lw_privs_ok : ∀ q ∈ lw_privs, lw_okq q := by
  show ∀ q ∈ lw_privs_1 ++ (lw_privs_2 ++ (lw_privs_3 ++ (lw_privs_4))), lw_okq q
  exact List.forall_mem_append.mpr ⟨lw_r1, List.forall_mem_append.mpr ⟨lw_r2, List.forall_mem_append.mpr ⟨lw_r3, lw_r4⟩⟩⟩
end
section
def RX0 : String := "GuestStaff$Banker"
def TX0 : u_T := fun k => match k with
  | _ => ("", "", "", false)
def tyX0 : Nat → FieldType := fun k => match k with
  | _ => .int
abbrev wsX00 : List Cond := u_ws RX0 TX0 0
theorem nmX0 : ∀ a, a < 0 → ∀ b, b < 0 → a ≠ b → (TX0 a).2.1 ≠ (TX0 b).2.1 := by decide +kernel
theorem tyX0_ok : ∀ k, k < 0 → parseFieldDescriptor (TX0 k).2.2.1 = some (tyX0 k) := by decide +kernel
abbrev cX0_init : ByteArray := prog_2_method_1_code
def yX0_init : MethodName := ⟨RX0, "<init>", "()V"⟩
abbrev cX0_contentBy : ByteArray := prog_2_method_2_code
def yX0_contentBy : MethodName := ⟨RX0, "contentBy", "(II)I"⟩
abbrev cX0_workOn : ByteArray := prog_2_method_3_code
def yX0_workOn : MethodName := ⟨RX0, "workOn", "(I)I"⟩
def RX1 : String := "GuestStaff$House"
def TX1 : u_T := fun k => match k with
  | 0 => ("GuestStaff$House", "kinds", "[LGuestStaff$Plain;", true)
  | 1 => ("GuestStaff$House", "kind", "[I", true)
  | 2 => ("GuestStaff$House", "want", "[I", true)
  | 3 => ("GuestStaff$House", "can", "[I", true)
  | 4 => ("GuestStaff$House", "duty", "[I", true)
  | 5 => ("GuestStaff$House", "tips", "[I", true)
  | 6 => ("GuestStaff$House", "notes", "LGuestStaff$Notes;", true)
  | 7 => ("GuestStaff$House", "pastDuty", "[[I", true)
  | 8 => ("GuestStaff$House", "pastTips", "[[I", true)
  | 9 => ("GuestStaff$House", "pastMood", "[I", true)
  | 10 => ("GuestStaff$House", "pastHour", "[I", true)
  | 11 => ("GuestStaff$House", "slot", "I", false)
  | 12 => ("GuestStaff$House", "undoable", "I", false)
  | 13 => ("GuestStaff$House", "guests", "I", false)
  | 14 => ("GuestStaff$House", "hour", "I", false)
  | _ => ("GuestStaff$House", "mood", "I", false)
def tyX1 : Nat → FieldType := fun k => match k with
  | 0 => .array (.object "GuestStaff$Plain")
  | 1 => .array .int
  | 2 => .array .int
  | 3 => .array .int
  | 4 => .array .int
  | 5 => .array .int
  | 6 => .object "GuestStaff$Notes"
  | 7 => .array (.array .int)
  | 8 => .array (.array .int)
  | 9 => .array .int
  | 10 => .array .int
  | 11 => .int
  | 12 => .int
  | 13 => .int
  | 14 => .int
  | _ => .int
abbrev wsX10 : List Cond := u_ws RX1 TX1 16
theorem nmX1 : ∀ a, a < 16 → ∀ b, b < 16 → a ≠ b → (TX1 a).2.1 ≠ (TX1 b).2.1 := by decide +kernel
theorem tyX1_ok : ∀ k, k < 16 → parseFieldDescriptor (TX1 k).2.2.1 = some (tyX1 k) := by decide +kernel
abbrev cX1_init : ByteArray := prog_3_method_1_code
def yX1_init : MethodName := ⟨RX1, "<init>", "([LGuestStaff$Plain;)V"⟩
abbrev cX1_empty : ByteArray := prog_3_method_2_code
def yX1_empty : MethodName := ⟨RX1, "empty", "()V"⟩
abbrev cX1_copy : ByteArray := prog_3_method_3_code
def yX1_copy : MethodName := ⟨RX1, "copy", "(LGuestStaff$House;)V"⟩
abbrev cX1_copyRow : ByteArray := prog_3_method_4_code
def yX1_copyRow : MethodName := ⟨RX1, "copyRow", "([I[I)V"⟩
abbrev cX1_isGuest : ByteArray := prog_3_method_5_code
def yX1_isGuest : MethodName := ⟨RX1, "isGuest", "(I)Z"⟩
abbrev cX1_admit : ByteArray := prog_3_method_6_code
def yX1_admit : MethodName := ⟨RX1, "admit", "(III)I"⟩
abbrev cX1_canServe : ByteArray := prog_3_method_7_code
def yX1_canServe : MethodName := ⟨RX1, "canServe", "(II)Z"⟩
abbrev cX1_isServable : ByteArray := prog_3_method_8_code
def yX1_isServable : MethodName := ⟨RX1, "isServable", "(I)Z"⟩
abbrev cX1_doesServe : ByteArray := prog_3_method_9_code
def yX1_doesServe : MethodName := ⟨RX1, "doesServe", "(II)Z"⟩
abbrev cX1_serverOf : ByteArray := prog_3_method_10_code
def yX1_serverOf : MethodName := ⟨RX1, "serverOf", "(I)I"⟩
abbrev cX1_serversOf : ByteArray := prog_3_method_11_code
def yX1_serversOf : MethodName := ⟨RX1, "serversOf", "(I)I"⟩
abbrev cX1_servedCount : ByteArray := prog_3_method_12_code
def yX1_servedCount : MethodName := ⟨RX1, "servedCount", "()I"⟩
abbrev cX1_contentBy : ByteArray := prog_3_method_13_code
def yX1_contentBy : MethodName := ⟨RX1, "contentBy", "(II)I"⟩
abbrev cX1_contentOf : ByteArray := prog_3_method_14_code
def yX1_contentOf : MethodName := ⟨RX1, "contentOf", "(I)I"⟩
abbrev cX1_workFor : ByteArray := prog_3_method_15_code
def yX1_workFor : MethodName := ⟨RX1, "workFor", "(II)I"⟩
abbrev cX1_passHour : ByteArray := prog_3_method_16_code
def yX1_passHour : MethodName := ⟨RX1, "passHour", "()V"⟩
abbrev cX1_remember : ByteArray := prog_3_method_17_code
def yX1_remember : MethodName := ⟨RX1, "remember", "()V"⟩
abbrev cX1_recall : ByteArray := prog_3_method_18_code
def yX1_recall : MethodName := ⟨RX1, "recall", "()V"⟩
abbrev cX1_ringOf : ByteArray := prog_3_method_19_code
def yX1_ringOf : MethodName := ⟨RX1, "ringOf", "(I)I"⟩
abbrev cX1_wouldSwap : ByteArray := prog_3_method_20_code
def yX1_wouldSwap : MethodName := ⟨RX1, "wouldSwap", "(II)Z"⟩
abbrev cX1_wouldRather : ByteArray := prog_3_method_21_code
def yX1_wouldRather : MethodName := ⟨RX1, "wouldRather", "(III)Z"⟩
abbrev cX1_wantsThatFit : ByteArray := prog_3_method_22_code
def yX1_wantsThatFit : MethodName := ⟨RX1, "wantsThatFit", "(II)I"⟩
abbrev cX1_addGuestsTo : ByteArray := prog_3_method_23_code
def yX1_addGuestsTo : MethodName := ⟨RX1, "addGuestsTo", "(J)J"⟩
def RX2 : String := "GuestStaff$Late"
def TX2 : u_T := fun k => match k with
  | _ => ("", "", "", false)
def tyX2 : Nat → FieldType := fun k => match k with
  | _ => .int
abbrev wsX20 : List Cond := u_ws RX2 TX2 0
theorem nmX2 : ∀ a, a < 0 → ∀ b, b < 0 → a ≠ b → (TX2 a).2.1 ≠ (TX2 b).2.1 := by decide +kernel
theorem tyX2_ok : ∀ k, k < 0 → parseFieldDescriptor (TX2 k).2.2.1 = some (tyX2 k) := by decide +kernel
abbrev cX2_init : ByteArray := prog_4_method_1_code
def yX2_init : MethodName := ⟨RX2, "<init>", "()V"⟩
abbrev cX2_contentBy : ByteArray := prog_4_method_2_code
def yX2_contentBy : MethodName := ⟨RX2, "contentBy", "(II)I"⟩
def RX3 : String := "GuestStaff$Notes"
def TX3 : u_T := fun k => match k with
  | 0 => ("GuestStaff$Notes", "note", "[[I", true)
  | _ => ("GuestStaff$Notes", "size", "I", false)
def tyX3 : Nat → FieldType := fun k => match k with
  | 0 => .array (.array .int)
  | _ => .int
abbrev wsX30 : List Cond := u_ws RX3 TX3 2
theorem nmX3 : ∀ a, a < 2 → ∀ b, b < 2 → a ≠ b → (TX3 a).2.1 ≠ (TX3 b).2.1 := by decide +kernel
theorem tyX3_ok : ∀ k, k < 2 → parseFieldDescriptor (TX3 k).2.2.1 = some (tyX3 k) := by decide +kernel
abbrev cX3_init : ByteArray := prog_5_method_1_code
def yX3_init : MethodName := ⟨RX3, "<init>", "()V"⟩
abbrev cX3_add : ByteArray := prog_5_method_2_code
def yX3_add : MethodName := ⟨RX3, "add", "(IIIII)I"⟩
abbrev cX3_copy : ByteArray := prog_5_method_3_code
def yX3_copy : MethodName := ⟨RX3, "copy", "(LGuestStaff$Notes;)V"⟩
abbrev cX3_wantsThatFit : ByteArray := prog_5_method_4_code
def yX3_wantsThatFit : MethodName := ⟨RX3, "wantsThatFit", "(ILGuestStaff$Plain;)I"⟩
abbrev cX3_allFit : ByteArray := prog_5_method_5_code
def yX3_allFit : MethodName := ⟨RX3, "allFit", "(ILGuestStaff$Plain;I)Z"⟩
abbrev cX3_addTo : ByteArray := prog_5_method_6_code
def yX3_addTo : MethodName := ⟨RX3, "addTo", "(J)J"⟩
def RX4 : String := "GuestStaff$Plain"
def TX4 : u_T := fun k => match k with
  | _ => ("", "", "", false)
def tyX4 : Nat → FieldType := fun k => match k with
  | _ => .int
abbrev wsX40 : List Cond := u_ws RX4 TX4 0
theorem nmX4 : ∀ a, a < 0 → ∀ b, b < 0 → a ≠ b → (TX4 a).2.1 ≠ (TX4 b).2.1 := by decide +kernel
theorem tyX4_ok : ∀ k, k < 0 → parseFieldDescriptor (TX4 k).2.2.1 = some (tyX4 k) := by decide +kernel
abbrev cX4_init : ByteArray := prog_6_method_1_code
def yX4_init : MethodName := ⟨RX4, "<init>", "()V"⟩
abbrev cX4_contentBy : ByteArray := prog_6_method_2_code
def yX4_contentBy : MethodName := ⟨RX4, "contentBy", "(II)I"⟩
abbrev cX4_workOn : ByteArray := prog_6_method_3_code
def yX4_workOn : MethodName := ⟨RX4, "workOn", "(I)I"⟩
def RX5 : String := "GuestStaff$Polisher"
def TX5 : u_T := fun k => match k with
  | _ => ("", "", "", false)
def tyX5 : Nat → FieldType := fun k => match k with
  | _ => .int
abbrev wsX50 : List Cond := u_ws RX5 TX5 0
theorem nmX5 : ∀ a, a < 0 → ∀ b, b < 0 → a ≠ b → (TX5 a).2.1 ≠ (TX5 b).2.1 := by decide +kernel
theorem tyX5_ok : ∀ k, k < 0 → parseFieldDescriptor (TX5 k).2.2.1 = some (tyX5 k) := by decide +kernel
abbrev cX5_init : ByteArray := prog_7_method_1_code
def yX5_init : MethodName := ⟨RX5, "<init>", "()V"⟩
abbrev cX5_contentBy : ByteArray := prog_7_method_2_code
def yX5_contentBy : MethodName := ⟨RX5, "contentBy", "(II)I"⟩
abbrev cX5_workOn : ByteArray := prog_7_method_3_code
def yX5_workOn : MethodName := ⟨RX5, "workOn", "(I)I"⟩
def RX6 : String := "GuestStaff$Quiet"
def TX6 : u_T := fun k => match k with
  | _ => ("", "", "", false)
def tyX6 : Nat → FieldType := fun k => match k with
  | _ => .int
abbrev wsX60 : List Cond := u_ws RX6 TX6 0
theorem nmX6 : ∀ a, a < 0 → ∀ b, b < 0 → a ≠ b → (TX6 a).2.1 ≠ (TX6 b).2.1 := by decide +kernel
theorem tyX6_ok : ∀ k, k < 0 → parseFieldDescriptor (TX6 k).2.2.1 = some (tyX6 k) := by decide +kernel
abbrev cX6_init : ByteArray := prog_8_method_1_code
def yX6_init : MethodName := ⟨RX6, "<init>", "()V"⟩
abbrev cX6_contentBy : ByteArray := prog_8_method_2_code
def yX6_contentBy : MethodName := ⟨RX6, "contentBy", "(II)I"⟩
abbrev cX6_workOn : ByteArray := prog_8_method_3_code
def yX6_workOn : MethodName := ⟨RX6, "workOn", "(I)I"⟩
def RX7 : String := "GuestStaff$Rows"
def TX7 : u_T := fun k => match k with
  | 0 => ("GuestStaff$Rows", "member", "[I", true)
  | 1 => ("GuestStaff$Rows", "open", "[I", true)
  | 2 => ("GuestStaff$Rows", "cost", "[[I", true)
  | 3 => ("GuestStaff$Rows", "rest", "[I", true)
  | _ => ("GuestStaff$Rows", "members", "I", false)
def tyX7 : Nat → FieldType := fun k => match k with
  | 0 => .array .int
  | 1 => .array .int
  | 2 => .array (.array .int)
  | 3 => .array .int
  | _ => .int
abbrev wsX70 : List Cond := u_ws RX7 TX7 5
theorem nmX7 : ∀ a, a < 5 → ∀ b, b < 5 → a ≠ b → (TX7 a).2.1 ≠ (TX7 b).2.1 := by decide +kernel
theorem tyX7_ok : ∀ k, k < 5 → parseFieldDescriptor (TX7 k).2.2.1 = some (tyX7 k) := by decide +kernel
abbrev cX7_init : ByteArray := prog_9_method_1_code
def yX7_init : MethodName := ⟨RX7, "<init>", "()V"⟩
abbrev cX7_gather : ByteArray := prog_9_method_2_code
def yX7_gather : MethodName := ⟨RX7, "gather", "(LGuestStaff$House;II)V"⟩
abbrev cX7_costOf : ByteArray := prog_9_method_3_code
def yX7_costOf : MethodName := ⟨RX7, "costOf", "(LGuestStaff$House;III)I"⟩
abbrev cX7_isOpen : ByteArray := prog_9_method_4_code
def yX7_isOpen : MethodName := ⟨RX7, "isOpen", "(II)Z"⟩
abbrev cX7_ways : ByteArray := prog_9_method_5_code
def yX7_ways : MethodName := ⟨RX7, "ways", "()I"⟩
abbrev cX7_leastCost : ByteArray := prog_9_method_6_code
def yX7_leastCost : MethodName := ⟨RX7, "leastCost", "()I"⟩
abbrev cX7_costThrough : ByteArray := prog_9_method_7_code
def yX7_costThrough : MethodName := ⟨RX7, "costThrough", "(II)I"⟩
abbrev cX7_dutyInBest : ByteArray := prog_9_method_8_code
def yX7_dutyInBest : MethodName := ⟨RX7, "dutyInBest", "(I)I"⟩
abbrev cX7_firstBest : ByteArray := prog_9_method_9_code
def yX7_firstBest : MethodName := ⟨RX7, "firstBest", "(I)I"⟩
def RX8 : String := "GuestStaff$Shouter"
def TX8 : u_T := fun k => match k with
  | _ => ("", "", "", false)
def tyX8 : Nat → FieldType := fun k => match k with
  | _ => .int
abbrev wsX80 : List Cond := u_ws RX8 TX8 0
theorem nmX8 : ∀ a, a < 0 → ∀ b, b < 0 → a ≠ b → (TX8 a).2.1 ≠ (TX8 b).2.1 := by decide +kernel
theorem tyX8_ok : ∀ k, k < 0 → parseFieldDescriptor (TX8 k).2.2.1 = some (tyX8 k) := by decide +kernel
abbrev cX8_init : ByteArray := prog_10_method_1_code
def yX8_init : MethodName := ⟨RX8, "<init>", "()V"⟩
abbrev cX8_contentBy : ByteArray := prog_10_method_2_code
def yX8_contentBy : MethodName := ⟨RX8, "contentBy", "(II)I"⟩
def RX9 : String := "GuestStaff$Text"
def TX9 : u_T := fun k => match k with
  | 0 => ("GuestStaff$Text", "bytes", "[I", true)
  | 1 => ("GuestStaff$Text", "size", "I", false)
  | 2 => ("GuestStaff$Text", "at", "I", false)
  | 3 => ("GuestStaff$Text", "behind", "I", false)
  | 4 => ("GuestStaff$Text", "sort", "I", false)
  | _ => ("GuestStaff$Text", "number", "I", false)
def tyX9 : Nat → FieldType := fun k => match k with
  | 0 => .array .int
  | 1 => .int
  | 2 => .int
  | 3 => .int
  | 4 => .int
  | _ => .int
abbrev wsX90 : List Cond := u_ws RX9 TX9 6
theorem nmX9 : ∀ a, a < 6 → ∀ b, b < 6 → a ≠ b → (TX9 a).2.1 ≠ (TX9 b).2.1 := by decide +kernel
theorem tyX9_ok : ∀ k, k < 6 → parseFieldDescriptor (TX9 k).2.2.1 = some (tyX9 k) := by decide +kernel
abbrev cX9_init : ByteArray := prog_11_method_1_code
def yX9_init : MethodName := ⟨RX9, "<init>", "()V"⟩
abbrev cX9_append : ByteArray := prog_11_method_2_code
def yX9_append : MethodName := ⟨RX9, "append", "(I)I"⟩
abbrev cX9_parse : ByteArray := prog_11_method_3_code
def yX9_parse : MethodName := ⟨RX9, "parse", "(LGuestStaff$House;)I"⟩
abbrev cX9_parseItem : ByteArray := prog_11_method_4_code
def yX9_parseItem : MethodName := ⟨RX9, "parseItem", "(LGuestStaff$House;)Z"⟩
abbrev cX9_parseGuest : ByteArray := prog_11_method_5_code
def yX9_parseGuest : MethodName := ⟨RX9, "parseGuest", "(LGuestStaff$House;)Z"⟩
abbrev cX9_parseDuty : ByteArray := prog_11_method_6_code
def yX9_parseDuty : MethodName := ⟨RX9, "parseDuty", "(LGuestStaff$House;)Z"⟩
abbrev cX9_stepToStop : ByteArray := prog_11_method_7_code
def yX9_stepToStop : MethodName := ⟨RX9, "stepToStop", "()Z"⟩
abbrev cX9_stepToNumber : ByteArray := prog_11_method_8_code
def yX9_stepToNumber : MethodName := ⟨RX9, "stepToNumber", "(I)Z"⟩
abbrev cX9_isNumber : ByteArray := prog_11_method_9_code
def yX9_isNumber : MethodName := ⟨RX9, "isNumber", "(I)Z"⟩
abbrev cX9_isWord : ByteArray := prog_11_method_10_code
def yX9_isWord : MethodName := ⟨RX9, "isWord", "(Ljava/lang/String;)Z"⟩
abbrev cX9_step : ByteArray := prog_11_method_11_code
def yX9_step : MethodName := ⟨RX9, "step", "()V"⟩
abbrev cX9_endOfRun : ByteArray := prog_11_method_12_code
def yX9_endOfRun : MethodName := ⟨RX9, "endOfRun", "(III)I"⟩
abbrev cX9_numberHere : ByteArray := prog_11_method_13_code
def yX9_numberHere : MethodName := ⟨RX9, "numberHere", "()I"⟩
abbrev cX9_signHere : ByteArray := prog_11_method_14_code
def yX9_signHere : MethodName := ⟨RX9, "signHere", "()I"⟩
def RX10 : String := "GuestStaff"
def TX10 : u_T := fun k => match k with
  | 0 => ("GuestStaff", "now", "LGuestStaff$House;", true)
  | 1 => ("GuestStaff", "trial", "LGuestStaff$House;", true)
  | 2 => ("GuestStaff", "images", "[LGuestStaff$House;", true)
  | 3 => ("GuestStaff", "kept", "[Z", true)
  | 4 => ("GuestStaff", "text", "LGuestStaff$Text;", true)
  | 5 => ("GuestStaff", "rows", "LGuestStaff$Rows;", true)
  | 6 => ("GuestStaff", "refused", "[I", true)
  | 7 => ("GuestStaff", "above", "J", false)
  | _ => ("GuestStaff", "below", "J", false)
def tyX10 : Nat → FieldType := fun k => match k with
  | 0 => .object "GuestStaff$House"
  | 1 => .object "GuestStaff$House"
  | 2 => .array (.object "GuestStaff$House")
  | 3 => .array .boolean
  | 4 => .object "GuestStaff$Text"
  | 5 => .object "GuestStaff$Rows"
  | 6 => .array .int
  | 7 => .long
  | _ => .long
abbrev wsX100 : List Cond := u_ws RX10 TX10 9
theorem nmX10 : ∀ a, a < 9 → ∀ b, b < 9 → a ≠ b → (TX10 a).2.1 ≠ (TX10 b).2.1 := by decide +kernel
theorem tyX10_ok : ∀ k, k < 9 → parseFieldDescriptor (TX10 k).2.2.1 = some (tyX10 k) := by decide +kernel
abbrev cX10_init : ByteArray := prog_1_method_1_code
def yX10_init : MethodName := ⟨RX10, "<init>", "()V"⟩
abbrev cX10_house : ByteArray := prog_1_method_2_code
def yX10_house : MethodName := ⟨RX10, "house", "()I"⟩
abbrev cX10_guest : ByteArray := prog_1_method_3_code
def yX10_guest : MethodName := ⟨RX10, "guest", "(III)I"⟩
abbrev cX10_duty : ByteArray := prog_1_method_4_code
def yX10_duty : MethodName := ⟨RX10, "duty", "(II)I"⟩
abbrev cX10_type : ByteArray := prog_1_method_5_code
def yX10_type : MethodName := ⟨RX10, "type", "(I)I"⟩
abbrev cX10_clear : ByteArray := prog_1_method_6_code
def yX10_clear : MethodName := ⟨RX10, "clear", "()I"⟩
abbrev cX10_read : ByteArray := prog_1_method_7_code
def yX10_read : MethodName := ⟨RX10, "read", "()I"⟩
abbrev cX10_hour : ByteArray := prog_1_method_8_code
def yX10_hour : MethodName := ⟨RX10, "hour", "(I)I"⟩
abbrev cX10_undo : ByteArray := prog_1_method_9_code
def yX10_undo : MethodName := ⟨RX10, "undo", "()I"⟩
abbrev cX10_of : ByteArray := prog_1_method_10_code
def yX10_of : MethodName := ⟨RX10, "of", "(II)I"⟩
abbrev cX10_can : ByteArray := prog_1_method_11_code
def yX10_can : MethodName := ⟨RX10, "can", "(II)I"⟩
abbrev cX10_work : ByteArray := prog_1_method_12_code
def yX10_work : MethodName := ⟨RX10, "work", "(II)I"⟩
abbrev cX10_all : ByteArray := prog_1_method_13_code
def yX10_all : MethodName := ⟨RX10, "all", "(I)I"⟩
abbrev cX10_least : ByteArray := prog_1_method_14_code
def yX10_least : MethodName := ⟨RX10, "least", "()I"⟩
abbrev cX10_most : ByteArray := prog_1_method_15_code
def yX10_most : MethodName := ⟨RX10, "most", "(I)I"⟩
abbrev cX10_lone : ByteArray := prog_1_method_16_code
def yX10_lone : MethodName := ⟨RX10, "lone", "()I"⟩
abbrev cX10_rings : ByteArray := prog_1_method_17_code
def yX10_rings : MethodName := ⟨RX10, "rings", "(I)I"⟩
abbrev cX10_smallest : ByteArray := prog_1_method_18_code
def yX10_smallest : MethodName := ⟨RX10, "smallest", "()I"⟩
abbrev cX10_swap : ByteArray := prog_1_method_19_code
def yX10_swap : MethodName := ⟨RX10, "swap", "(I)I"⟩
abbrev cX10_takeIn : ByteArray := prog_1_method_20_code
def yX10_takeIn : MethodName := ⟨RX10, "takeIn", "(I)I"⟩
abbrev cX10_note : ByteArray := prog_1_method_21_code
def yX10_note : MethodName := ⟨RX10, "note", "(IIIII)I"⟩
abbrev cX10_forget : ByteArray := prog_1_method_22_code
def yX10_forget : MethodName := ⟨RX10, "forget", "()I"⟩
abbrev cX10_wants : ByteArray := prog_1_method_23_code
def yX10_wants : MethodName := ⟨RX10, "wants", "(I)I"⟩
abbrev cX10_is : ByteArray := prog_1_method_24_code
def yX10_is : MethodName := ⟨RX10, "is", "(I)I"⟩
abbrev cX10_next : ByteArray := prog_1_method_25_code
def yX10_next : MethodName := ⟨RX10, "next", "(I)I"⟩
abbrev cX10_tips : ByteArray := prog_1_method_26_code
def yX10_tips : MethodName := ⟨RX10, "tips", "(II)I"⟩
abbrev cX10_moods : ByteArray := prog_1_method_27_code
def yX10_moods : MethodName := ⟨RX10, "moods", "(I)I"⟩
abbrev cX10_hours : ByteArray := prog_1_method_28_code
def yX10_hours : MethodName := ⟨RX10, "hours", "(II)I"⟩
abbrev cX10_part : ByteArray := prog_1_method_29_code
def yX10_part : MethodName := ⟨RX10, "part", "(I)J"⟩
abbrev cX10_image : ByteArray := prog_1_method_30_code
def yX10_image : MethodName := ⟨RX10, "image", "(I)I"⟩
abbrev cX10_from : ByteArray := prog_1_method_31_code
def yX10_from : MethodName := ⟨RX10, "from", "(I)I"⟩
abbrev cX10_status : ByteArray := prog_1_method_32_code
def yX10_status : MethodName := ⟨RX10, "status", "(I)I"⟩
abbrev cX10_count : ByteArray := prog_1_method_33_code
def yX10_count : MethodName := ⟨RX10, "count", "(I)I"⟩
abbrev cX10_digest : ByteArray := prog_1_method_34_code
def yX10_digest : MethodName := ⟨RX10, "digest", "()J"⟩
abbrev cX10_isBelow : ByteArray := prog_1_method_35_code
def yX10_isBelow : MethodName := ⟨RX10, "isBelow", "(II)Z"⟩
abbrev cX10_refuseBad : ByteArray := prog_1_method_36_code
def yX10_refuseBad : MethodName := ⟨RX10, "refuseBad", "(I)I"⟩
abbrev cX10_refuseNo : ByteArray := prog_1_method_37_code
def yX10_refuseNo : MethodName := ⟨RX10, "refuseNo", "()I"⟩
abbrev cX10_refuseFull : ByteArray := prog_1_method_38_code
def yX10_refuseFull : MethodName := ⟨RX10, "refuseFull", "()I"⟩
abbrev cX10_closes : ByteArray := prog_1_method_39_code
def yX10_closes : MethodName := ⟨RX10, "closes", "(LGuestStaff$House;I)Z"⟩
abbrev cX10_countOf : ByteArray := prog_1_method_40_code
def yX10_countOf : MethodName := ⟨RX10, "countOf", "(I)I"⟩
abbrev cX10_oddsOfNone : ByteArray := prog_1_method_41_code
def yX10_oddsOfNone : MethodName := ⟨RX10, "oddsOfNone", "(II)I"⟩
abbrev cX10_keepFraction : ByteArray := prog_1_method_42_code
def yX10_keepFraction : MethodName := ⟨RX10, "keepFraction", "(II)V"⟩
def RX11 : String := "GuestStaffModel"
def TX11 : u_T := fun k => match k with
  | 0 => ("GuestStaffModel", "st", "[I", true)
  | 1 => ("GuestStaffModel", "above", "J", false)
  | 2 => ("GuestStaffModel", "below", "J", false)
  | 3 => ("GuestStaffModel", "refused", "[I", true)
  | 4 => ("GuestStaffModel", "text", "[I", true)
  | 5 => ("GuestStaffModel", "bytes", "I", false)
  | 6 => ("GuestStaffModel", "place", "I", false)
  | 7 => ("GuestStaffModel", "token", "I", false)
  | 8 => ("GuestStaffModel", "value", "I", false)
  | 9 => ("GuestStaffModel", "begins", "I", false)
  | 10 => ("GuestStaffModel", "row", "[I", true)
  | 11 => ("GuestStaffModel", "services", "I", false)
  | 12 => ("GuestStaffModel", "toldGuests", "I", false)
  | 13 => ("GuestStaffModel", "ahead", "[I", true)
  | 14 => ("GuestStaffModel", "undoMany", "I", false)
  | 15 => ("GuestStaffModel", "who", "[I", true)
  | 16 => ("GuestStaffModel", "many", "I", false)
  | 17 => ("GuestStaffModel", "duties", "[I", true)
  | 18 => ("GuestStaffModel", "firstRow", "[I", true)
  | 19 => ("GuestStaffModel", "rowMany", "I", false)
  | 20 => ("GuestStaffModel", "leastWork", "I", false)
  | 21 => ("GuestStaffModel", "mostContent", "I", false)
  | 22 => ("GuestStaffModel", "bestRow", "[I", true)
  | 23 => ("GuestStaffModel", "aside", "[I", true)
  | 24 => ("GuestStaffModel", "isKept", "[Z", true)
  | 25 => ("GuestStaffModel", "kept", "[I", true)
  | 26 => ("GuestStaffModel", "keptAhead", "[I", true)
  | _ => ("GuestStaffModel", "keptMany", "[I", true)
def tyX11 : Nat → FieldType := fun k => match k with
  | 0 => .array .int
  | 1 => .long
  | 2 => .long
  | 3 => .array .int
  | 4 => .array .int
  | 5 => .int
  | 6 => .int
  | 7 => .int
  | 8 => .int
  | 9 => .int
  | 10 => .array .int
  | 11 => .int
  | 12 => .int
  | 13 => .array .int
  | 14 => .int
  | 15 => .array .int
  | 16 => .int
  | 17 => .array .int
  | 18 => .array .int
  | 19 => .int
  | 20 => .int
  | 21 => .int
  | 22 => .array .int
  | 23 => .array .int
  | 24 => .array .boolean
  | 25 => .array .int
  | 26 => .array .int
  | _ => .array .int
abbrev wsX110 : List Cond := u_ws RX11 TX11 28
theorem nmX11 : ∀ a, a < 28 → ∀ b, b < 28 → a ≠ b → (TX11 a).2.1 ≠ (TX11 b).2.1 := by decide +kernel
theorem tyX11_ok : ∀ k, k < 28 → parseFieldDescriptor (TX11 k).2.2.1 = some (tyX11 k) := by decide +kernel
abbrev cX11_init : ByteArray := prog_13_method_1_code
def yX11_init : MethodName := ⟨RX11, "<init>", "()V"⟩
abbrev cX11_in : ByteArray := prog_13_method_2_code
def yX11_in : MethodName := ⟨RX11, "in", "(JJJ)Z"⟩
abbrev cX11_has : ByteArray := prog_13_method_3_code
def yX11_has : MethodName := ⟨RX11, "has", "(II)Z"⟩
abbrev cX11_ones : ByteArray := prog_13_method_4_code
def yX11_ones : MethodName := ⟨RX11, "ones", "(I)I"⟩
abbrev cX11_bad : ByteArray := prog_13_method_5_code
def yX11_bad : MethodName := ⟨RX11, "bad", "()I"⟩
abbrev cX11_badFar : ByteArray := prog_13_method_6_code
def yX11_badFar : MethodName := ⟨RX11, "badFar", "()I"⟩
abbrev cX11_no : ByteArray := prog_13_method_7_code
def yX11_no : MethodName := ⟨RX11, "no", "()I"⟩
abbrev cX11_full : ByteArray := prog_13_method_8_code
def yX11_full : MethodName := ⟨RX11, "full", "()I"⟩
abbrev cX11_isGuest : ByteArray := prog_13_method_9_code
def yX11_isGuest : MethodName := ⟨RX11, "isGuest", "(I)Z"⟩
abbrev cX11_everybody : ByteArray := prog_13_method_10_code
def yX11_everybody : MethodName := ⟨RX11, "everybody", "()I"⟩
abbrev cX11_anew : ByteArray := prog_13_method_11_code
def yX11_anew : MethodName := ⟨RX11, "anew", "()V"⟩
abbrev cX11_house : ByteArray := prog_13_method_12_code
def yX11_house : MethodName := ⟨RX11, "house", "()I"⟩
abbrev cX11_add : ByteArray := prog_13_method_13_code
def yX11_add : MethodName := ⟨RX11, "add", "(III)V"⟩
abbrev cX11_guest : ByteArray := prog_13_method_14_code
def yX11_guest : MethodName := ⟨RX11, "guest", "(III)I"⟩
abbrev cX11_duty : ByteArray := prog_13_method_15_code
def yX11_duty : MethodName := ⟨RX11, "duty", "(II)I"⟩
abbrev cX11_type : ByteArray := prog_13_method_16_code
def yX11_type : MethodName := ⟨RX11, "type", "(I)I"⟩
abbrev cX11_clear : ByteArray := prog_13_method_17_code
def yX11_clear : MethodName := ⟨RX11, "clear", "()I"⟩
abbrev cX11_byteAt : ByteArray := prog_13_method_18_code
def yX11_byteAt : MethodName := ⟨RX11, "byteAt", "(I)I"⟩
abbrev cX11_nextToken : ByteArray := prog_13_method_19_code
def yX11_nextToken : MethodName := ⟨RX11, "nextToken", "()V"⟩
abbrev cX11_isWord : ByteArray := prog_13_method_20_code
def yX11_isWord : MethodName := ⟨RX11, "isWord", "(IIIII)Z"⟩
abbrev cX11_reads : ByteArray := prog_13_method_21_code
def yX11_reads : MethodName := ⟨RX11, "reads", "(II)Z"⟩
abbrev cX11_readServices : ByteArray := prog_13_method_22_code
def yX11_readServices : MethodName := ⟨RX11, "readServices", "()Z"⟩
abbrev cX11_readItem : ByteArray := prog_13_method_23_code
def yX11_readItem : MethodName := ⟨RX11, "readItem", "(IZ)Z"⟩
abbrev cX11_readText : ByteArray := prog_13_method_24_code
def yX11_readText : MethodName := ⟨RX11, "readText", "(Z)I"⟩
abbrev cX11_read : ByteArray := prog_13_method_25_code
def yX11_read : MethodName := ⟨RX11, "read", "()I"⟩
abbrev cX11_canServe : ByteArray := prog_13_method_26_code
def yX11_canServe : MethodName := ⟨RX11, "canServe", "(II)Z"⟩
abbrev cX11_contentBy : ByteArray := prog_13_method_27_code
def yX11_contentBy : MethodName := ⟨RX11, "contentBy", "(III)I"⟩
abbrev cX11_workBy : ByteArray := prog_13_method_28_code
def yX11_workBy : MethodName := ⟨RX11, "workBy", "(II)I"⟩
abbrev cX11_serverOf : ByteArray := prog_13_method_29_code
def yX11_serverOf : MethodName := ⟨RX11, "serverOf", "(I)I"⟩
abbrev cX11_contentOf : ByteArray := prog_13_method_30_code
def yX11_contentOf : MethodName := ⟨RX11, "contentOf", "(II)I"⟩
abbrev cX11_servedMany : ByteArray := prog_13_method_31_code
def yX11_servedMany : MethodName := ⟨RX11, "servedMany", "()I"⟩
abbrev cX11_noteStep : ByteArray := prog_13_method_32_code
def yX11_noteStep : MethodName := ⟨RX11, "noteStep", "()V"⟩
abbrev cX11_oneHour : ByteArray := prog_13_method_33_code
def yX11_oneHour : MethodName := ⟨RX11, "oneHour", "()V"⟩
abbrev cX11_hour : ByteArray := prog_13_method_34_code
def yX11_hour : MethodName := ⟨RX11, "hour", "(I)I"⟩
abbrev cX11_undo : ByteArray := prog_13_method_35_code
def yX11_undo : MethodName := ⟨RX11, "undo", "()I"⟩
abbrev cX11_of : ByteArray := prog_13_method_36_code
def yX11_of : MethodName := ⟨RX11, "of", "(II)I"⟩
abbrev cX11_can : ByteArray := prog_13_method_37_code
def yX11_can : MethodName := ⟨RX11, "can", "(II)I"⟩
abbrev cX11_work : ByteArray := prog_13_method_38_code
def yX11_work : MethodName := ⟨RX11, "work", "(II)I"⟩
abbrev cX11_factorial : ByteArray := prog_13_method_39_code
def yX11_factorial : MethodName := ⟨RX11, "factorial", "(I)I"⟩
abbrev cX11_takeSet : ByteArray := prog_13_method_40_code
def yX11_takeSet : MethodName := ⟨RX11, "takeSet", "(I)V"⟩
abbrev cX11_isRow : ByteArray := prog_13_method_41_code
def yX11_isRow : MethodName := ⟨RX11, "isRow", "(I)Z"⟩
abbrev cX11_rowWork : ByteArray := prog_13_method_42_code
def yX11_rowWork : MethodName := ⟨RX11, "rowWork", "()I"⟩
abbrev cX11_rowContent : ByteArray := prog_13_method_43_code
def yX11_rowContent : MethodName := ⟨RX11, "rowContent", "()I"⟩
abbrev cX11_findRows : ByteArray := prog_13_method_44_code
def yX11_findRows : MethodName := ⟨RX11, "findRows", "()V"⟩
abbrev cX11_isOne : ByteArray := prog_13_method_45_code
def yX11_isOne : MethodName := ⟨RX11, "isOne", "(I)Z"⟩
abbrev cX11_all : ByteArray := prog_13_method_46_code
def yX11_all : MethodName := ⟨RX11, "all", "(I)I"⟩
abbrev cX11_least : ByteArray := prog_13_method_47_code
def yX11_least : MethodName := ⟨RX11, "least", "()I"⟩
abbrev cX11_most : ByteArray := prog_13_method_48_code
def yX11_most : MethodName := ⟨RX11, "most", "(I)I"⟩
abbrev cX11_lone : ByteArray := prog_13_method_49_code
def yX11_lone : MethodName := ⟨RX11, "lone", "()I"⟩
abbrev cX11_ringOf : ByteArray := prog_13_method_50_code
def yX11_ringOf : MethodName := ⟨RX11, "ringOf", "(I)I"⟩
abbrev cX11_rings : ByteArray := prog_13_method_51_code
def yX11_rings : MethodName := ⟨RX11, "rings", "(I)I"⟩
abbrev cX11_closes : ByteArray := prog_13_method_52_code
def yX11_closes : MethodName := ⟨RX11, "closes", "(I)Z"⟩
abbrev cX11_smallest : ByteArray := prog_13_method_53_code
def yX11_smallest : MethodName := ⟨RX11, "smallest", "()I"⟩
abbrev cX11_gains : ByteArray := prog_13_method_54_code
def yX11_gains : MethodName := ⟨RX11, "gains", "(II)Z"⟩
abbrev cX11_swap : ByteArray := prog_13_method_55_code
def yX11_swap : MethodName := ⟨RX11, "swap", "(I)I"⟩
abbrev cX11_takeIn : ByteArray := prog_13_method_56_code
def yX11_takeIn : MethodName := ⟨RX11, "takeIn", "(I)I"⟩
abbrev cX11_note : ByteArray := prog_13_method_57_code
def yX11_note : MethodName := ⟨RX11, "note", "(IIIII)I"⟩
abbrev cX11_forget : ByteArray := prog_13_method_58_code
def yX11_forget : MethodName := ⟨RX11, "forget", "()I"⟩
abbrev cX11_wantsBy : ByteArray := prog_13_method_59_code
def yX11_wantsBy : MethodName := ⟨RX11, "wantsBy", "(II)I"⟩
abbrev cX11_wants : ByteArray := prog_13_method_60_code
def yX11_wants : MethodName := ⟨RX11, "wants", "(I)I"⟩
abbrev cX11_is : ByteArray := prog_13_method_61_code
def yX11_is : MethodName := ⟨RX11, "is", "(I)I"⟩
abbrev cX11_next : ByteArray := prog_13_method_62_code
def yX11_next : MethodName := ⟨RX11, "next", "(I)I"⟩
abbrev cX11_putAside : ByteArray := prog_13_method_63_code
def yX11_putAside : MethodName := ⟨RX11, "putAside", "()V"⟩
abbrev cX11_takeBack : ByteArray := prog_13_method_64_code
def yX11_takeBack : MethodName := ⟨RX11, "takeBack", "()V"⟩
abbrev cX11_tips : ByteArray := prog_13_method_65_code
def yX11_tips : MethodName := ⟨RX11, "tips", "(II)I"⟩
abbrev cX11_moods : ByteArray := prog_13_method_66_code
def yX11_moods : MethodName := ⟨RX11, "moods", "(I)I"⟩
abbrev cX11_hours : ByteArray := prog_13_method_67_code
def yX11_hours : MethodName := ⟨RX11, "hours", "(II)I"⟩
abbrev cX11_part : ByteArray := prog_13_method_68_code
def yX11_part : MethodName := ⟨RX11, "part", "(I)J"⟩
abbrev cX11_image : ByteArray := prog_13_method_69_code
def yX11_image : MethodName := ⟨RX11, "image", "(I)I"⟩
abbrev cX11_from : ByteArray := prog_13_method_70_code
def yX11_from : MethodName := ⟨RX11, "from", "(I)I"⟩
abbrev cX11_status : ByteArray := prog_13_method_71_code
def yX11_status : MethodName := ⟨RX11, "status", "(I)I"⟩
abbrev cX11_countOf : ByteArray := prog_13_method_72_code
def yX11_countOf : MethodName := ⟨RX11, "countOf", "(I)I"⟩
abbrev cX11_count : ByteArray := prog_13_method_73_code
def yX11_count : MethodName := ⟨RX11, "count", "(I)I"⟩
abbrev cX11_digest : ByteArray := prog_13_method_74_code
def yX11_digest : MethodName := ⟨RX11, "digest", "()J"⟩
def RJ6 : String := "java/lang/Integer"
def TJ6 : u_T := fun k => match k with
  | _ => ("", "", "", false)
def tyJ6 : Nat → FieldType := fun k => match k with
  | _ => .int
abbrev wsJ60 : List Cond := u_ws RJ6 TJ6 0
theorem nmJ6 : ∀ a, a < 0 → ∀ b, b < 0 → a ≠ b → (TJ6 a).2.1 ≠ (TJ6 b).2.1 := by decide +kernel
theorem tyJ6_ok : ∀ k, k < 0 → parseFieldDescriptor (TJ6 k).2.2.1 = some (tyJ6 k) := by decide +kernel
abbrev cJ6_bitCount_0f7a4 : ByteArray := prog_14_method_49_code
def yJ6_bitCount_0f7a4 : MethodName := ⟨RJ6, "bitCount", "(I)I"⟩
def RJ9 : String := "java/lang/Math"
def TJ9 : u_T := fun k => match k with
  | _ => ("", "", "", false)
def tyJ9 : Nat → FieldType := fun k => match k with
  | _ => .int
abbrev wsJ90 : List Cond := u_ws RJ9 TJ9 0
theorem nmJ9 : ∀ a, a < 0 → ∀ b, b < 0 → a ≠ b → (TJ9 a).2.1 ≠ (TJ9 b).2.1 := by decide +kernel
theorem tyJ9_ok : ∀ k, k < 0 → parseFieldDescriptor (TJ9 k).2.2.1 = some (tyJ9 k) := by decide +kernel
abbrev cJ9_max_7cf53 : ByteArray := prog_15_method_65_code
def yJ9_max_7cf53 : MethodName := ⟨RJ9, "max", "(II)I"⟩
abbrev cJ9_min_7cf53 : ByteArray := prog_15_method_69_code
def yJ9_min_7cf53 : MethodName := ⟨RJ9, "min", "(II)I"⟩
def RJ0 : String := "java/lang/String"
def TJ0 : u_T := fun k => match k with
  | _ => ("", "", "", false)
def tyJ0 : Nat → FieldType := fun k => match k with
  | _ => .int
abbrev wsJ00 : List Cond := u_ws RJ0 TJ0 0
theorem nmJ0 : ∀ a, a < 0 → ∀ b, b < 0 → a ≠ b → (TJ0 a).2.1 ≠ (TJ0 b).2.1 := by decide +kernel
theorem tyJ0_ok : ∀ k, k < 0 → parseFieldDescriptor (TJ0 k).2.2.1 = some (tyJ0 k) := by decide +kernel
abbrev cJ0_length_8abf5 : ByteArray := prog_16_method_54_code
def yJ0_length_8abf5 : MethodName := ⟨RJ0, "length", "()I"⟩
abbrev cJ0_charAt_5068e : ByteArray := prog_16_method_56_code
def yJ0_charAt_5068e : MethodName := ⟨RJ0, "charAt", "(I)C"⟩
abbrev cJ0_coder_7d493 : ByteArray := prog_16_method_152_code
def yJ0_coder_7d493 : MethodName := ⟨RJ0, "coder", "()B"⟩
abbrev cJ0_isLatin1_aae02 : ByteArray := prog_16_method_154_code
def yJ0_isLatin1_aae02 : MethodName := ⟨RJ0, "isLatin1", "()Z"⟩
abbrev cJ0_checkIndex_df160 : ByteArray := prog_16_method_155_code
def yJ0_checkIndex_df160 : MethodName := ⟨RJ0, "checkIndex", "(II)V"⟩
def RJ1 : String := "java/lang/StringLatin1"
def TJ1 : u_T := fun k => match k with
  | _ => ("", "", "", false)
def tyJ1 : Nat → FieldType := fun k => match k with
  | _ => .int
abbrev wsJ10 : List Cond := u_ws RJ1 TJ1 0
theorem nmJ1 : ∀ a, a < 0 → ∀ b, b < 0 → a ≠ b → (TJ1 a).2.1 ≠ (TJ1 b).2.1 := by decide +kernel
theorem tyJ1_ok : ∀ k, k < 0 → parseFieldDescriptor (TJ1 k).2.2.1 = some (tyJ1 k) := by decide +kernel
abbrev cJ1_charAt_3b067 : ByteArray := prog_17_method_2_code
def yJ1_charAt_3b067 : MethodName := ⟨RJ1, "charAt", "([BI)C"⟩
def RJ2 : String := "java/lang/StringUTF16"
def TJ2 : u_T := fun k => match k with
  | _ => ("", "", "", false)
def tyJ2 : Nat → FieldType := fun k => match k with
  | _ => .int
abbrev wsJ20 : List Cond := u_ws RJ2 TJ2 0
theorem nmJ2 : ∀ a, a < 0 → ∀ b, b < 0 → a ≠ b → (TJ2 a).2.1 ≠ (TJ2 b).2.1 := by decide +kernel
theorem tyJ2_ok : ∀ k, k < 0 → parseFieldDescriptor (TJ2 k).2.2.1 = some (tyJ2 k) := by decide +kernel
abbrev cJ2_getChar_3b067 : ByteArray := prog_18_method_5_code
def yJ2_getChar_3b067 : MethodName := ⟨RJ2, "getChar", "([BI)C"⟩
abbrev cJ2_length_9d52b : ByteArray := prog_18_method_6_code
def yJ2_length_9d52b : MethodName := ⟨RJ2, "length", "([B)I"⟩
abbrev cJ2_charAt_3b067 : ByteArray := prog_18_method_83_code
def yJ2_charAt_3b067 : MethodName := ⟨RJ2, "charAt", "([BI)C"⟩
abbrev cJ2_checkIndex_2214a : ByteArray := prog_18_method_91_code
def yJ2_checkIndex_2214a : MethodName := ⟨RJ2, "checkIndex", "(I[B)V"⟩
def RJ10 : String := "java/lang/System"
def TJ10 : u_T := fun k => match k with
  | _ => ("", "", "", false)
def tyJ10 : Nat → FieldType := fun k => match k with
  | _ => .int
abbrev wsJ100 : List Cond := u_ws RJ10 TJ10 0
theorem nmJ10 : ∀ a, a < 0 → ∀ b, b < 0 → a ≠ b → (TJ10 a).2.1 ≠ (TJ10 b).2.1 := by decide +kernel
theorem tyJ10_ok : ∀ k, k < 0 → parseFieldDescriptor (TJ10 k).2.2.1 = some (tyJ10 k) := by decide +kernel
def RJ3 : String := "jdk/internal/util/Preconditions"
def TJ3 : u_T := fun k => match k with
  | _ => ("", "", "", false)
def tyJ3 : Nat → FieldType := fun k => match k with
  | _ => .int
abbrev wsJ30 : List Cond := u_ws RJ3 TJ3 0
theorem nmJ3 : ∀ a, a < 0 → ∀ b, b < 0 → a ≠ b → (TJ3 a).2.1 ≠ (TJ3 b).2.1 := by decide +kernel
theorem tyJ3_ok : ∀ k, k < 0 → parseFieldDescriptor (TJ3 k).2.2.1 = some (tyJ3 k) := by decide +kernel
abbrev cJ3_checkIndex_8e157 : ByteArray := prog_20_method_11_code
def yJ3_checkIndex_8e157 : MethodName := ⟨RJ3, "checkIndex", "(IILjava/util/function/BiFunction;)I"⟩
def RL : String := "GuestStaffLaw"
abbrev cL_law : ByteArray := code
def yL_law : MethodName := ⟨RL, "law", "([I)Z"⟩
abbrev vwCl : List vw_C := [(RX0, TX0, 0), (RX1, TX1, 16), (RX2, TX2, 0), (RX3, TX3, 2), (RX4, TX4, 0), (RX5, TX5, 0), (RX6, TX6, 0), (RX7, TX7, 5), (RX8, TX8, 0), (RX9, TX9, 6), (RX10, TX10, 9), (RX11, TX11, 28)]
end
section
/-! the memory of the whole system: a cell is (c, o); c is the house's number for o < 34, and 0 else; what a cell holds is M.1 c o (ints: fields by slot, elements by index) and M.2 o (longs by slot) -/
abbrev gMem : Type := (Nat → Nat → Nat → Int32) × (Nat → Nat → Int64)
def gup (M : gMem) (c o : Nat) (g : Nat → Int32) : gMem := (fun c' o' => if c' = c ∧ o' = o then g else M.1 c' o', M.2)
def gwr (M : gMem) (c o j : Nat) (v : Int32) : gMem := gup M c o (upd (M.1 c o) j v)
def gwl (M : gMem) (o k : Nat) (v : Int64) : gMem := (M.1, fun o' k' => if o' = o ∧ k' = k then v else M.2 o' k')
abbrev gY : Type := va_G × (Nat → Nat → Nat) × (Nat → ClassId) × (Nat → Nat) × (Nat → Nat)
abbrev gad (Y : gY) (c o : Nat) : Nat := Y.2.1 c o
abbrev gca (Y : gY) (k : Nat) : ClassId := Y.2.2.1 k
/-- lengths of the int arrays by their places; 0: no int array -/
def gtab : List Nat := [0, 7, 7, 7, 7, 7, 0, 0, 5, 5, 5, 5, 5, 5, 0, 7, 7, 7, 7, 7, 7, 7, 7, 0, 7, 7, 7, 7, 7, 7, 7, 7, 8, 8, 0, 0, 0, 150, 0, 7, 7, 0, 7, 7, 7, 7, 7, 7, 7, 128, 3, 0, 0, 0, 0, 0, 0, 0, 0, 0, 70, 3, 150, 2, 128, 7, 7, 7, 7, 16, 0, 140, 256, 2]
def glen (o : Nat) : Nat := gtab.getD o 0
def grow (Y : gY) (c b n : Nat) : Nat → Option Nat := fun i => if i < n then some (gad Y c (b + i)) else none
def gimg (Y : gY) : Nat → Option Nat := fun i => if i < 2 then some (gad Y (2 + i) 0) else none
def gob (Y : gY) (f : Nat → Int32) (g : Nat → Int64) (c o : Nat) : va_E := match o with
  | 0 => .inr (1, [.ref (gad Y 0 51), .ref (gad Y c 1), .ref (gad Y c 2), .ref (gad Y c 3), .ref (gad Y c 4), .ref (gad Y c 5), .ref (gad Y c 6), .ref (gad Y c 14), .ref (gad Y c 23), .ref (gad Y c 32), .ref (gad Y c 33), .int (f 11), .int (f 12), .int (f 13), .int (f 14), .int (f 15)])
  | 6 => .inr (3, [.ref (gad Y c 7), .int (f 1)])
  | 7 => .inl (gca Y 4, 6, .inr (.inr (.inr (.inr (grow Y c 8 6)))))
  | 14 => .inl (gca Y 4, 8, .inr (.inr (.inr (.inr (grow Y c 15 8)))))
  | 23 => .inl (gca Y 4, 8, .inr (.inr (.inr (.inr (grow Y c 24 8)))))
  | 34 => .inr (10, [.ref (gad Y 0 0), .ref (gad Y 1 0), .ref (gad Y 0 58), .ref (gad Y 0 35), .ref (gad Y 0 36), .ref (gad Y 0 38), .ref (gad Y 0 50), .long (g 7), .long (g 8)])
  | 35 => .inl (gca Y 1, 2, .inl f)
  | 36 => .inr (9, [.ref (gad Y 0 37), .int (f 1), .int (f 2), .int (f 3), .int (f 4), .int (f 5)])
  | 38 => .inr (7, [.ref (gad Y 0 39), .ref (gad Y 0 40), .ref (gad Y 0 41), .ref (gad Y 0 49), .int (f 4)])
  | 41 => .inl (gca Y 4, 7, .inr (.inr (.inr (.inr (grow Y 0 42 7)))))
  | 51 => .inl (gca Y 2, 6, .inr (.inr (.inr (.inr (grow Y 0 52 6)))))
  | 52 => .inr (4, [])
  | 53 => .inr (6, [])
  | 54 => .inr (0, [])
  | 55 => .inr (8, [])
  | 56 => .inr (2, [])
  | 57 => .inr (5, [])
  | 58 => .inl (gca Y 3, 2, .inr (.inr (.inr (.inr (gimg Y)))))
  | 59 => .inr (11, [.ref (gad Y 0 60), .long (g 1), .long (g 2), .ref (gad Y 0 61), .ref (gad Y 0 62), .int (f 5), .int (f 6), .int (f 7), .int (f 8), .int (f 9), .ref (gad Y 0 63), .int (f 11), .int (f 12), .ref (gad Y 0 64), .int (f 14), .ref (gad Y 0 65), .int (f 16), .ref (gad Y 0 66), .ref (gad Y 0 67), .int (f 19), .int (f 20), .int (f 21), .ref (gad Y 0 68), .ref (gad Y 0 69), .ref (gad Y 0 70), .ref (gad Y 0 71), .ref (gad Y 0 72), .ref (gad Y 0 73)])
  | _ => .inl (gca Y 1, 2, .inl f)
def gce (Y : gY) (f : Nat → Int32) (g : Nat → Int64) (c o : Nat) : va_E := if glen o = 0 then gob Y f g c o else .inl (gca Y 0, glen o, .inl f)
def gcel (Y : gY) (M : gMem) (c o : Nat) : va_E := gce Y (M.1 c o) (M.2 o) c o
def gPL : List (Nat × Nat) := (List.range 24).map (fun k => (0, 34 + k)) ++ ((List.range 34).map (fun k => (0, k)) ++ ((List.range 34).map (fun k => (1, k)) ++ ([(0, 58)] ++ ((List.range 34).map (fun k => (2, k)) ++ ((List.range 34).map (fun k => (3, k)) ++ (List.range 15).map (fun k => (0, 59 + k)))))))
def gV (c o : Nat) : Prop := (o < 34 ∧ c < 4) ∨ (34 ≤ o ∧ o < 74 ∧ c = 0)
theorem gV_h {c o : Nat} (hc : c < 4) (ho : o < 34) : gV c o := Or.inl ⟨ho, hc⟩
theorem gV_t {o : Nat} (h1 : 34 ≤ o) (h2 : o < 74) : gV 0 o := Or.inr ⟨h1, h2, rfl⟩
theorem gV_in {c o : Nat} (h : gV c o) : (c, o) ∈ gPL := by
  unfold gPL
  simp only [List.mem_append, List.mem_map, List.mem_range, List.mem_singleton, Prod.mk.injEq]
  rcases h with ⟨h1, h2⟩ | ⟨h1, h2, rfl⟩
  · rcases (show c = 0 ∨ c = 1 ∨ c = 2 ∨ c = 3 by omega) with rfl | rfl | rfl | rfl
    · exact Or.inr (Or.inl ⟨o, h1, rfl, rfl⟩)
    · exact Or.inr (Or.inr (Or.inl ⟨o, h1, rfl, rfl⟩))
    · exact Or.inr (Or.inr (Or.inr (Or.inr (Or.inl ⟨o, h1, rfl, rfl⟩))))
    · exact Or.inr (Or.inr (Or.inr (Or.inr (Or.inr (Or.inl ⟨o, h1, rfl, rfl⟩)))))
  · rcases (show o < 58 ∨ o = 58 ∨ 59 ≤ o by omega) with q | q | q
    · exact Or.inl ⟨o - 34, by omega, rfl, by omega⟩
    · exact Or.inr (Or.inr (Or.inr (Or.inl ⟨rfl, q⟩)))
    · exact Or.inr (Or.inr (Or.inr (Or.inr (Or.inr (Or.inr ⟨o - 59, by omega, rfl, by omega⟩)))))
def gW (Y : gY) (M : gMem) : va_W := gPL.map (fun q => (gad Y q.1 q.2, gcel Y M q.1 q.2))
def gA (Y : gY) : Nat → Prop := fun q => ∃ p ∈ gPL, q = gad Y p.1 p.2
def gTys (Y : gY) : List (ClassId × FieldType) := [(gca Y 0, .int), (gca Y 1, .boolean), (gca Y 2, .object "GuestStaff$Plain"), (gca Y 3, .object "GuestStaff$House"), (gca Y 4, .array .int)]
def gTs : List Cond := lw_tbl.filter goodWord
def gNst (w : Cond) : Bool := match w with
  | .fieldLinkNest .. => true
  | .methodLinkNest .. => true
  | _ => false
def gNW : List Cond := tables_1.filter gNst
def gStr (Y : gY) (U : State) : Prop :=
  vk_S 3 [5, 5, 4] [[104, 111, 117, 115, 101], [103, 117, 101, 115, 116], [100, 117, 116, 121]] Y.2.2.2.1 Y.2.2.2.2 (gA Y) U U.heap ∧ (vk_R "GuestStaff$Text" 39 "house" (Y.2.2.2.1 0) U ∧ vk_R "GuestStaff$Text" 53 "guest" (Y.2.2.2.1 1) U ∧ vk_R "GuestStaff$Text" 61 "duty" (Y.2.2.2.1 2) U) ∧ va_Z "java/lang/String" "COMPACT_STRINGS" "Z" (.int 1) (gA Y) U U.heap ∧ va_Zq "jdk/internal/util/Preconditions" "SIOOBE_FORMATTER" "Ljava/util/function/BiFunction;" (gA Y) U U.heap
def gS0 (Y : gY) (M : gMem) (U : State) : Prop := va_P Y.1 vwCl (gW Y M) U.heap ∧ va_D (gA Y) (gW Y M) ∧ va_K Y.1 vwCl (gTys Y) U ∧ (∀ w ∈ gNW, va_Nw w U) ∧ gStr Y U
def gSt (s : State) (Y : gY) (M : gMem) (H : Heap) (locs : List Loc) : Prop := va_P Y.1 vwCl (gW Y M) H ∧ va_D (gA Y) (gW Y M) ∧ va_S (gA Y) s.heap H locs
abbrev gX : Type := Program × Launch × Env × Room × State × MethodId × Array Value × List Frame × Method × Code × (State → Prop) × Nat × Nat
abbrev gxs (X : gX) : State := X.2.2.2.2.1
abbrev gxR (X : gX) : Room := X.2.2.2.1
abbrev gxm (X : gX) : MethodId := X.2.2.2.2.2.1
abbrev gxa (X : gX) : Array Value := X.2.2.2.2.2.2.1
abbrev gxb (X : gX) : List Frame := X.2.2.2.2.2.2.2.1
abbrev gxM (X : gX) : Method := X.2.2.2.2.2.2.2.2.1
abbrev gxc (X : gX) : Code := X.2.2.2.2.2.2.2.2.2.1
abbrev gxQ (X : gX) : State → Prop := X.2.2.2.2.2.2.2.2.2.2.1
abbrev gxk (X : gX) : Nat := X.2.2.2.2.2.2.2.2.2.2.2.1
abbrev gxn (X : gX) : Nat := X.2.2.2.2.2.2.2.2.2.2.2.2
def gWW (X : gX) (Y : gY) (nL pc : Nat) (lv : List (Nat × Value)) (st : List Value) (M : gMem) : Prop :=
  ∀ (H : Heap) (locs : List Loc) (ls : Array Slot), gSt (gxs X) Y M H locs → lv_has ls nL lv → W X.1 X.2.1 X.2.2.1 (gxR X) (gxs X) (gxm X) (gxa X) (gxb X) (gxM X) (gxc X) H locs (gxk X) (gxn X) (gxQ X) (F0 (gxm X) pc ls st)
def gC (X : gX) (Y : gY) (cc : ByteArray) (own : String) (nL fr lo : Nat) : Prop :=
  X.1.tables.exec = Jvm.exec ∧ (gxc X).code = cc ∧ (gxc X).maxLocals = nL ∧ (gxs X).vm.findClass own = some (gxm X).cls ∧ (∀ w ∈ gTs, w.before (gxa X) (gxs X) = true) ∧ va_K Y.1 vwCl (gTys Y) (gxs X) ∧ (∀ w ∈ gNW, va_Nw w (gxs X)) ∧ gStr Y (gxs X) ∧ (gxR X).frames = fr ∧ (gxR X).locals = lo ∧ (gxM X).locks = false ∧ gxk X ≤ (gxR X).cells ∧ gxn X ≤ (gxR X).slots
theorem gStr.kept {Y : gY} {s U : State} {H : Heap} {locs : List Loc} (h : gStr Y s) (hS : va_S (gA Y) s.heap H locs) (hU : U.heap = H) (hW : s.WarmedH U.vm) : gStr Y U := by
  obtain ⟨h1, ⟨h2, h3, h4⟩, h5, h6⟩ := h
  exact ⟨by rw [hU]; exact (h1.kept hS.2.1).moved hW.alike, ⟨h2.warm hW, h3.warm hW, h4.warm hW⟩, by rw [hU]; exact (h5.kept hS.2.1).moved hW.alike, by rw [hU]; exact (h6.kept hS.2.1).moved hW.alike⟩
theorem gNW.kept {s U : State} (h : ∀ w ∈ gNW, va_Nw w s) (hW : s.WarmedH U.vm) : ∀ w ∈ gNW, va_Nw w U := by
  intro w hw
  have h1 := h w hw
  have h2 := (List.mem_filter.mp hw).2
  cases w <;> first | (cases h2; done) | exact h1.warmF hW | exact h1.warmM hW
theorem gS0.blind {Y : gY} {M : gMem} (av : List Value) : FrameBlind (va_Pc av (gS0 Y M)) := by
  intro a U g mk q
  obtain ⟨q0, qP, qD, qK, qN, q1, ⟨q2, q3, q4⟩, q5, q6⟩ := q
  exact ⟨q0, qP, qD, va_K.moved (u := U) (U := U.calling g mk a) (Vm.Alike.refl U.vm) qK, fun w hw => va_Nw.same (u := U) (U := U.calling g mk a) (by
    have h2 := (List.mem_filter.mp hw).2
    cases w <;> first | (cases h2; done) | rfl) rfl (qN w hw), vk_S.moved (u := U) (U := U.calling g mk a) (Vm.Alike.refl U.vm) q1, ⟨vk_R.same (u := U) rfl q2, vk_R.same (u := U) rfl q3, vk_R.same (u := U) rfl q4⟩, va_Z.moved (u := U) (U := U.calling g mk a) (Vm.Alike.refl U.vm) q5, va_Zq.moved (u := U) (U := U.calling g mk a) (Vm.Alike.refl U.vm) q6⟩
section GC
variable {X : gX} {Y : gY} {cc : ByteArray} {own : String} {nL fr lo : Nat}
theorem gC.s0 {M : gMem} {H : Heap} {locs : List Loc} {U : State} (hC : gC X Y cc own nL fr lo) (hS : gSt (gxs X) Y M H locs) (hU : U.heap = H) (hW : (gxs X).WarmedH U.vm) : gS0 Y M U := by
  obtain ⟨-, -, -, -, -, hK, hN, hZ, -⟩ := hC
  exact ⟨by rw [hU]; exact hS.1, hS.2.1, va_K.moved hW.alike hK, gNW.kept hN hW, hZ.kept hS.2.2 hU hW⟩
end GC
end
section
/-! rows at the level of gWW: an instruction, a row -/
def gd {α : Type} (p : Prop) [Decidable p] (x : Option α) : Option α := if p then x else none
theorem gd_e {α : Type} {p : Prop} [Decidable p] {x : Option α} {r : α} (h : gd p x = some r) : p ∧ x = some r := by
  unfold gd at h
  by_cases hp : p
  · rw [if_pos hp] at h; exact ⟨hp, h⟩
  · rw [if_neg hp] at h; cases h
theorem gd_i {α : Type} {p : Prop} [Decidable p] {x : Option α} (h : p) : gd p x = x := if_pos h
theorem gb_e {α β : Type} {x : Option α} {f : α → Option β} {r : β} (h : x.bind f = some r) : ∃ a, x = some a ∧ f a = some r := by
  cases x with
  | none => cases h
  | some a => exact ⟨a, rfl, h⟩
theorem gi_p {α : Type} {p : Prop} [Decidable p] {a b : Option α} {r : α} (hp : p) (h : (if p then a else b) = some r) : a = some r := by rw [if_pos hp] at h; exact h
theorem gi_n {α : Type} {p : Prop} [Decidable p] {a b : Option α} {r : α} (hp : ¬ p) (h : (if p then a else b) = some r) : b = some r := by rw [if_neg hp] at h; exact h
/-- a loop: 'inl' goes on, 'inr' leaves -/
def itr {σ ρ : Type} : Nat → (σ → Option (σ ⊕ ρ)) → σ → Option ρ
  | 0, _, _ => none
  | F + 1, step, s => (step s).bind fun o => match o with
    | .inl s' => itr F step s'
    | .inr r => some r
theorem itr_w {σ ρ : Type} {step : σ → Option (σ ⊕ ρ)} {e : ρ} (P : σ → Prop) (h : ∀ s o, step s = some o → (∀ s', o = .inl s' → P s') → (∀ r, o = .inr r → r = e) → P s) : ∀ (F : Nat) (s : σ), itr F step s = some e → P s
  | 0, s, hx => by cases hx
  | F + 1, s, hx => by
    obtain ⟨o, h1, h2⟩ := gb_e hx
    refine h s o h1 (fun s' ho => ?_) (fun r ho => ?_)
    · subst ho
      exact itr_w P h F s' h2
    · subst ho
      exact Option.some.inj h2
def FU : Nat := 1000000
theorem FU_ge : 1000000 ≤ FU := Nat.le_refl _
section GR
variable {X : gX} {Y : gY} {cc : ByteArray} {own : String} {nL fr lo pc : Nat} {lv : List (Nat × Value)} {st : List Value} {M : gMem}
theorem q_sub {lv' : List (Nat × Value)} (ks : List Nat) (hl : lv_pick lv ks = lv') (k : gWW X Y nL pc lv' st M) : gWW X Y nL pc lv st M := fun H locs ls hS h => k H locs ls hS (lv_sub h ks hl)
theorem q_eq {st' : List Value} (h : st = st') (k : gWW X Y nL pc lv st' M) : gWW X Y nL pc lv st M := h ▸ k
theorem q_iconst (hC : gC X Y cc own nL fr lo) {n : Int} (v : Int32) (hd : decode cc pc = .ok (.iconst n, 1)) (hv : Int32.ofInt n = v) (k : gWW X Y nL (pc + 1) lv (.int v :: st) M) : gWW X Y nL pc lv st M := fun H locs ls hS h => lv_iconst hC.1 hC.2.1 hd hv (k H locs ls hS h)
theorem q_bipush (hC : gC X Y cc own nL fr lo) {n : Int} (v : Int32) (hd : decode cc pc = .ok (.bipush n, 2)) (hv : (Int8.ofInt n).toInt32 = v) (k : gWW X Y nL (pc + 2) lv (.int v :: st) M) : gWW X Y nL pc lv st M := fun H locs ls hS h => lv_bipush hC.1 hC.2.1 hd hv (k H locs ls hS h)
theorem q_sipush (hC : gC X Y cc own nL fr lo) {n : Int} (v : Int32) (hd : decode cc pc = .ok (.sipush n, 3)) (hv : (Int16.ofInt n).toInt32 = v) (k : gWW X Y nL (pc + 3) lv (.int v :: st) M) : gWW X Y nL pc lv st M := fun H locs ls hS h => lv_sipush hC.1 hC.2.1 hd hv (k H locs ls hS h)
theorem q_ldc (hC : gC X Y cc own nL fr lo) {idx : Nat} (v : Int32) (hd : decode cc pc = .ok (.ldc idx, 2)) (hw : Cond.constant own idx v ∈ gTs) (k : gWW X Y nL (pc + 2) lv (.int v :: st) M) : gWW X Y nL pc lv st M := fun H locs ls hS h => lv_ldc hC.1 hC.2.1 hC.2.2.2.1 (hC.2.2.2.2.1 _ hw) hd (k H locs ls hS h)
theorem q_ldcw (hC : gC X Y cc own nL fr lo) {idx : Nat} (v : Int32) (hd : decode cc pc = .ok (.ldc_w idx, 3)) (hw : Cond.constant own idx v ∈ gTs) (k : gWW X Y nL (pc + 3) lv (.int v :: st) M) : gWW X Y nL pc lv st M := fun H locs ls hS h => lv_ldcw hC.1 hC.2.1 hC.2.2.2.1 (hC.2.2.2.2.1 _ hw) hd (k H locs ls hS h)
theorem q_ldc2 (hC : gC X Y cc own nL fr lo) {idx : Nat} (v : Int64) (hd : decode cc pc = .ok (.ldc2_w idx, 3)) (hw : Cond.constantLong own idx v ∈ gTs) (k : gWW X Y nL (pc + 3) lv (.long v :: st) M) : gWW X Y nL pc lv st M := fun H locs ls hS h => lv_ldc2 hC.1 hC.2.1 hC.2.2.2.1 (hC.2.2.2.2.1 _ hw) hd (k H locs ls hS h)
theorem q_lconst (hC : gC X Y cc own nL fr lo) {n : Fin 2} (v : Int64) (hd : decode cc pc = .ok (.lconst n, 1)) (hv : Int64.ofNat (n : Nat) = v) (k : gWW X Y nL (pc + 1) lv (.long v :: st) M) : gWW X Y nL pc lv st M := fun H locs ls hS h => lv_lconst hC.1 hC.2.1 hd hv (k H locs ls hS h)
theorem q_iload_n (hC : gC X Y cc own nL fr lo) {k : Fin 4} {i : Nat} (q : Nat) {x : Int32} (hd : decode cc pc = .ok (.iload_n k, 1)) (hi : (k : Nat) = i) (hq : lv[q]? = some (i, .int x)) (k : gWW X Y nL (pc + 1) lv (.int x :: st) M) : gWW X Y nL pc lv st M := fun H locs ls hS h => lv_iload_n hC.1 hC.2.1 hd hi (lv_at h q hq) (k H locs ls hS h)
theorem q_iload (hC : gC X Y cc own nL fr lo) {i : Nat} (q : Nat) {x : Int32} (hd : decode cc pc = .ok (.iload i, 2)) (hq : lv[q]? = some (i, .int x)) (k : gWW X Y nL (pc + 2) lv (.int x :: st) M) : gWW X Y nL pc lv st M := fun H locs ls hS h => lv_iload hC.1 hC.2.1 hd (lv_at h q hq) (k H locs ls hS h)
theorem q_lload_n (hC : gC X Y cc own nL fr lo) {k : Fin 4} {i : Nat} (q : Nat) {x : Int64} (hd : decode cc pc = .ok (.lload_n k, 1)) (hi : (k : Nat) = i) (hq : lv[q]? = some (i, .long x)) (k : gWW X Y nL (pc + 1) lv (.long x :: st) M) : gWW X Y nL pc lv st M := fun H locs ls hS h => lv_lload_n hC.1 hC.2.1 hd hi (lv_at h q hq) (k H locs ls hS h)
theorem q_lload (hC : gC X Y cc own nL fr lo) {i : Nat} (q : Nat) {x : Int64} (hd : decode cc pc = .ok (.lload i, 2)) (hq : lv[q]? = some (i, .long x)) (k : gWW X Y nL (pc + 2) lv (.long x :: st) M) : gWW X Y nL pc lv st M := fun H locs ls hS h => lv_lload hC.1 hC.2.1 hd (lv_at h q hq) (k H locs ls hS h)
theorem q_aload_n (hC : gC X Y cc own nL fr lo) {k : Fin 4} {i : Nat} (q : Nat) {x : Nat} (hd : decode cc pc = .ok (.aload_n k, 1)) (hi : (k : Nat) = i) (hq : lv[q]? = some (i, .ref x)) (k : gWW X Y nL (pc + 1) lv (.ref x :: st) M) : gWW X Y nL pc lv st M := fun H locs ls hS h => lv_aload_n hC.1 hC.2.1 hd hi (lv_at h q hq) (k H locs ls hS h)
theorem q_aload (hC : gC X Y cc own nL fr lo) {i : Nat} (q : Nat) {x : Nat} (hd : decode cc pc = .ok (.aload i, 2)) (hq : lv[q]? = some (i, .ref x)) (k : gWW X Y nL (pc + 2) lv (.ref x :: st) M) : gWW X Y nL pc lv st M := fun H locs ls hS h => lv_aload hC.1 hC.2.1 hd (lv_at h q hq) (k H locs ls hS h)
theorem q_istore_n (hC : gC X Y cc own nL fr lo) {k : Fin 4} {i : Nat} {x : Int32} (lv' : List (Nat × Value)) (hd : decode cc pc = .ok (.istore_n k, 1)) (hi : (k : Nat) = i) (hn : i < nL) (hl : (i, Value.int x) :: lv.filter (fun q => !(q.1 == i) && !(q.1 + 1 == i && q.2.category == 2)) = lv') (k : gWW X Y nL (pc + 1) lv' st M) : gWW X Y nL pc lv (.int x :: st) M := fun H locs ls hS h => lv_istore_n hC.1 hC.2.1 hd hi h hn hl (fun ls h => k H locs ls hS h)
theorem q_istore (hC : gC X Y cc own nL fr lo) {i : Nat} {x : Int32} (lv' : List (Nat × Value)) (hd : decode cc pc = .ok (.istore i, 2)) (hn : i < nL) (hl : (i, Value.int x) :: lv.filter (fun q => !(q.1 == i) && !(q.1 + 1 == i && q.2.category == 2)) = lv') (k : gWW X Y nL (pc + 2) lv' st M) : gWW X Y nL pc lv (.int x :: st) M := fun H locs ls hS h => lv_istore hC.1 hC.2.1 hd h hn hl (fun ls h => k H locs ls hS h)
theorem q_lstore_n (hC : gC X Y cc own nL fr lo) {k : Fin 4} {i : Nat} {x : Int64} (lv' : List (Nat × Value)) (hd : decode cc pc = .ok (.lstore_n k, 1)) (hi : (k : Nat) = i) (hn : i + 1 < nL) (hl : (i, Value.long x) :: lv.filter (fun q => !(q.1 == i) && (!(q.1 == i + 1) && !(q.1 + 1 == i && q.2.category == 2))) = lv') (k : gWW X Y nL (pc + 1) lv' st M) : gWW X Y nL pc lv (.long x :: st) M := fun H locs ls hS h => lv_lstore_n hC.1 hC.2.1 hd hi h hn hl (fun ls h => k H locs ls hS h)
theorem q_lstore (hC : gC X Y cc own nL fr lo) {i : Nat} {x : Int64} (lv' : List (Nat × Value)) (hd : decode cc pc = .ok (.lstore i, 2)) (hn : i + 1 < nL) (hl : (i, Value.long x) :: lv.filter (fun q => !(q.1 == i) && (!(q.1 == i + 1) && !(q.1 + 1 == i && q.2.category == 2))) = lv') (k : gWW X Y nL (pc + 2) lv' st M) : gWW X Y nL pc lv (.long x :: st) M := fun H locs ls hS h => lv_lstore hC.1 hC.2.1 hd h hn hl (fun ls h => k H locs ls hS h)
theorem q_astore_n (hC : gC X Y cc own nL fr lo) {k : Fin 4} {i : Nat} {x : Nat} (lv' : List (Nat × Value)) (hd : decode cc pc = .ok (.astore_n k, 1)) (hi : (k : Nat) = i) (hn : i < nL) (hl : (i, Value.ref x) :: lv.filter (fun q => !(q.1 == i) && !(q.1 + 1 == i && q.2.category == 2)) = lv') (k : gWW X Y nL (pc + 1) lv' st M) : gWW X Y nL pc lv (.ref x :: st) M := fun H locs ls hS h => lv_astore_n hC.1 hC.2.1 hd hi h hn hl (fun ls h => k H locs ls hS h)
theorem q_astore (hC : gC X Y cc own nL fr lo) {i : Nat} {x : Nat} (lv' : List (Nat × Value)) (hd : decode cc pc = .ok (.astore i, 2)) (hn : i < nL) (hl : (i, Value.ref x) :: lv.filter (fun q => !(q.1 == i) && !(q.1 + 1 == i && q.2.category == 2)) = lv') (k : gWW X Y nL (pc + 2) lv' st M) : gWW X Y nL pc lv (.ref x :: st) M := fun H locs ls hS h => lv_astore hC.1 hC.2.1 hd h hn hl (fun ls h => k H locs ls hS h)
theorem q_iinc (hC : gC X Y cc own nL fr lo) {i : Nat} {n : Int} {x : Int32} (q : Nat) (d : Int32) (lv' : List (Nat × Value)) (hd : decode cc pc = .ok (.iinc i n, 3)) (hq : lv[q]? = some (i, .int x)) (hv : Int32.ofInt n = d) (hn : i < nL) (hl : (i, Value.int (x + d)) :: lv.filter (fun q => !(q.1 == i) && !(q.1 + 1 == i && q.2.category == 2)) = lv') (k : gWW X Y nL (pc + 3) lv' st M) : gWW X Y nL pc lv st M := fun H locs ls hS h => lv_iinc hC.1 hC.2.1 hd h hq (by rw [hv]) hn hl (fun ls h => k H locs ls hS h)
theorem q_iadd (hC : gC X Y cc own nL fr lo) {x y : Int32} (hd : decode cc pc = .ok (.iadd, 1)) (k : gWW X Y nL (pc + 1) lv (.int (x + y) :: st) M) : gWW X Y nL pc lv (.int y :: .int x :: st) M := fun H locs ls hS h => lv_iadd hC.1 hC.2.1 hd (k H locs ls hS h)
theorem q_isub (hC : gC X Y cc own nL fr lo) {x y : Int32} (hd : decode cc pc = .ok (.isub, 1)) (k : gWW X Y nL (pc + 1) lv (.int (x - y) :: st) M) : gWW X Y nL pc lv (.int y :: .int x :: st) M := fun H locs ls hS h => lv_isub hC.1 hC.2.1 hd (k H locs ls hS h)
theorem q_imul (hC : gC X Y cc own nL fr lo) {x y : Int32} (hd : decode cc pc = .ok (.imul, 1)) (k : gWW X Y nL (pc + 1) lv (.int (x * y) :: st) M) : gWW X Y nL pc lv (.int y :: .int x :: st) M := fun H locs ls hS h => lv_imul hC.1 hC.2.1 hd (k H locs ls hS h)
theorem q_iand (hC : gC X Y cc own nL fr lo) {x y : Int32} (hd : decode cc pc = .ok (.iand, 1)) (k : gWW X Y nL (pc + 1) lv (.int (x &&& y) :: st) M) : gWW X Y nL pc lv (.int y :: .int x :: st) M := fun H locs ls hS h => lv_iand hC.1 hC.2.1 hd (k H locs ls hS h)
theorem q_ior (hC : gC X Y cc own nL fr lo) {x y : Int32} (hd : decode cc pc = .ok (.ior, 1)) (k : gWW X Y nL (pc + 1) lv (.int (x ||| y) :: st) M) : gWW X Y nL pc lv (.int y :: .int x :: st) M := fun H locs ls hS h => lv_ior hC.1 hC.2.1 hd (k H locs ls hS h)
theorem q_ixor (hC : gC X Y cc own nL fr lo) {x y : Int32} (hd : decode cc pc = .ok (.ixor, 1)) (k : gWW X Y nL (pc + 1) lv (.int (x ^^^ y) :: st) M) : gWW X Y nL pc lv (.int y :: .int x :: st) M := fun H locs ls hS h => lv_ixor hC.1 hC.2.1 hd (k H locs ls hS h)
theorem q_idiv (hC : gC X Y cc own nL fr lo) {x y : Int32} (hd : decode cc pc = .ok (.idiv, 1)) (hne : ¬ y = 0) (k : gWW X Y nL (pc + 1) lv (.int (x / y) :: st) M) : gWW X Y nL pc lv (.int y :: .int x :: st) M := fun H locs ls hS h => lv_idiv hC.1 hC.2.1 hd hne (k H locs ls hS h)
theorem q_irem (hC : gC X Y cc own nL fr lo) {x y : Int32} (hd : decode cc pc = .ok (.irem, 1)) (hne : ¬ y = 0) (k : gWW X Y nL (pc + 1) lv (.int (x - x / y * y) :: st) M) : gWW X Y nL pc lv (.int y :: .int x :: st) M := fun H locs ls hS h => lv_irem hC.1 hC.2.1 hd hne (k H locs ls hS h)
theorem q_ishl (hC : gC X Y cc own nL fr lo) {x y : Int32} (hd : decode cc pc = .ok (.ishl, 1)) (k : gWW X Y nL (pc + 1) lv (.int (x <<< (y &&& 31)) :: st) M) : gWW X Y nL pc lv (.int y :: .int x :: st) M := fun H locs ls hS h => lv_ishl hC.1 hC.2.1 hd (k H locs ls hS h)
theorem q_ishr (hC : gC X Y cc own nL fr lo) {x y : Int32} (hd : decode cc pc = .ok (.ishr, 1)) (k : gWW X Y nL (pc + 1) lv (.int (x >>> (y &&& 31)) :: st) M) : gWW X Y nL pc lv (.int y :: .int x :: st) M := fun H locs ls hS h => lv_ishr hC.1 hC.2.1 hd (k H locs ls hS h)
theorem q_ladd (hC : gC X Y cc own nL fr lo) {x y : Int64} (hd : decode cc pc = .ok (.ladd, 1)) (k : gWW X Y nL (pc + 1) lv (.long (x + y) :: st) M) : gWW X Y nL pc lv (.long y :: .long x :: st) M := fun H locs ls hS h => lv_ladd hC.1 hC.2.1 hd (k H locs ls hS h)
theorem q_lmul (hC : gC X Y cc own nL fr lo) {x y : Int64} (hd : decode cc pc = .ok (.lmul, 1)) (k : gWW X Y nL (pc + 1) lv (.long (x * y) :: st) M) : gWW X Y nL pc lv (.long y :: .long x :: st) M := fun H locs ls hS h => lv_lmul hC.1 hC.2.1 hd (k H locs ls hS h)
theorem q_ldiv (hC : gC X Y cc own nL fr lo) {x y : Int64} (hd : decode cc pc = .ok (.ldiv, 1)) (hne : ¬ y = 0) (k : gWW X Y nL (pc + 1) lv (.long (x / y) :: st) M) : gWW X Y nL pc lv (.long y :: .long x :: st) M := fun H locs ls hS h => lv_ldiv hC.1 hC.2.1 hd hne (k H locs ls hS h)
theorem q_lrem (hC : gC X Y cc own nL fr lo) {x y : Int64} (hd : decode cc pc = .ok (.lrem, 1)) (hne : ¬ y = 0) (k : gWW X Y nL (pc + 1) lv (.long (x - x / y * y) :: st) M) : gWW X Y nL pc lv (.long y :: .long x :: st) M := fun H locs ls hS h => lv_lrem hC.1 hC.2.1 hd hne (k H locs ls hS h)
theorem q_iushr (hC : gC X Y cc own nL fr lo) {x y : Int32} (hd : decode cc pc = .ok (.iushr, 1)) (k : gWW X Y nL (pc + 1) lv (.int ((x.toUInt32 >>> (y.toUInt32 &&& Int32.toUInt32 31)).toInt32) :: st) M) : gWW X Y nL pc lv (.int y :: .int x :: st) M := fun H locs ls hS h => lv_iushr hC.1 hC.2.1 hd rfl (k H locs ls hS h)
theorem q_ineg (hC : gC X Y cc own nL fr lo) {x : Int32} (hd : decode cc pc = .ok (.ineg, 1)) (k : gWW X Y nL (pc + 1) lv (.int (-x) :: st) M) : gWW X Y nL pc lv (.int x :: st) M := fun H locs ls hS h => lv_ineg hC.1 hC.2.1 hd (k H locs ls hS h)
theorem q_i2l (hC : gC X Y cc own nL fr lo) {x : Int32} (hd : decode cc pc = .ok (.i2l, 1)) (k : gWW X Y nL (pc + 1) lv (.long x.toInt64 :: st) M) : gWW X Y nL pc lv (.int x :: st) M := fun H locs ls hS h => lv_i2l hC.1 hC.2.1 hd rfl (k H locs ls hS h)
theorem q_l2i (hC : gC X Y cc own nL fr lo) {x : Int64} (hd : decode cc pc = .ok (.l2i, 1)) (k : gWW X Y nL (pc + 1) lv (.int x.toInt32 :: st) M) : gWW X Y nL pc lv (.long x :: st) M := fun H locs ls hS h => lv_l2i hC.1 hC.2.1 hd rfl (k H locs ls hS h)
theorem q_i2c (hC : gC X Y cc own nL fr lo) {x : Int32} (hd : decode cc pc = .ok (.i2c, 1)) (k : gWW X Y nL (pc + 1) lv (.int (x.toUInt32 % 65536).toInt32 :: st) M) : gWW X Y nL pc lv (.int x :: st) M := fun H locs ls hS h => lv_i2c hC.1 hC.2.1 hd rfl (k H locs ls hS h)
theorem q_lcmp (hC : gC X Y cc own nL fr lo) {x y : Int64} (hd : decode cc pc = .ok (.lcmp, 1)) (k : gWW X Y nL (pc + 1) lv (.int (lg_cmp x y) :: st) M) : gWW X Y nL pc lv (.long y :: .long x :: st) M := fun H locs ls hS h => W.lcmp hC.1 hC.2.1 hd (k H locs ls hS h)
theorem q_dup (hC : gC X Y cc own nL fr lo) {v : Value} (hd : decode cc pc = .ok (.dup, 1)) (hv : v.category = 1) (k : gWW X Y nL (pc + 1) lv (v :: v :: st) M) : gWW X Y nL pc lv (v :: st) M := fun H locs ls hS h => lv_dup hC.1 hC.2.1 hd hv (k H locs ls hS h)
theorem q_dup2 (hC : gC X Y cc own nL fr lo) {v w : Value} (hd : decode cc pc = .ok (.dup2, 1)) (hv : v.category = 1) (hw : w.category = 1) (k : gWW X Y nL (pc + 1) lv (v :: w :: v :: w :: st) M) : gWW X Y nL pc lv (v :: w :: st) M := fun H locs ls hS h => lv_dup2_11 hC.1 hC.2.1 hd hv hw (k H locs ls hS h)
theorem q_pop (hC : gC X Y cc own nL fr lo) {v : Value} (hd : decode cc pc = .ok (.pop, 1)) (hv : v.category = 1) (k : gWW X Y nL (pc + 1) lv st M) : gWW X Y nL pc lv (v :: st) M := fun H locs ls hS h => lv_pop hC.1 hC.2.1 hd hv (k H locs ls hS h)
theorem q_goto (hC : gC X Y cc own nL fr lo) {off : Int} (tgt : Nat) (hd : decode cc pc = .ok (.goto off, 3)) (ht : (pc : Int) + off = (tgt : Int)) (k : gWW X Y nL tgt lv st M) : gWW X Y nL pc lv st M := fun H locs ls hS h => lv_goto hC.1 hC.2.1 hd ht (k H locs ls hS h)
theorem q_if_eq (hC : gC X Y cc own nL fr lo) {x : Int32} {off : Int} (tgt : Nat) (hd : decode cc pc = .ok (.ifCond .eq off, 3)) (ht : (pc : Int) + off = (tgt : Int)) (kt : x = 0 → gWW X Y nL tgt lv st M) (kf : ¬ x = 0 → gWW X Y nL (pc + 3) lv st M) : gWW X Y nL pc lv (.int x :: st) M := fun H locs ls hS h => lv_if_eq hC.1 hC.2.1 hd ht (fun q => kt q H locs ls hS h) (fun q => kf q H locs ls hS h)
theorem q_if_ne (hC : gC X Y cc own nL fr lo) {x : Int32} {off : Int} (tgt : Nat) (hd : decode cc pc = .ok (.ifCond .ne off, 3)) (ht : (pc : Int) + off = (tgt : Int)) (kt : ¬ x = 0 → gWW X Y nL tgt lv st M) (kf : x = 0 → gWW X Y nL (pc + 3) lv st M) : gWW X Y nL pc lv (.int x :: st) M := fun H locs ls hS h => lv_if_ne hC.1 hC.2.1 hd ht (fun q => kt q H locs ls hS h) (fun q => kf q H locs ls hS h)
theorem q_if_lt (hC : gC X Y cc own nL fr lo) {x : Int32} {off : Int} (tgt : Nat) (hd : decode cc pc = .ok (.ifCond .lt off, 3)) (ht : (pc : Int) + off = (tgt : Int)) (kt : x < 0 → gWW X Y nL tgt lv st M) (kf : ¬ x < 0 → gWW X Y nL (pc + 3) lv st M) : gWW X Y nL pc lv (.int x :: st) M := fun H locs ls hS h => lv_if_lt hC.1 hC.2.1 hd ht (fun q => kt q H locs ls hS h) (fun q => kf q H locs ls hS h)
theorem q_if_ge (hC : gC X Y cc own nL fr lo) {x : Int32} {off : Int} (tgt : Nat) (hd : decode cc pc = .ok (.ifCond .ge off, 3)) (ht : (pc : Int) + off = (tgt : Int)) (kt : 0 ≤ x → gWW X Y nL tgt lv st M) (kf : ¬ 0 ≤ x → gWW X Y nL (pc + 3) lv st M) : gWW X Y nL pc lv (.int x :: st) M := fun H locs ls hS h => lv_if_ge hC.1 hC.2.1 hd ht (fun q => kt q H locs ls hS h) (fun q => kf q H locs ls hS h)
theorem q_if_gt (hC : gC X Y cc own nL fr lo) {x : Int32} {off : Int} (tgt : Nat) (hd : decode cc pc = .ok (.ifCond .gt off, 3)) (ht : (pc : Int) + off = (tgt : Int)) (kt : 0 < x → gWW X Y nL tgt lv st M) (kf : ¬ 0 < x → gWW X Y nL (pc + 3) lv st M) : gWW X Y nL pc lv (.int x :: st) M := fun H locs ls hS h => lv_if_gt hC.1 hC.2.1 hd ht (fun q => kt q H locs ls hS h) (fun q => kf q H locs ls hS h)
theorem q_if_le (hC : gC X Y cc own nL fr lo) {x : Int32} {off : Int} (tgt : Nat) (hd : decode cc pc = .ok (.ifCond .le off, 3)) (ht : (pc : Int) + off = (tgt : Int)) (kt : x ≤ 0 → gWW X Y nL tgt lv st M) (kf : ¬ x ≤ 0 → gWW X Y nL (pc + 3) lv st M) : gWW X Y nL pc lv (.int x :: st) M := fun H locs ls hS h => lv_if_le hC.1 hC.2.1 hd ht (fun q => kt q H locs ls hS h) (fun q => kf q H locs ls hS h)
theorem q_ic_eq (hC : gC X Y cc own nL fr lo) {x y : Int32} {off : Int} (tgt : Nat) (hd : decode cc pc = .ok (.if_icmp .eq off, 3)) (ht : (pc : Int) + off = (tgt : Int)) (kt : x = y → gWW X Y nL tgt lv st M) (kf : ¬ x = y → gWW X Y nL (pc + 3) lv st M) : gWW X Y nL pc lv (.int y :: .int x :: st) M := fun H locs ls hS h => lv_icmp_eq hC.1 hC.2.1 hd ht (fun q => kt q H locs ls hS h) (fun q => kf q H locs ls hS h)
theorem q_ic_ne (hC : gC X Y cc own nL fr lo) {x y : Int32} {off : Int} (tgt : Nat) (hd : decode cc pc = .ok (.if_icmp .ne off, 3)) (ht : (pc : Int) + off = (tgt : Int)) (kt : ¬ x = y → gWW X Y nL tgt lv st M) (kf : x = y → gWW X Y nL (pc + 3) lv st M) : gWW X Y nL pc lv (.int y :: .int x :: st) M := fun H locs ls hS h => lv_icmp_ne hC.1 hC.2.1 hd ht (fun q => kt q H locs ls hS h) (fun q => kf q H locs ls hS h)
theorem q_ic_lt (hC : gC X Y cc own nL fr lo) {x y : Int32} {off : Int} (tgt : Nat) (hd : decode cc pc = .ok (.if_icmp .lt off, 3)) (ht : (pc : Int) + off = (tgt : Int)) (kt : x < y → gWW X Y nL tgt lv st M) (kf : ¬ x < y → gWW X Y nL (pc + 3) lv st M) : gWW X Y nL pc lv (.int y :: .int x :: st) M := fun H locs ls hS h => lv_icmp_lt hC.1 hC.2.1 hd ht (fun q => kt q H locs ls hS h) (fun q => kf q H locs ls hS h)
theorem q_ic_ge (hC : gC X Y cc own nL fr lo) {x y : Int32} {off : Int} (tgt : Nat) (hd : decode cc pc = .ok (.if_icmp .ge off, 3)) (ht : (pc : Int) + off = (tgt : Int)) (kt : y ≤ x → gWW X Y nL tgt lv st M) (kf : ¬ y ≤ x → gWW X Y nL (pc + 3) lv st M) : gWW X Y nL pc lv (.int y :: .int x :: st) M := fun H locs ls hS h => lv_icmp_ge hC.1 hC.2.1 hd ht (fun q => kt q H locs ls hS h) (fun q => kf q H locs ls hS h)
theorem q_ic_gt (hC : gC X Y cc own nL fr lo) {x y : Int32} {off : Int} (tgt : Nat) (hd : decode cc pc = .ok (.if_icmp .gt off, 3)) (ht : (pc : Int) + off = (tgt : Int)) (kt : y < x → gWW X Y nL tgt lv st M) (kf : ¬ y < x → gWW X Y nL (pc + 3) lv st M) : gWW X Y nL pc lv (.int y :: .int x :: st) M := fun H locs ls hS h => lv_icmp_gt hC.1 hC.2.1 hd ht (fun q => kt q H locs ls hS h) (fun q => kf q H locs ls hS h)
theorem q_ic_le (hC : gC X Y cc own nL fr lo) {x y : Int32} {off : Int} (tgt : Nat) (hd : decode cc pc = .ok (.if_icmp .le off, 3)) (ht : (pc : Int) + off = (tgt : Int)) (kt : x ≤ y → gWW X Y nL tgt lv st M) (kf : ¬ x ≤ y → gWW X Y nL (pc + 3) lv st M) : gWW X Y nL pc lv (.int y :: .int x :: st) M := fun H locs ls hS h => lv_icmp_le hC.1 hC.2.1 hd ht (fun q => kt q H locs ls hS h) (fun q => kf q H locs ls hS h)
end GR
end
section
/-! memory rows, methods, calls -/
theorem gPL_V {c o : Nat} (h : (c, o) ∈ gPL) : gV c o := by
  unfold gPL at h
  simp only [List.mem_append, List.mem_map, List.mem_range, List.mem_singleton, Prod.mk.injEq] at h
  rcases h with ⟨k, h1, h2, h3⟩ | ⟨k, h1, h2, h3⟩ | ⟨k, h1, h2, h3⟩ | ⟨h2, h3⟩ | ⟨k, h1, h2, h3⟩ | ⟨k, h1, h2, h3⟩ | ⟨k, h1, h2, h3⟩
  · exact Or.inr ⟨by omega, by omega, h2.symm⟩
  · exact Or.inl ⟨by omega, by omega⟩
  · exact Or.inl ⟨by omega, by omega⟩
  · exact Or.inr ⟨by omega, by omega, h2⟩
  · exact Or.inl ⟨by omega, by omega⟩
  · exact Or.inl ⟨by omega, by omega⟩
  · exact Or.inr ⟨by omega, by omega, h2.symm⟩
theorem gW_at {Y : gY} {M : gMem} {c o : Nat} (hV : gV c o) : ∃ k : Nat, (gW Y M)[k]? = some (gad Y c o, gcel Y M c o) ∧ gPL[k]? = some (c, o) := by
  obtain ⟨k, hk⟩ := List.getElem?_of_mem (gV_in hV)
  exact ⟨k, by unfold gW; rw [List.getElem?_map, hk]; rfl, hk⟩
theorem gW_set {Y : gY} {M M' : gMem} {A : Nat → Prop} {c o k : Nat} {e : va_E} (hD : va_D A (gW Y M)) (hk : gPL[k]? = some (c, o)) (he : gcel Y M' c o = e) (hne : ∀ c' o', gV c' o' → ¬ (c' = c ∧ o' = o) → gcel Y M' c' o' = gcel Y M c' o') : (gW Y M).set k (gad Y c o, e) = gW Y M' := by
  have hW : (gW Y M)[k]? = some (gad Y c o, gcel Y M c o) := by unfold gW; rw [List.getElem?_map, hk]; rfl
  have hl := (List.getElem?_eq_some_iff.mp hW).1
  apply List.ext_getElem?
  intro j
  by_cases hj : j = k
  · subst hj
    rw [List.getElem?_set_self hl]
    unfold gW
    rw [List.getElem?_map, hk]
    show _ = some (gad Y c o, gcel Y M' c o)
    rw [he]
  · rw [List.getElem?_set_ne (Ne.symm hj)]
    unfold gW
    rw [List.getElem?_map, List.getElem?_map]
    cases hb : gPL[j]? with
    | none => rfl
    | some b =>
      obtain ⟨c', o'⟩ := b
      have h2 : ¬ (c' = c ∧ o' = o) := by
        rintro ⟨rfl, rfl⟩
        have h3 : (gW Y M)[j]? = some (gad Y c' o', gcel Y M c' o') := by unfold gW; rw [List.getElem?_map, hb]; rfl
        exact hj (hD.1 j k _ _ h3 hW rfl)
      show some (gad Y c' o', gcel Y M c' o') = some (gad Y c' o', gcel Y M' c' o')
      rw [hne c' o' (gPL_V (List.mem_of_getElem? hb)) h2]
theorem gup_ne {Y : gY} {M : gMem} {c o : Nat} {g : Nat → Int32} : ∀ c' o', gV c' o' → ¬ (c' = c ∧ o' = o) → gcel Y (gup M c o g) c' o' = gcel Y M c' o' := by
  intro c' o' _ h
  unfold gcel gup
  dsimp only
  rw [if_neg h]
theorem gup_at (M : gMem) (c o : Nat) (g : Nat → Int32) : (gup M c o g).1 c o = g := by
  unfold gup
  dsimp only
  rw [if_pos ⟨rfl, rfl⟩]
theorem gwl_ne {Y : gY} {M : gMem} {o k : Nat} {x : Int64} (ho : 34 ≤ o) : ∀ c' o', gV c' o' → ¬ (c' = 0 ∧ o' = o) → gcel Y (gwl M o k x) c' o' = gcel Y M c' o' := by
  intro c' o' hV h
  have h2 : o' ≠ o := by
    rcases hV with ⟨h1, h2⟩ | ⟨h1, h2, h3⟩
    · omega
    · exact fun q => h ⟨h3, q⟩
  unfold gcel gwl
  dsimp only
  congr 1
  funext k'
  rw [if_neg (fun q => h2 q.1)]
theorem gce_a {Y : gY} {M : gMem} {c o : Nat} (n : Nat) (hn : glen o = n + 1) : gcel Y M c o = .inl (gca Y 0, n + 1, .inl (M.1 c o)) := by
  unfold gcel gce
  rw [hn, if_neg (by omega)]
section GM
variable {X : gX} {Y : gY} {cc : ByteArray} {own : String} {nL fr lo pc : Nat} {lv : List (Nat × Value)} {st : List Value} {M : gMem}
theorem q_get (hC : gC X Y cc own nL fr lo) {c o ci k idx N : Nat} {C : String} {T : u_T} {fs : List Value} {v : Value} (hV : gV c o) (he : gcel Y M c o = .inr (ci, fs)) (hc : vwCl[ci]? = some (C, T, N)) (hin : ∀ w ∈ u_ws C T N, w ∈ gTs) (hk : k < N) (hl : Cond.fieldLink own idx (T k).1 (T k).2.1 (T k).2.2.1 ∈ gTs) (hv : fs[k]? = some v) (hd : decode cc pc = .ok (.getfield idx, 3)) (kk : gWW X Y nL (pc + 3) lv (v :: st) M) : gWW X Y nL pc lv (.ref (gad Y c o) :: st) M := by
  intro H locs ls hS h
  obtain ⟨q, hq, -⟩ := gW_at (Y := Y) (M := M) hV
  rw [he] at hq
  exact va_get (D := Y.1) (ref := (T k).1) hC.1 hC.2.1 hC.2.2.2.2.1 hin hC.2.2.2.1 hC.2.2.2.2.2.1 hS.1 q hq hc k hk (hC.2.2.2.2.1 _ hl) (fun _ h9 => h9) hv hd (kk H locs ls hS h)
theorem q_getN (hC : gC X Y cc own nL fr lo) {c o ci k idx N : Nat} {C host : String} {T : u_T} {fs : List Value} {v : Value} (hV : gV c o) (he : gcel Y M c o = .inr (ci, fs)) (hc : vwCl[ci]? = some (C, T, N)) (hin : ∀ w ∈ u_ws C T N, w ∈ gTs) (hk : k < N) (hl : Cond.fieldLinkNest own idx (T k).1 (T k).2.1 (T k).2.2.1 host ∈ gNW) (hv : fs[k]? = some v) (hd : decode cc pc = .ok (.getfield idx, 3)) (kk : gWW X Y nL (pc + 3) lv (v :: st) M) : gWW X Y nL pc lv (.ref (gad Y c o) :: st) M := by
  intro H locs ls hS h
  obtain ⟨q, hq, -⟩ := gW_at (Y := Y) (M := M) hV
  rw [he] at hq
  exact va_getN (D := Y.1) (ref := (T k).1) (host := host) hC.1 hC.2.1 hC.2.2.2.2.1 hin hC.2.2.2.1 hC.2.2.2.2.2.1 hS.1 q hq hc k hk ((hC.2.2.2.2.2.2.1 _ hl).use rfl) (fun _ h9 => h9) hv hd (kk H locs ls hS h)
theorem q_put (hC : gC X Y cc own nL fr lo) {c o ci k idx N : Nat} {C : String} {T : u_T} {fs : List Value} {v : Value} {ty : FieldType} {ty0 : Nat → FieldType} (M' : gMem) (hV : gV c o) (he : gcel Y M c o = .inr (ci, fs)) (hc : vwCl[ci]? = some (C, T, N)) (hin : ∀ w ∈ u_ws C T N, w ∈ gTs) (hty : ∀ k, k < N → parseFieldDescriptor (T k).2.2.1 = some (ty0 k)) (hnm : ∀ a, a < N → ∀ b, b < N → a ≠ b → (T a).2.1 ≠ (T b).2.1) (hk : k < N) (hl : Cond.fieldLink own idx (T k).1 (T k).2.1 (T k).2.2.1 ∈ gTs) (hfin : (T k).2.2.2 = false) (hdd : parseFieldDescriptor (T k).2.2.1 = some ty) (hn : narrow ty v = v) (hf : fits ty v = true) (hlen : k < fs.length) (he' : gcel Y M' c o = .inr (ci, fs.set k v)) (hne : ∀ c' o', gV c' o' → ¬ (c' = c ∧ o' = o) → gcel Y M' c' o' = gcel Y M c' o') (hd : decode cc pc = .ok (.putfield idx, 3)) (kk : gWW X Y nL (pc + 3) lv st M') : gWW X Y nL pc lv (v :: .ref (gad Y c o) :: st) M := by
  intro H locs ls hS h
  obtain ⟨q, hq, hq2⟩ := gW_at (Y := Y) (M := M) hV
  rw [he] at hq
  refine va_put (D := Y.1) (ref := (T k).1) (A := gA Y) hC.1 hC.2.1 hC.2.2.2.2.1 hin ty0 hty hnm hC.2.2.2.1 hC.2.2.2.2.2.1 hS.1 hS.2.1 hS.2.2 q hq hc k hk (hC.2.2.2.2.1 _ hl) (fun _ h9 => h9) hfin hdd hn hf hlen hd (fun H1 locs1 g1 g2 g3 => ?_)
  rw [gW_set hS.2.1 hq2 he' hne] at g1 g2
  exact kk H1 locs1 ls ⟨g1, g2, g3⟩ h
theorem q_putN (hC : gC X Y cc own nL fr lo) {c o ci k idx N : Nat} {C host : String} {T : u_T} {fs : List Value} {v : Value} {ty : FieldType} {ty0 : Nat → FieldType} (M' : gMem) (hV : gV c o) (he : gcel Y M c o = .inr (ci, fs)) (hc : vwCl[ci]? = some (C, T, N)) (hin : ∀ w ∈ u_ws C T N, w ∈ gTs) (hty : ∀ k, k < N → parseFieldDescriptor (T k).2.2.1 = some (ty0 k)) (hnm : ∀ a, a < N → ∀ b, b < N → a ≠ b → (T a).2.1 ≠ (T b).2.1) (hk : k < N) (hl : Cond.fieldLinkNest own idx (T k).1 (T k).2.1 (T k).2.2.1 host ∈ gNW) (hfin : (T k).2.2.2 = false) (hdd : parseFieldDescriptor (T k).2.2.1 = some ty) (hn : narrow ty v = v) (hf : fits ty v = true) (hlen : k < fs.length) (he' : gcel Y M' c o = .inr (ci, fs.set k v)) (hne : ∀ c' o', gV c' o' → ¬ (c' = c ∧ o' = o) → gcel Y M' c' o' = gcel Y M c' o') (hd : decode cc pc = .ok (.putfield idx, 3)) (kk : gWW X Y nL (pc + 3) lv st M') : gWW X Y nL pc lv (v :: .ref (gad Y c o) :: st) M := by
  intro H locs ls hS h
  obtain ⟨q, hq, hq2⟩ := gW_at (Y := Y) (M := M) hV
  rw [he] at hq
  refine va_putN (D := Y.1) (ref := (T k).1) (host := host) (A := gA Y) hC.1 hC.2.1 hC.2.2.2.2.1 hin ty0 hty hnm hC.2.2.2.1 hC.2.2.2.2.2.1 hS.1 hS.2.1 hS.2.2 q hq hc k hk ((hC.2.2.2.2.2.2.1 _ hl).use rfl) (fun _ h9 => h9) hfin hdd hn hf hlen hd (fun H1 locs1 g1 g2 g3 => ?_)
  rw [gW_set hS.2.1 hq2 he' hne] at g1 g2
  exact kk H1 locs1 ls ⟨g1, g2, g3⟩ h
theorem q_iald (hC : gC X Y cc own nL fr lo) {c o : Nat} {i : Int32} (n : Nat) (hV : gV c o) (hn : glen o = n + 1) (hi : vp_in i (n + 1)) (hd : decode cc pc = .ok (.iaload, 1)) (kk : gWW X Y nL (pc + 1) lv (.int (M.1 c o i.toNatClampNeg) :: st) M) : gWW X Y nL pc lv (.int i :: .ref (gad Y c o) :: st) M := by
  intro H locs ls hS h
  obtain ⟨q, hq, -⟩ := gW_at (Y := Y) (M := M) hV
  rw [gce_a n hn] at hq
  exact va_iald (D := Y.1) hC.1 hC.2.1 hC.2.2.2.2.2.1 hS.1 q 0 hq rfl hi hd (kk H locs ls hS h)
theorem q_iast (hC : gC X Y cc own nL fr lo) {c o : Nat} {i x : Int32} (n : Nat) (hV : gV c o) (hn : glen o = n + 1) (hi : vp_in i (n + 1)) (hd : decode cc pc = .ok (.iastore, 1)) (kk : gWW X Y nL (pc + 1) lv st (gwr M c o i.toNatClampNeg x)) : gWW X Y nL pc lv (.int x :: .int i :: .ref (gad Y c o) :: st) M := by
  intro H locs ls hS h
  obtain ⟨q, hq, hq2⟩ := gW_at (Y := Y) (M := M) hV
  rw [gce_a n hn] at hq
  refine va_iast (D := Y.1) (A := gA Y) hC.1 hC.2.1 hC.2.2.2.2.2.1 hS.1 hS.2.1 hS.2.2 q 0 hq rfl hi hd (fun H1 locs1 g1 g2 g3 => ?_)
  rw [gW_set (M' := gwr M c o i.toNatClampNeg x) hS.2.1 hq2 (by rw [gce_a n hn]; unfold gwr; rw [gup_at]) gup_ne] at g1 g2
  exact kk H1 locs1 ls ⟨g1, g2, g3⟩ h
theorem q_zald (hC : gC X Y cc own nL fr lo) {c o : Nat} {i : Int32} (hV : gV c o) (he : gcel Y M c o = .inl (gca Y 1, 2, .inl (M.1 c o))) (hi : vp_in i 2) (hd : decode cc pc = .ok (.baload, 1)) (kk : gWW X Y nL (pc + 1) lv (.int (M.1 c o i.toNatClampNeg) :: st) M) : gWW X Y nL pc lv (.int i :: .ref (gad Y c o) :: st) M := by
  intro H locs ls hS h
  obtain ⟨q, hq, -⟩ := gW_at (Y := Y) (M := M) hV
  rw [he] at hq
  exact va_zald (D := Y.1) hC.1 hC.2.1 hC.2.2.2.2.2.1 hS.1 q 1 hq rfl hi hd (kk H locs ls hS h)
theorem q_zast (hC : gC X Y cc own nL fr lo) {c o : Nat} {i x : Int32} (hV : gV c o) (he : ∀ M : gMem, gcel Y M c o = .inl (gca Y 1, 2, .inl (M.1 c o))) (hi : vp_in i 2) (hx : vp_nar .boolean x = x) (hd : decode cc pc = .ok (.bastore, 1)) (kk : gWW X Y nL (pc + 1) lv st (gwr M c o i.toNatClampNeg x)) : gWW X Y nL pc lv (.int x :: .int i :: .ref (gad Y c o) :: st) M := by
  intro H locs ls hS h
  obtain ⟨q, hq, hq2⟩ := gW_at (Y := Y) (M := M) hV
  rw [he] at hq
  refine va_zast (D := Y.1) (A := gA Y) hC.1 hC.2.1 hC.2.2.2.2.2.1 hS.1 hS.2.1 hS.2.2 q 1 hq rfl hi hd (fun H1 locs1 g1 g2 g3 => ?_)
  rw [hx] at g1 g2
  rw [gW_set (M' := gwr M c o i.toNatClampNeg x) hS.2.1 hq2 (by rw [he]; unfold gwr; rw [gup_at]) gup_ne] at g1 g2
  exact kk H1 locs1 ls ⟨g1, g2, g3⟩ h
theorem q_aald (hC : gC X Y cc own nL fr lo) {c o n b t0 : Nat} {i : Int32} {cA : ClassId} {ty : FieldType} {f : Nat → Option Nat} (hV : gV c o) (he : gcel Y M c o = .inl (cA, n, .inr (.inr (.inr (.inr f))))) (ht : (gTys Y)[t0]? = some (cA, ty)) (hty : ty.isReference = true) (hi : vp_in i n) (hf : f i.toNatClampNeg = some b) (hd : decode cc pc = .ok (.aaload, 1)) (kk : gWW X Y nL (pc + 1) lv (.ref b :: st) M) : gWW X Y nL pc lv (.int i :: .ref (gad Y c o) :: st) M := by
  intro H locs ls hS h
  obtain ⟨q, hq, -⟩ := gW_at (Y := Y) (M := M) hV
  rw [he] at hq
  have hlt : i.toNatClampNeg < n := Nat.not_le.mp fun q => hi (Or.inr q)
  refine W.aald (v := .ref b) (ty := ty) hC.1 hC.2.1 (hS.1 q _ hq) ((hC.2.2.2.2.2.1.2 t0 _ ht).1 n (fun j => va_rf (f j))) hty (fun q => by cases q) (by show ¬ (i < 0 ∨ (arrV _ _ _).slots.size ≤ _); rw [arrV_size]; exact hi) (by show (arrV _ _ _).slots[_]? = _; rw [arrV_read _ _ hlt, hf]; rfl) rfl rfl hd (kk H locs ls hS h)
theorem q_alen (hC : gC X Y cc own nL fr lo) {c o : Nat} (n : Nat) (v : Int32) (hV : gV c o) (hn : glen o = n + 1) (hv : Int32.ofNat (n + 1) = v) (hd : decode cc pc = .ok (.arraylength, 1)) (kk : gWW X Y nL (pc + 1) lv (.int v :: st) M) : gWW X Y nL pc lv (.ref (gad Y c o) :: st) M := by
  intro H locs ls hS h
  obtain ⟨q, hq, -⟩ := gW_at (Y := Y) (M := M) hV
  rw [gce_a n hn] at hq
  exact va_alen (D := Y.1) hC.1 hC.2.1 hC.2.2.2.2.2.1 hS.1 q 0 hq rfl hv hd (kk H locs ls hS h)
/-- System.arraycopy over int rows -/
theorem q_copy (hC : gC X Y cc own nL fr lo) {c0 o0 c1 o1 idx : Nat} {sp dp n : Int32} (n0 n1 : Nat) (hV0 : gV c0 o0) (hV1 : gV c1 o1) (hn0 : glen o0 = n0 + 1) (hn1 : glen o1 = n1 + 1) (hl : Cond.methodLink own idx arraycopyName ∈ gTs) (hg : (¬ sp < 0 ∧ ¬ dp < 0 ∧ ¬ n < 0) ∧ sp.toNatClampNeg + n.toNatClampNeg ≤ n0 + 1 ∧ dp.toNatClampNeg + n.toNatClampNeg ≤ n1 + 1) (hw : Cond.native arraycopyName ∈ gTs ∧ Cond.static arraycopyName ∈ gTs ∧ Cond.initialized "java/lang/System" ∈ gTs) (hfr : 1 ≤ fr) (hlo : (st.map fun v => v.category).sum + (nativeFrameWords "java/lang/System" "arraycopy" 5 + 11) ≤ lo) (hd : decode cc pc = .ok (.invokestatic idx, 3)) (kk : gWW X Y nL (pc + 3) lv st (gup M c1 o1 (va_cpy (M.1 c0 o0) (M.1 c1 o1) sp.toNatClampNeg dp.toNatClampNeg n.toNatClampNeg))) : gWW X Y nL pc lv (.int n :: .int dp :: .ref (gad Y c1 o1) :: .int sp :: .ref (gad Y c0 o0) :: st) M := by
  intro H locs ls hS h
  obtain ⟨q0, hq0, -⟩ := gW_at (Y := Y) (M := M) hV0
  obtain ⟨q1, hq1, hq2⟩ := gW_at (Y := Y) (M := M) hV1
  rw [gce_a n0 hn0] at hq0
  rw [gce_a n1 hn1] at hq1
  have hts := hC.2.2.2.2.1
  have hR := hC.2.2.2.2.2.2.2.2
  refine va_copyi (D := Y.1) (A := gA Y) hC.1 hC.2.1 (hC.2.2.1.trans h.1.symm) hC.2.2.2.1 (hts _ hl) (hts _ hw.1) (hts _ hw.2.1) (hts _ hw.2.2) hC.2.2.2.2.2.1 hS.1 hS.2.1 hS.2.2 q0 q1 0 0 hq0 hq1 rfl rfl rfl hg.1.1 hg.1.2.1 hg.1.2.2 hg.2.1 hg.2.2 (fun _ _ => rfl) (by rw [hR.1]; exact hfr) (by rw [hR.2.1]; exact hlo) hd (fun H1 locs1 g1 g2 g3 => ?_)
  rw [gW_set (M' := gup M c1 o1 (va_cpy (M.1 c0 o0) (M.1 c1 o1) sp.toNatClampNeg dp.toNatClampNeg n.toNatClampNeg)) hS.2.1 hq2 (by rw [gce_a n1 hn1, gup_at]) gup_ne] at g1 g2
  exact kk H1 locs1 ls ⟨g1, g2, g3⟩ h
end GM
end
section
/-! methods and calls -/
def gws (y : MethodName) (cc : ByteArray) (maxL : Nat) (ret : Option FieldType) : List Cond := Cond.code y cc maxL ret :: gTs
def gQi (Y : gY) (r : Int32 × gMem) : Array Value → State → Outcome → State → Prop := va_Qi (fun (v : Int32) (_ : Unit) => v = r.1) (fun _ t => gS0 Y r.2 t) (gA Y)
def gQz (Y : gY) (r : Int32 × gMem) : Array Value → State → Outcome → State → Prop := va_Qi (fun (v : Int32) (_ : Unit) => v = r.1 ∧ (v = 0 ∨ v = 1)) (fun _ t => gS0 Y r.2 t) (gA Y)
def gQl (Y : gY) (r : Int64 × gMem) : Array Value → State → Outcome → State → Prop := va_Ql (fun (v : Int64) (_ : Unit) => v = r.1) (fun _ t => gS0 Y r.2 t) (gA Y)
def gQv (Y : gY) (r : gMem) : Array Value → State → Outcome → State → Prop := va_Qv (fun (_ : Unit) => True) (fun _ t => gS0 Y r t) (gA Y)
/-- the method's end: what it must answer -/
def gF (X : gX) (Y : gY) (ret : Option FieldType) (Qc : Array Value → State → Outcome → State → Prop) : Prop := (gxM X).sig.returnType = ret ∧ gxQ X = MQ (gxb X) Qc (gxa X) (gxs X) (gxk X) (gxn X) (gA Y)
theorem gmet {l : Launch} {y : MethodName} {cc : ByteArray} {nL : Nat} {ret : Option FieldType} {rm : Room} {Y : gY} {M : gMem} {av : List Value} {lv : List (Nat × Value)} {Qc : Array Value → State → Outcome → State → Prop} (own : String) (hy : plainName y.cls = true) (hown : y.cls = own) (hlen : (lg_sl av).length ≤ nL) (hlv : lv_args 0 av = lv)
    (body : ∀ X : gX, gC X Y cc own nL rm.frames rm.locals → gF X Y ret Qc → gWW X Y nL 0 lv [] M) : Met l y (gws y cc nL ret) rm (va_Pc av (gS0 Y M)) Qc 0 0 (gA Y) := by
  refine Met.ofW (cc := cc) (maxL := nL) (ret := ret) hy rfl ?_
  intro p e s m args below meth c s₁ B hml hv
  obtain ⟨rfl, hP, hD, hK, hN, hZ⟩ := hv
  have hts := atoms_spec (ws := gws y cc nL ret) B.pre
  have ho : s.vm.findClass y.cls = some m.cls := findClass_of_methodNamed B.named
  have hl := lv_entry av (n := nL) hlen
  rw [lg_entry_eq]
  rw [hlv] at hl
  exact body (p, l, e, rm, s, m, av.toArray, below, meth, c, MQ below Qc av.toArray s 0 0 (gA Y), 0, 0) ⟨B.exec, B.bytes, hml, by rw [← hown]; exact ho, fun w hw => hts w (List.mem_cons_of_mem _ hw), hK, hN, hZ, rfl, rfl, B.notSynchronized, Nat.zero_le _, Nat.zero_le _⟩ ⟨B.returns, rfl⟩ s.heap [] _ ⟨hP, hD, va_S.rf⟩ hl
def gMth (y : MethodName) (cc : ByteArray) (maxL : Nat) (ret : Option FieldType) (n : Nat) : Prop := Cond.code y cc maxL ret ∈ gTs ∧ Cond.initialized y.cls ∈ gTs ∧ y.cls ≠ "java/lang/invoke/MethodHandle" ∧ y.cls ≠ "java/lang/invoke/VarHandle" ∧ (parseMethodDescriptor y.desc).map (fun d => d.parameters.length) = some n
def gMi (y : MethodName) (cc : ByteArray) (maxL : Nat) (ret : Option FieldType) (n : Nat) : Prop := gMth y cc maxL ret n ∧ Cond.instanceMethod y ∈ gTs ∧ Cond.selects y.cls y y ∈ gTs
def gMs (y : MethodName) (cc : ByteArray) (maxL : Nat) (ret : Option FieldType) (n : Nat) : Prop := gMth y cc maxL ret n ∧ Cond.static y ∈ gTs
theorem gws_good {y : MethodName} {cc : ByteArray} {maxL : Nat} {ret : Option FieldType} (h : Cond.code y cc maxL ret ∈ gTs) : GoodIn gTs (gws y cc maxL ret) := by
  intro w hw
  have h1 : w ∈ gTs := by
    rcases List.mem_cons.mp hw with rfl | hw
    · exact h
    · exact hw
  exact ⟨h1, good_of_word (List.mem_filter.mp h1).2⟩
section GK
variable {X : gX} {Y : gY} {cc : ByteArray} {own : String} {nL fr lo pc : Nat} {lv : List (Nat × Value)} {st : List Value} {M : gMem}
def gRun (X : gX) (Y : gY) (nL pc : Nat) (lv : List (Nat × Value)) (st rest : List Value) (M : gMem) (Qa : State → Outcome → State → Prop) : Prop :=
  ∀ (H : Heap) (locs : List Loc) (ls : Array Slot), gSt (gxs X) Y M H locs → lv_has ls nL lv → va_Run X.1 X.2.1 X.2.2.1 (gxR X) (gxs X) (gxm X) (gxa X) (gxb X) (gxM X) (gxc X) H locs (gxk X) (gxn X) 0 0 (F0 (gxm X) pc ls st) rest Qa (gA Y)
theorem gCf (hC : gC X Y cc own nL fr lo) : CallFix X.1 (gxm X) (gxc X) cc nL (gxs X) (gxa X) gTs own := ⟨hC.1, hC.2.1, hC.2.2.1, hC.2.2.2.1, hC.2.2.2.2.1⟩
theorem gCb (hC : gC X Y cc own nL fr lo) {y : MethodName} {bytes : ByteArray} {maxL n idx : Nat} {ret : Option FieldType} {rm : Room} (hm : gMth y bytes maxL ret n) (hl : Cond.methodLink own idx y ∈ gTs) (hR : rm.cells = 0 ∧ rm.slots = 0 ∧ rm.frames + 1 ≤ fr ∧ 8 + (maxL + 11) + rm.locals ≤ lo) : CallB (gxR X) (gxs X) (gxa X) own idx y bytes maxL ret (gws y bytes maxL ret) rm 0 0 n := by
  have hts := hC.2.2.2.2.1
  have h9 := hC.2.2.2.2.2.2.2.2
  exact callB_of n hts (gws_good hm.1) rfl hR.1 hR.2.1 (hts _ hm.2.1) (hts _ hl) hm.2.2 ⟨by rw [h9.1]; exact hR.2.2.1, by rw [h9.2.1]; exact hR.2.2.2⟩
theorem q_rV (hC : gC X Y cc own nL fr lo) {y : MethodName} {bytes : ByteArray} {maxL n idx c o ci N : Nat} {ret : Option FieldType} {rm : Room} {As rest fs : List Value} {T : u_T} {Qc : Array Value → State → Outcome → State → Prop} (hm : gMi y bytes maxL ret n) (hl : Cond.methodLink own idx y ∈ gTs)
    (hM : Met X.2.1 y (gws y bytes maxL ret) rm (va_Pc (.ref (gad Y c o) :: As) (gS0 Y M)) Qc 0 0 (gA Y)) (hR : rm.cells = 0 ∧ rm.slots = 0 ∧ rm.frames + 1 ≤ fr ∧ 8 + (maxL + 11) + rm.locals ≤ lo) (hV : gV c o) (he : gcel Y M c o = .inr (ci, fs)) (hc : vwCl[ci]? = some (y.cls, T, N)) (hn : As.length = n) (hst : st = As.reverse ++ .ref (gad Y c o) :: rest) (hrest : (rest.map fun v => v.category).sum ≤ 8) (hd : decode cc pc = .ok (.invokevirtual idx, 3)) :
    gRun X Y nL pc lv st rest M (Qc (Value.ref (gad Y c o) :: As).toArray) := by
  intro H locs ls hS h
  subst hst
  obtain ⟨q, hq, -⟩ := gW_at (Y := Y) (M := M) hV
  rw [he] at hq
  have hts := hC.2.2.2.2.1
  exact va_runV (gCf hC) hM ⟨gCb hC hm.1 hl hR, hts _ hm.2.1, hts _ hm.2.2⟩ ⟨gS0.blind _, va_recv hC.2.2.2.2.2.1 hS.1 (ci := ci) (q0 := q) hc hq, fun U hU hW => ⟨rfl, hC.s0 hS hU hW⟩⟩ rfl hn h.1 rfl (lv_room hrest) hd hC.2.2.2.2.2.2.2.2.2.2.2
theorem q_rS (hC : gC X Y cc own nL fr lo) {y : MethodName} {bytes : ByteArray} {maxL n idx : Nat} {ret : Option FieldType} {rm : Room} {As rest : List Value} {Qc : Array Value → State → Outcome → State → Prop} (hm : gMs y bytes maxL ret n) (hl : Cond.methodLink own idx y ∈ gTs)
    (hM : Met X.2.1 y (gws y bytes maxL ret) rm (va_Pc As (gS0 Y M)) Qc 0 0 (gA Y)) (hR : rm.cells = 0 ∧ rm.slots = 0 ∧ rm.frames + 1 ≤ fr ∧ 8 + (maxL + 11) + rm.locals ≤ lo) (hn : As.length = n) (hst : st = As.reverse ++ rest) (hrest : (rest.map fun v => v.category).sum ≤ 8) (hd : decode cc pc = .ok (.invokestatic idx, 3)) :
    gRun X Y nL pc lv st rest M (Qc As.toArray) := by
  intro H locs ls hS h
  subst hst
  have hts := hC.2.2.2.2.1
  exact va_runS (gCf hC) hM ⟨gCb hC hm.1 hl hR, hts _ hm.2⟩ ⟨gS0.blind _, fun U hU hW => ⟨rfl, hC.s0 hS hU hW⟩⟩ rfl hn h.1 rfl (lv_room hrest) hd hC.2.2.2.2.2.2.2.2.2.2.2
/-- super.m(..) -/
theorem q_rU (hC : gC X Y cc own nL fr lo) {y : MethodName} {bytes : ByteArray} {maxL n idx c o ci N : Nat} {ret : Option FieldType} {rm : Room} {As rest fs : List Value} {T : u_T} {C : String} {Qc : Array Value → State → Outcome → State → Prop} (hm : gMth y bytes maxL ret n) (hi : Cond.instanceMethod y ∈ gTs) (hl : Cond.methodLink own idx y ∈ gTs) (hsm : Cond.sameMethod y.cls y.cls y.name y.desc ∈ gTs) (hsu : Cond.superclass own y.cls ∈ gTs) (hno : y.name ≠ "<init>")
    (hM : Met X.2.1 y (gws y bytes maxL ret) rm (va_Pc (.ref (gad Y c o) :: As) (gS0 Y M)) Qc 0 0 (gA Y)) (hR : rm.cells = 0 ∧ rm.slots = 0 ∧ rm.frames + 1 ≤ fr ∧ 8 + (maxL + 11) + rm.locals ≤ lo) (hV : gV c o) (he : gcel Y M c o = .inr (ci, fs)) (hc : vwCl[ci]? = some (C, T, N)) (hn : As.length = n) (hst : st = As.reverse ++ .ref (gad Y c o) :: rest) (hrest : (rest.map fun v => v.category).sum ≤ 8) (hd : decode cc pc = .ok (.invokespecial idx, 3)) :
    gRun X Y nL pc lv st rest M (Qc (Value.ref (gad Y c o) :: As).toArray) := by
  intro H locs ls hS h
  subst hst
  obtain ⟨q, hq, -⟩ := gW_at (Y := Y) (M := M) hV
  rw [he] at hq
  have hts := hC.2.2.2.2.1
  obtain ⟨b1, b2, b3, b4, b5, b6, b7, b8, b9, b10, b11⟩ := gCb hC hm hl hR
  exact va_runSU (hC.2.2.2.2.2.1.1 ci _ hc).2 (gCf hC) hM ⟨⟨b1, b2, b3, b4, b5, b6⟩, b11, hts _ hsm, hts _ hsu, hts _ hi, b8, b7, hno, b10⟩ ⟨gS0.blind _, va_recv hC.2.2.2.2.2.1 hS.1 (ci := ci) (q0 := q) hc hq, fun U hU hW => ⟨rfl, hC.s0 hS hU hW⟩⟩ rfl hn h.1 rfl (lv_room hrest) hd hC.2.2.2.2.2.2.2.2.2.2.2
/-- a method named x, chosen as y by the receiver's class C -/
theorem q_rD (hC : gC X Y cc own nL fr lo) {x y : MethodName} {bytes : ByteArray} {maxL n idx c o ci N : Nat} {ret : Option FieldType} {rm : Room} {As rest fs : List Value} {T : u_T} {C : String} {Qc : Array Value → State → Outcome → State → Prop} (hm : gMth y bytes maxL ret n) (hi : Cond.instanceMethod y ∈ gTs) (hix : Cond.instanceMethod x ∈ gTs) (hmx : x.cls ≠ "java/lang/invoke/MethodHandle" ∧ x.cls ≠ "java/lang/invoke/VarHandle" ∧ y.desc = x.desc) (hl : Cond.methodLink own idx x ∈ gTs) (hsm : Cond.sameMethod x.cls x.cls x.name x.desc ∈ gTs) (hse : Cond.selects C x y ∈ gTs)
    (hcx : ∃ b mx rx, Cond.code x b mx rx ∈ gTs)
    (hM : Met X.2.1 y (gws y bytes maxL ret) rm (va_Pc (.ref (gad Y c o) :: As) (gS0 Y M)) Qc 0 0 (gA Y)) (hR : rm.cells = 0 ∧ rm.slots = 0 ∧ rm.frames + 1 ≤ fr ∧ 8 + (maxL + 11) + rm.locals ≤ lo) (hV : gV c o) (he : gcel Y M c o = .inr (ci, fs)) (hc : vwCl[ci]? = some (C, T, N)) (hn : As.length = n) (hst : st = As.reverse ++ .ref (gad Y c o) :: rest) (hrest : (rest.map fun v => v.category).sum ≤ 8) (hd : decode cc pc = .ok (.invokevirtual idx, 3)) :
    gRun X Y nL pc lv st rest M (Qc (Value.ref (gad Y c o) :: As).toArray) := by
  intro H locs ls hS h
  subst hst
  obtain ⟨q, hq, -⟩ := gW_at (Y := Y) (M := M) hV
  rw [he] at hq
  have hts := hC.2.2.2.2.1
  have h9 := hC.2.2.2.2.2.2.2.2
  have hG := gws_good hm.1
  have hdecl : va_Decl (gxs X) ⟨x.cls, x.name, x.desc⟩ := by
    obtain ⟨mk, methM, hnamed, hmethM, hstM, habM⟩ := Cond.instanceMethod_spec (hts _ hix)
    obtain ⟨b, mx, rx, hcd⟩ := hcx
    obtain ⟨methM', cM, hmethM', -, -, -, -, -, -, hsigM⟩ := Cond.code_spec hnamed (hts _ hcd)
    cases hmethM.symm.trans hmethM'
    exact ⟨mk, methM, hnamed, hmethM, hstM, hsigM⟩
  have hlen : ∀ sig, parseMethodDescriptor x.desc = some sig → n = sig.parameters.length := fun sig hs => by
    have h2 := hm.2.2.2.2
    rw [hmx.2.2, hs] at h2
    exact (Option.some.inj h2).symm
  exact va_runU (owner := x.cls) (gCf hC) hM ⟨⟨hR.1, hR.2.1, by rw [h9.1]; exact hR.2.2.1, by rw [h9.2.1]; exact hR.2.2.2, pay_in hts hG, List.mem_cons_self⟩, hts _ hm.1, hts _ hm.2.1, ⟨hmx.1, hmx.2.1⟩, hlen, hts _ hl, hts _ hsm, hdecl, hts _ hse, hts _ hi⟩ ⟨gS0.blind _, va_recv hC.2.2.2.2.2.1 hS.1 (ci := ci) (q0 := q) hc hq, fun U hU hW => ⟨rfl, hC.s0 hS hU hW⟩⟩ rfl hn h.1 rfl (lv_room hrest) hd hC.2.2.2.2.2.2.2.2.2.2.2
theorem q_ki {rest : List Value} {r : Int32 × gMem} {a : Array Value} (hr : gRun X Y nL pc lv st rest M (gQi Y r a)) (kk : gWW X Y nL (pc + 3) lv (.int r.1 :: rest) r.2) : gWW X Y nL pc lv st M := by
  intro H locs ls hS h
  refine va_calli (hr H locs ls hS h) hS.2.2 (fun q _ h => h) (fun q h => h) (fun v u t H1 locs1 ht hvm hw hB _ _ hS1 => ?_)
  subst hw
  exact kk H1 locs1 ls ⟨by rw [← ht]; exact hB.1, hB.2.1, hS1⟩ h
theorem q_kz {rest : List Value} {r : Int32 × gMem} {a : Array Value} (hr : gRun X Y nL pc lv st rest M (gQz Y r a)) (kk : (r.1 = 0 ∨ r.1 = 1) → gWW X Y nL (pc + 3) lv (.int r.1 :: rest) r.2) : gWW X Y nL pc lv st M := by
  intro H locs ls hS h
  refine va_calli (hr H locs ls hS h) hS.2.2 (fun q _ h => h) (fun q h => h) (fun v u t H1 locs1 ht hvm hw hB _ _ hS1 => ?_)
  obtain ⟨hw, hz⟩ := hw
  subst hw
  exact kk hz H1 locs1 ls ⟨by rw [← ht]; exact hB.1, hB.2.1, hS1⟩ h
theorem q_kl {rest : List Value} {r : Int64 × gMem} {a : Array Value} (hr : gRun X Y nL pc lv st rest M (gQl Y r a)) (kk : gWW X Y nL (pc + 3) lv (.long r.1 :: rest) r.2) : gWW X Y nL pc lv st M := by
  intro H locs ls hS h
  refine va_calll (hr H locs ls hS h) hS.2.2 (fun q _ h => h) (fun q h => h) (fun v u t H1 locs1 ht hvm hw hB _ _ hS1 => ?_)
  subst hw
  exact kk H1 locs1 ls ⟨by rw [← ht]; exact hB.1, hB.2.1, hS1⟩ h
theorem q_kv {rest : List Value} {r : gMem} {a : Array Value} (hr : gRun X Y nL pc lv st rest M (gQv Y r a)) (kk : gWW X Y nL (pc + 3) lv rest r) : gWW X Y nL pc lv st M := by
  intro H locs ls hS h
  refine va_callv (hr H locs ls hS h) hS.2.2 (fun q _ h => h) (fun q h => h) (fun u t H1 locs1 ht hvm hw hB _ _ hS1 => ?_)
  exact kk H1 locs1 ls ⟨by rw [← ht]; exact hB.1, hB.2.1, hS1⟩ h
theorem q_iret (hC : gC X Y cc own nL fr lo) {r : Int32 × gMem} {v : Int32} (hF : gF X Y (some .int) (gQi Y r)) (hd : decode cc pc = .ok (.ireturn, 1)) (he : (v, M) = r) : gWW X Y nL pc lv [.int v] M := by
  intro H locs ls hS h
  subst he
  rw [hF.2]
  exact W.iret hC.1 hC.2.1 hF.1 (fun t ht hW => ⟨⟨v, (), rfl, rfl, hC.s0 hS ht hW⟩, hS.2.2.F ht⟩) hS.2.2.2.2 hd hC.2.2.2.2.2.2.2.2.2.2.1
theorem gnz {v : Int32} (h : v = 0 ∨ v = 1) : narrow .boolean (.int v) = .int v := by
  rcases h with rfl | rfl <;> rfl
theorem q_zret (hC : gC X Y cc own nL fr lo) {r : Int32 × gMem} {v : Int32} (hF : gF X Y (some .boolean) (gQz Y r)) (hd : decode cc pc = .ok (.ireturn, 1)) (hz : v = 0 ∨ v = 1) (he : (v, M) = r) : gWW X Y nL pc lv [.int v] M := by
  intro H locs ls hS h
  subst he
  rw [hF.2]
  exact W.zret hC.1 hC.2.1 hF.1 (gnz hz) (fun t ht hW => ⟨⟨v, (), rfl, ⟨rfl, hz⟩, hC.s0 hS ht hW⟩, hS.2.2.F ht⟩) hS.2.2.2.2 hd hC.2.2.2.2.2.2.2.2.2.2.1
theorem q_nret (hC : gC X Y cc own nL fr lo) {r : Int32 × gMem} {v : Int32} {ty : FieldType} (hF : gF X Y (some ty) (gQi Y r)) (hd : decode cc pc = .ok (.ireturn, 1)) (hz : narrow ty (.int v) = .int v) (he : (v, M) = r) : gWW X Y nL pc lv [.int v] M := by
  intro H locs ls hS h
  subst he
  rw [hF.2]
  exact W.zret hC.1 hC.2.1 hF.1 hz (fun t ht hW => ⟨⟨v, (), rfl, rfl, hC.s0 hS ht hW⟩, hS.2.2.F ht⟩) hS.2.2.2.2 hd hC.2.2.2.2.2.2.2.2.2.2.1
theorem q_lret (hC : gC X Y cc own nL fr lo) {r : Int64 × gMem} {v : Int64} (hF : gF X Y (some .long) (gQl Y r)) (hd : decode cc pc = .ok (.lreturn, 1)) (he : (v, M) = r) : gWW X Y nL pc lv [.long v] M := by
  intro H locs ls hS h
  subst he
  rw [hF.2]
  exact W.lret hC.1 hC.2.1 hF.1 (fun t ht hW => ⟨⟨v, (), rfl, rfl, hC.s0 hS ht hW⟩, hS.2.2.F ht⟩) hS.2.2.2.2 hd hC.2.2.2.2.2.2.2.2.2.2.1
theorem q_vret (hC : gC X Y cc own nL fr lo) {r : gMem} (hF : gF X Y none (gQv Y r)) (hd : decode cc pc = .ok (.return_, 1)) (he : M = r) : gWW X Y nL pc lv [] M := by
  intro H locs ls hS h
  subst he
  rw [hF.2]
  exact W.vret hC.1 hC.2.1 hF.1 (fun t ht hW => ⟨⟨(), rfl, trivial, hC.s0 hS ht hW⟩, hS.2.2.F ht⟩) hS.2.2.2.2 hd hC.2.2.2.2.2.2.2.2.2.2.1
end GK
end
section
theorem tb_1 {w : Cond} (h : w ∈ tables_1_1) : w ∈ tables_1 := List.mem_append_left _ h
theorem tb_2 {w : Cond} (h : w ∈ tables_1_2) : w ∈ tables_1 := List.mem_append_right _ (List.mem_append_left _ h)
theorem tb_3 {w : Cond} (h : w ∈ tables_1_3) : w ∈ tables_1 := List.mem_append_right _ (List.mem_append_right _ (List.mem_append_left _ h))
theorem tb_4 {w : Cond} (h : w ∈ tables_1_4) : w ∈ tables_1 := List.mem_append_right _ (List.mem_append_right _ (List.mem_append_right _ (List.mem_append_left _ h)))
theorem tb_5 {w : Cond} (h : w ∈ tables_1_5) : w ∈ tables_1 := List.mem_append_right _ (List.mem_append_right _ (List.mem_append_right _ (List.mem_append_right _ h)))
theorem gTs_t {w : Cond} (h : w ∈ tables_1) (hg : goodWord w = true) : w ∈ gTs := List.mem_filter.mpr ⟨List.mem_append_right _ h, hg⟩
theorem gTs_p {q : MethodName × Nat} (h : q ∈ lw_privs) (hg : goodWord (Cond.selects q.1.cls q.1 q.1) = true) : Cond.selects q.1.cls q.1 q.1 ∈ gTs := List.mem_filter.mpr ⟨List.mem_append_left _ (List.mem_map.mpr ⟨q, h, rfl⟩), hg⟩
theorem gNW_t {w : Cond} (h : w ∈ tables_1) (hg : gNst w = true) : w ∈ gNW := List.mem_filter.mpr ⟨h, hg⟩
theorem wI_L : Cond.initialized "GuestStaffLaw" ∈ gTs := gTs_t (tb_1 (List.mem_of_getElem? (i := 0) rfl)) rfl
theorem wI_X10 : Cond.initialized "GuestStaff" ∈ gTs := gTs_t (tb_1 (List.mem_of_getElem? (i := 1) rfl)) rfl
theorem wI_X9 : Cond.initialized "GuestStaff$Text" ∈ gTs := gTs_t (tb_1 (List.mem_of_getElem? (i := 2) rfl)) rfl
theorem wI_X7 : Cond.initialized "GuestStaff$Rows" ∈ gTs := gTs_t (tb_1 (List.mem_of_getElem? (i := 3) rfl)) rfl
theorem wI_X4 : Cond.initialized "GuestStaff$Plain" ∈ gTs := gTs_t (tb_1 (List.mem_of_getElem? (i := 4) rfl)) rfl
theorem wI_X6 : Cond.initialized "GuestStaff$Quiet" ∈ gTs := gTs_t (tb_1 (List.mem_of_getElem? (i := 5) rfl)) rfl
theorem wI_X0 : Cond.initialized "GuestStaff$Banker" ∈ gTs := gTs_t (tb_1 (List.mem_of_getElem? (i := 6) rfl)) rfl
theorem wI_X8 : Cond.initialized "GuestStaff$Shouter" ∈ gTs := gTs_t (tb_1 (List.mem_of_getElem? (i := 7) rfl)) rfl
theorem wI_X2 : Cond.initialized "GuestStaff$Late" ∈ gTs := gTs_t (tb_1 (List.mem_of_getElem? (i := 8) rfl)) rfl
theorem wI_X5 : Cond.initialized "GuestStaff$Polisher" ∈ gTs := gTs_t (tb_1 (List.mem_of_getElem? (i := 9) rfl)) rfl
theorem wI_X1 : Cond.initialized "GuestStaff$House" ∈ gTs := gTs_t (tb_1 (List.mem_of_getElem? (i := 10) rfl)) rfl
theorem wI_X3 : Cond.initialized "GuestStaff$Notes" ∈ gTs := gTs_t (tb_1 (List.mem_of_getElem? (i := 11) rfl)) rfl
theorem wI_X11 : Cond.initialized "GuestStaffModel" ∈ gTs := gTs_t (tb_1 (List.mem_of_getElem? (i := 12) rfl)) rfl
theorem wI_J10 : Cond.initialized "java/lang/System" ∈ gTs := gTs_t (tb_1 (List.mem_of_getElem? (i := 13) rfl)) rfl
theorem wI_J9 : Cond.initialized "java/lang/Math" ∈ gTs := gTs_t (tb_1 (List.mem_of_getElem? (i := 14) rfl)) rfl
theorem wI_J0 : Cond.initialized "java/lang/String" ∈ gTs := gTs_t (tb_1 (List.mem_of_getElem? (i := 15) rfl)) rfl
theorem wI_J1 : Cond.initialized "java/lang/StringLatin1" ∈ gTs := gTs_t (tb_1 (List.mem_of_getElem? (i := 16) rfl)) rfl
theorem wI_J3 : Cond.initialized "jdk/internal/util/Preconditions" ∈ gTs := gTs_t (tb_1 (List.mem_of_getElem? (i := 17) rfl)) rfl
theorem wI_J2 : Cond.initialized "java/lang/StringUTF16" ∈ gTs := gTs_t (tb_1 (List.mem_of_getElem? (i := 18) rfl)) rfl
theorem wI_J6 : Cond.initialized "java/lang/Integer" ∈ gTs := gTs_t (tb_1 (List.mem_of_getElem? (i := 19) rfl)) rfl
theorem wM_L_9 : Cond.methodLink "GuestStaffLaw" 9 yX10_init ∈ gTs := gTs_t (tb_1 (List.mem_of_getElem? (i := 22) rfl)) rfl
theorem wM_X10_3 : Cond.methodLink "GuestStaff" 3 objectInit ∈ gTs := gTs_t (tb_1 (List.mem_of_getElem? (i := 25) rfl)) rfl
theorem wG_X10_15 : Cond.methodLinkNest "GuestStaff" 15 yX9_init "GuestStaff" ∈ gNW := gNW_t (tb_1 (List.mem_of_getElem? (i := 30) rfl)) rfl
theorem wM_X9_3 : Cond.methodLink "GuestStaff$Text" 3 objectInit ∈ gTs := gTs_t (tb_1 (List.mem_of_getElem? (i := 33) rfl)) rfl
theorem wF_X9_9 : Cond.fieldLink "GuestStaff$Text" 9 "GuestStaff$Text" "bytes" "[I" ∈ gTs := gTs_t (tb_1 (List.mem_of_getElem? (i := 34) rfl)) rfl
theorem wF_X9_15 : Cond.fieldLink "GuestStaff$Text" 15 "GuestStaff$Text" "size" "I" ∈ gTs := gTs_t (tb_1 (List.mem_of_getElem? (i := 35) rfl)) rfl
theorem wN_X10_105 : Cond.fieldLinkNest "GuestStaff" 105 "GuestStaff$Text" "size" "I" "GuestStaff" ∈ gNW := gNW_t (tb_1 (List.mem_of_getElem? (i := 36) rfl)) rfl
theorem wF_X9_19 : Cond.fieldLink "GuestStaff$Text" 19 "GuestStaff$Text" "at" "I" ∈ gTs := gTs_t (tb_1 (List.mem_of_getElem? (i := 37) rfl)) rfl
theorem wN_X10_115 : Cond.fieldLinkNest "GuestStaff" 115 "GuestStaff$Text" "at" "I" "GuestStaff" ∈ gNW := gNW_t (tb_1 (List.mem_of_getElem? (i := 38) rfl)) rfl
theorem wF_X9_22 : Cond.fieldLink "GuestStaff$Text" 22 "GuestStaff$Text" "behind" "I" ∈ gTs := gTs_t (tb_1 (List.mem_of_getElem? (i := 39) rfl)) rfl
theorem wF_X9_25 : Cond.fieldLink "GuestStaff$Text" 25 "GuestStaff$Text" "sort" "I" ∈ gTs := gTs_t (tb_1 (List.mem_of_getElem? (i := 40) rfl)) rfl
theorem wF_X9_28 : Cond.fieldLink "GuestStaff$Text" 28 "GuestStaff$Text" "number" "I" ∈ gTs := gTs_t (tb_1 (List.mem_of_getElem? (i := 41) rfl)) rfl
theorem wU_X9 : Cond.superclass "GuestStaff$Text" "java/lang/Object" ∈ gTs := gTs_t (tb_1 (List.mem_of_getElem? (i := 54) rfl)) rfl
theorem wG_X10_22 : Cond.methodLinkNest "GuestStaff" 22 yX7_init "GuestStaff" ∈ gNW := gNW_t (tb_1 (List.mem_of_getElem? (i := 59) rfl)) rfl
theorem wM_X7_3 : Cond.methodLink "GuestStaff$Rows" 3 objectInit ∈ gTs := gTs_t (tb_1 (List.mem_of_getElem? (i := 62) rfl)) rfl
theorem wF_X7_9 : Cond.fieldLink "GuestStaff$Rows" 9 "GuestStaff$Rows" "member" "[I" ∈ gTs := gTs_t (tb_1 (List.mem_of_getElem? (i := 65) rfl)) rfl
theorem wF_X7_15 : Cond.fieldLink "GuestStaff$Rows" 15 "GuestStaff$Rows" "open" "[I" ∈ gTs := gTs_t (tb_1 (List.mem_of_getElem? (i := 66) rfl)) rfl
theorem wF_X7_20 : Cond.fieldLink "GuestStaff$Rows" 20 "GuestStaff$Rows" "cost" "[[I" ∈ gTs := gTs_t (tb_1 (List.mem_of_getElem? (i := 67) rfl)) rfl
theorem wF_X7_23 : Cond.fieldLink "GuestStaff$Rows" 23 "GuestStaff$Rows" "rest" "[I" ∈ gTs := gTs_t (tb_1 (List.mem_of_getElem? (i := 68) rfl)) rfl
theorem wF_X7_26 : Cond.fieldLink "GuestStaff$Rows" 26 "GuestStaff$Rows" "members" "I" ∈ gTs := gTs_t (tb_1 (List.mem_of_getElem? (i := 69) rfl)) rfl
theorem wU_X7 : Cond.superclass "GuestStaff$Rows" "java/lang/Object" ∈ gTs := gTs_t (tb_1 (List.mem_of_getElem? (i := 80) rfl)) rfl
theorem wG_X10_40 : Cond.methodLinkNest "GuestStaff" 40 yX4_init "GuestStaff" ∈ gNW := gNW_t (tb_1 (List.mem_of_getElem? (i := 84) rfl)) rfl
theorem wM_X4_1 : Cond.methodLink "GuestStaff$Plain" 1 objectInit ∈ gTs := gTs_t (tb_1 (List.mem_of_getElem? (i := 87) rfl)) rfl
theorem wU_X4 : Cond.superclass "GuestStaff$Plain" "java/lang/Object" ∈ gTs := gTs_t (tb_1 (List.mem_of_getElem? (i := 88) rfl)) rfl
theorem wG_X10_43 : Cond.methodLinkNest "GuestStaff" 43 yX6_init "GuestStaff" ∈ gNW := gNW_t (tb_1 (List.mem_of_getElem? (i := 91) rfl)) rfl
theorem wG_X6_3 : Cond.methodLinkNest "GuestStaff$Quiet" 3 yX4_init "GuestStaff" ∈ gNW := gNW_t (tb_1 (List.mem_of_getElem? (i := 94) rfl)) rfl
theorem wU_X6 : Cond.superclass "GuestStaff$Quiet" "GuestStaff$Plain" ∈ gTs := gTs_t (tb_1 (List.mem_of_getElem? (i := 95) rfl)) rfl
theorem wG_X10_46 : Cond.methodLinkNest "GuestStaff" 46 yX0_init "GuestStaff" ∈ gNW := gNW_t (tb_1 (List.mem_of_getElem? (i := 98) rfl)) rfl
theorem wG_X0_1 : Cond.methodLinkNest "GuestStaff$Banker" 1 yX4_init "GuestStaff" ∈ gNW := gNW_t (tb_1 (List.mem_of_getElem? (i := 101) rfl)) rfl
theorem wU_X0 : Cond.superclass "GuestStaff$Banker" "GuestStaff$Plain" ∈ gTs := gTs_t (tb_1 (List.mem_of_getElem? (i := 102) rfl)) rfl
theorem wG_X10_49 : Cond.methodLinkNest "GuestStaff" 49 yX8_init "GuestStaff" ∈ gNW := gNW_t (tb_1 (List.mem_of_getElem? (i := 105) rfl)) rfl
theorem wG_X8_1 : Cond.methodLinkNest "GuestStaff$Shouter" 1 yX4_init "GuestStaff" ∈ gNW := gNW_t (tb_1 (List.mem_of_getElem? (i := 108) rfl)) rfl
theorem wU_X8 : Cond.superclass "GuestStaff$Shouter" "GuestStaff$Plain" ∈ gTs := gTs_t (tb_1 (List.mem_of_getElem? (i := 109) rfl)) rfl
theorem wG_X10_52 : Cond.methodLinkNest "GuestStaff" 52 yX2_init "GuestStaff" ∈ gNW := gNW_t (tb_1 (List.mem_of_getElem? (i := 112) rfl)) rfl
theorem wG_X2_1 : Cond.methodLinkNest "GuestStaff$Late" 1 yX6_init "GuestStaff" ∈ gNW := gNW_t (tb_1 (List.mem_of_getElem? (i := 115) rfl)) rfl
theorem wU_X2 : Cond.superclass "GuestStaff$Late" "GuestStaff$Quiet" ∈ gTs := gTs_t (tb_1 (List.mem_of_getElem? (i := 116) rfl)) rfl
theorem wG_X10_55 : Cond.methodLinkNest "GuestStaff" 55 yX5_init "GuestStaff" ∈ gNW := gNW_t (tb_1 (List.mem_of_getElem? (i := 119) rfl)) rfl
theorem wG_X5_1 : Cond.methodLinkNest "GuestStaff$Polisher" 1 yX0_init "GuestStaff" ∈ gNW := gNW_t (tb_1 (List.mem_of_getElem? (i := 122) rfl)) rfl
theorem wU_X5 : Cond.superclass "GuestStaff$Polisher" "GuestStaff$Banker" ∈ gTs := gTs_t (tb_1 (List.mem_of_getElem? (i := 123) rfl)) rfl
theorem wM_X10_58 : Cond.methodLink "GuestStaff" 58 yX1_init ∈ gTs := gTs_t (tb_1 (List.mem_of_getElem? (i := 126) rfl)) rfl
theorem wM_X1_3 : Cond.methodLink "GuestStaff$House" 3 objectInit ∈ gTs := gTs_t (tb_1 (List.mem_of_getElem? (i := 129) rfl)) rfl
theorem wG_X1_29 : Cond.methodLinkNest "GuestStaff$House" 29 yX3_init "GuestStaff" ∈ gNW := gNW_t (tb_1 (List.mem_of_getElem? (i := 132) rfl)) rfl
theorem wM_X3_3 : Cond.methodLink "GuestStaff$Notes" 3 objectInit ∈ gTs := gTs_t (tb_1 (List.mem_of_getElem? (i := 135) rfl)) rfl
theorem wF_X3_13 : Cond.fieldLink "GuestStaff$Notes" 13 "GuestStaff$Notes" "note" "[[I" ∈ gTs := gTs_t (tb_1 (List.mem_of_getElem? (i := 137) rfl)) rfl
theorem wF_X3_16 : Cond.fieldLink "GuestStaff$Notes" 16 "GuestStaff$Notes" "size" "I" ∈ gTs := gTs_t (tb_1 (List.mem_of_getElem? (i := 138) rfl)) rfl
theorem wN_X1_68 : Cond.fieldLinkNest "GuestStaff$House" 68 "GuestStaff$Notes" "size" "I" "GuestStaff" ∈ gNW := gNW_t (tb_1 (List.mem_of_getElem? (i := 139) rfl)) rfl
theorem wN_X10_201 : Cond.fieldLinkNest "GuestStaff" 201 "GuestStaff$Notes" "size" "I" "GuestStaff" ∈ gNW := gNW_t (tb_1 (List.mem_of_getElem? (i := 140) rfl)) rfl
theorem wU_X3 : Cond.superclass "GuestStaff$Notes" "java/lang/Object" ∈ gTs := gTs_t (tb_1 (List.mem_of_getElem? (i := 145) rfl)) rfl
theorem wF_X1_64 : Cond.fieldLink "GuestStaff$House" 64 "GuestStaff$House" "kinds" "[LGuestStaff$Plain;" ∈ gTs := gTs_t (tb_1 (List.mem_of_getElem? (i := 147) rfl)) rfl
theorem wF_X1_9 : Cond.fieldLink "GuestStaff$House" 9 "GuestStaff$House" "kind" "[I" ∈ gTs := gTs_t (tb_1 (List.mem_of_getElem? (i := 148) rfl)) rfl
theorem wN_X10_140 : Cond.fieldLinkNest "GuestStaff" 140 "GuestStaff$House" "kind" "[I" "GuestStaff" ∈ gNW := gNW_t (tb_1 (List.mem_of_getElem? (i := 149) rfl)) rfl
theorem wF_X1_15 : Cond.fieldLink "GuestStaff$House" 15 "GuestStaff$House" "want" "[I" ∈ gTs := gTs_t (tb_1 (List.mem_of_getElem? (i := 150) rfl)) rfl
theorem wN_X7_43 : Cond.fieldLinkNest "GuestStaff$Rows" 43 "GuestStaff$House" "want" "[I" "GuestStaff" ∈ gNW := gNW_t (tb_1 (List.mem_of_getElem? (i := 151) rfl)) rfl
theorem wN_X10_143 : Cond.fieldLinkNest "GuestStaff" 143 "GuestStaff$House" "want" "[I" "GuestStaff" ∈ gNW := gNW_t (tb_1 (List.mem_of_getElem? (i := 152) rfl)) rfl
theorem wF_X1_18 : Cond.fieldLink "GuestStaff$House" 18 "GuestStaff$House" "can" "[I" ∈ gTs := gTs_t (tb_1 (List.mem_of_getElem? (i := 153) rfl)) rfl
theorem wN_X10_146 : Cond.fieldLinkNest "GuestStaff" 146 "GuestStaff$House" "can" "[I" "GuestStaff" ∈ gNW := gNW_t (tb_1 (List.mem_of_getElem? (i := 154) rfl)) rfl
theorem wF_X1_21 : Cond.fieldLink "GuestStaff$House" 21 "GuestStaff$House" "duty" "[I" ∈ gTs := gTs_t (tb_1 (List.mem_of_getElem? (i := 155) rfl)) rfl
theorem wN_X10_99 : Cond.fieldLinkNest "GuestStaff" 99 "GuestStaff$House" "duty" "[I" "GuestStaff" ∈ gNW := gNW_t (tb_1 (List.mem_of_getElem? (i := 156) rfl)) rfl
theorem wN_X9_77 : Cond.fieldLinkNest "GuestStaff$Text" 77 "GuestStaff$House" "duty" "[I" "GuestStaff" ∈ gNW := gNW_t (tb_1 (List.mem_of_getElem? (i := 157) rfl)) rfl
theorem wF_X1_24 : Cond.fieldLink "GuestStaff$House" 24 "GuestStaff$House" "tips" "[I" ∈ gTs := gTs_t (tb_1 (List.mem_of_getElem? (i := 158) rfl)) rfl
theorem wN_X10_149 : Cond.fieldLinkNest "GuestStaff" 149 "GuestStaff$House" "tips" "[I" "GuestStaff" ∈ gNW := gNW_t (tb_1 (List.mem_of_getElem? (i := 159) rfl)) rfl
theorem wF_X1_30 : Cond.fieldLink "GuestStaff$House" 30 "GuestStaff$House" "notes" "LGuestStaff$Notes;" ∈ gTs := gTs_t (tb_1 (List.mem_of_getElem? (i := 160) rfl)) rfl
theorem wN_X10_197 : Cond.fieldLinkNest "GuestStaff" 197 "GuestStaff$House" "notes" "LGuestStaff$Notes;" "GuestStaff" ∈ gNW := gNW_t (tb_1 (List.mem_of_getElem? (i := 161) rfl)) rfl
theorem wF_X1_36 : Cond.fieldLink "GuestStaff$House" 36 "GuestStaff$House" "pastDuty" "[[I" ∈ gTs := gTs_t (tb_1 (List.mem_of_getElem? (i := 162) rfl)) rfl
theorem wF_X1_39 : Cond.fieldLink "GuestStaff$House" 39 "GuestStaff$House" "pastTips" "[[I" ∈ gTs := gTs_t (tb_1 (List.mem_of_getElem? (i := 163) rfl)) rfl
theorem wF_X1_42 : Cond.fieldLink "GuestStaff$House" 42 "GuestStaff$House" "pastMood" "[I" ∈ gTs := gTs_t (tb_1 (List.mem_of_getElem? (i := 164) rfl)) rfl
theorem wF_X1_45 : Cond.fieldLink "GuestStaff$House" 45 "GuestStaff$House" "pastHour" "[I" ∈ gTs := gTs_t (tb_1 (List.mem_of_getElem? (i := 165) rfl)) rfl
theorem wF_X1_48 : Cond.fieldLink "GuestStaff$House" 48 "GuestStaff$House" "slot" "I" ∈ gTs := gTs_t (tb_1 (List.mem_of_getElem? (i := 166) rfl)) rfl
theorem wF_X1_52 : Cond.fieldLink "GuestStaff$House" 52 "GuestStaff$House" "undoable" "I" ∈ gTs := gTs_t (tb_1 (List.mem_of_getElem? (i := 167) rfl)) rfl
theorem wN_X10_128 : Cond.fieldLinkNest "GuestStaff" 128 "GuestStaff$House" "undoable" "I" "GuestStaff" ∈ gNW := gNW_t (tb_1 (List.mem_of_getElem? (i := 168) rfl)) rfl
theorem wF_X1_55 : Cond.fieldLink "GuestStaff$House" 55 "GuestStaff$House" "guests" "I" ∈ gTs := gTs_t (tb_1 (List.mem_of_getElem? (i := 169) rfl)) rfl
theorem wN_X10_72 : Cond.fieldLinkNest "GuestStaff" 72 "GuestStaff$House" "guests" "I" "GuestStaff" ∈ gNW := gNW_t (tb_1 (List.mem_of_getElem? (i := 170) rfl)) rfl
theorem wN_X7_30 : Cond.fieldLinkNest "GuestStaff$Rows" 30 "GuestStaff$House" "guests" "I" "GuestStaff" ∈ gNW := gNW_t (tb_1 (List.mem_of_getElem? (i := 171) rfl)) rfl
theorem wN_X9_55 : Cond.fieldLinkNest "GuestStaff$Text" 55 "GuestStaff$House" "guests" "I" "GuestStaff" ∈ gNW := gNW_t (tb_1 (List.mem_of_getElem? (i := 172) rfl)) rfl
theorem wF_X1_58 : Cond.fieldLink "GuestStaff$House" 58 "GuestStaff$House" "hour" "I" ∈ gTs := gTs_t (tb_1 (List.mem_of_getElem? (i := 173) rfl)) rfl
theorem wN_X10_137 : Cond.fieldLinkNest "GuestStaff" 137 "GuestStaff$House" "hour" "I" "GuestStaff" ∈ gNW := gNW_t (tb_1 (List.mem_of_getElem? (i := 174) rfl)) rfl
theorem wF_X1_61 : Cond.fieldLink "GuestStaff$House" 61 "GuestStaff$House" "mood" "I" ∈ gTs := gTs_t (tb_1 (List.mem_of_getElem? (i := 175) rfl)) rfl
theorem wN_X10_125 : Cond.fieldLinkNest "GuestStaff" 125 "GuestStaff$House" "mood" "I" "GuestStaff" ∈ gNW := gNW_t (tb_1 (List.mem_of_getElem? (i := 176) rfl)) rfl
theorem wU_X1 : Cond.superclass "GuestStaff$House" "java/lang/Object" ∈ gTs := gTs_t (tb_1 (List.mem_of_getElem? (i := 209) rfl)) rfl
theorem wF_X10_61 : Cond.fieldLink "GuestStaff" 61 "GuestStaff" "now" "LGuestStaff$House;" ∈ gTs := gTs_t (tb_1 (List.mem_of_getElem? (i := 211) rfl)) rfl
theorem wF_X10_65 : Cond.fieldLink "GuestStaff" 65 "GuestStaff" "trial" "LGuestStaff$House;" ∈ gTs := gTs_t (tb_1 (List.mem_of_getElem? (i := 212) rfl)) rfl
theorem wF_X10_68 : Cond.fieldLink "GuestStaff" 68 "GuestStaff" "images" "[LGuestStaff$House;" ∈ gTs := gTs_t (tb_1 (List.mem_of_getElem? (i := 213) rfl)) rfl
theorem wF_X10_9 : Cond.fieldLink "GuestStaff" 9 "GuestStaff" "kept" "[Z" ∈ gTs := gTs_t (tb_1 (List.mem_of_getElem? (i := 214) rfl)) rfl
theorem wF_X10_16 : Cond.fieldLink "GuestStaff" 16 "GuestStaff" "text" "LGuestStaff$Text;" ∈ gTs := gTs_t (tb_1 (List.mem_of_getElem? (i := 215) rfl)) rfl
theorem wF_X10_23 : Cond.fieldLink "GuestStaff" 23 "GuestStaff" "rows" "LGuestStaff$Rows;" ∈ gTs := gTs_t (tb_1 (List.mem_of_getElem? (i := 216) rfl)) rfl
theorem wF_X10_27 : Cond.fieldLink "GuestStaff" 27 "GuestStaff" "refused" "[I" ∈ gTs := gTs_t (tb_1 (List.mem_of_getElem? (i := 217) rfl)) rfl
theorem wF_X10_31 : Cond.fieldLink "GuestStaff" 31 "GuestStaff" "above" "J" ∈ gTs := gTs_t (tb_1 (List.mem_of_getElem? (i := 218) rfl)) rfl
theorem wF_X10_35 : Cond.fieldLink "GuestStaff" 35 "GuestStaff" "below" "J" ∈ gTs := gTs_t (tb_1 (List.mem_of_getElem? (i := 219) rfl)) rfl
theorem wU_X10 : Cond.superclass "GuestStaff" "java/lang/Object" ∈ gTs := gTs_t (tb_1 (List.mem_of_getElem? (i := 238) rfl)) rfl
theorem wM_L_13 : Cond.methodLink "GuestStaffLaw" 13 yX10_house ∈ gTs := gTs_t (tb_1 (List.mem_of_getElem? (i := 239) rfl)) rfl
theorem wM_X10_76 : Cond.methodLink "GuestStaff" 76 yX1_empty ∈ gTs := gTs_t (tb_2 (List.mem_of_getElem? (i := 3) rfl)) rfl
theorem wM_L_18 : Cond.methodLink "GuestStaffLaw" 18 yX10_guest ∈ gTs := gTs_t (tb_2 (List.mem_of_getElem? (i := 7) rfl)) rfl
theorem wM_X10_79 : Cond.methodLink "GuestStaff" 79 yX10_isBelow ∈ gTs := gTs_t (tb_2 (List.mem_of_getElem? (i := 11) rfl)) rfl
theorem wM_X10_83 : Cond.methodLink "GuestStaff" 83 yX10_refuseBad ∈ gTs := gTs_t (tb_2 (List.mem_of_getElem? (i := 14) rfl)) rfl
theorem wM_X10_87 : Cond.methodLink "GuestStaff" 87 yX10_refuseFull ∈ gTs := gTs_t (tb_2 (List.mem_of_getElem? (i := 18) rfl)) rfl
theorem wM_X10_91 : Cond.methodLink "GuestStaff" 91 yX1_admit ∈ gTs := gTs_t (tb_2 (List.mem_of_getElem? (i := 22) rfl)) rfl
theorem wM_L_23 : Cond.methodLink "GuestStaffLaw" 23 yX10_duty ∈ gTs := gTs_t (tb_2 (List.mem_of_getElem? (i := 26) rfl)) rfl
theorem wM_X10_95 : Cond.methodLink "GuestStaff" 95 yX1_isGuest ∈ gTs := gTs_t (tb_2 (List.mem_of_getElem? (i := 30) rfl)) rfl
theorem wM_X10_102 : Cond.methodLink "GuestStaff" 102 yX1_remember ∈ gTs := gTs_t (tb_2 (List.mem_of_getElem? (i := 34) rfl)) rfl
theorem wM_X1_71 : Cond.methodLink "GuestStaff$House" 71 yX1_copyRow ∈ gTs := gTs_t (tb_2 (List.mem_of_getElem? (i := 38) rfl)) rfl
theorem wM_X1_79 : Cond.methodLink "GuestStaff$House" 79 arraycopyName ∈ gTs := gTs_t (tb_2 (List.mem_of_getElem? (i := 41) rfl)) rfl
theorem wM_X1_109 : Cond.methodLink "GuestStaff$House" 109 Lib.Math.min.name ∈ gTs := gTs_t (tb_2 (List.mem_of_getElem? (i := 44) rfl)) rfl
theorem wM_L_28 : Cond.methodLink "GuestStaffLaw" 28 yX10_type ∈ gTs := gTs_t (tb_2 (List.mem_of_getElem? (i := 47) rfl)) rfl
theorem wM_X10_108 : Cond.methodLink "GuestStaff" 108 yX9_append ∈ gTs := gTs_t (tb_2 (List.mem_of_getElem? (i := 51) rfl)) rfl
theorem wM_L_33 : Cond.methodLink "GuestStaffLaw" 33 yX10_clear ∈ gTs := gTs_t (tb_2 (List.mem_of_getElem? (i := 55) rfl)) rfl
theorem wM_L_37 : Cond.methodLink "GuestStaffLaw" 37 yX10_read ∈ gTs := gTs_t (tb_2 (List.mem_of_getElem? (i := 59) rfl)) rfl
theorem wM_X10_111 : Cond.methodLink "GuestStaff" 111 yX9_parse ∈ gTs := gTs_t (tb_2 (List.mem_of_getElem? (i := 63) rfl)) rfl
theorem wM_X9_31 : Cond.methodLink "GuestStaff$Text" 31 yX1_empty ∈ gTs := gTs_t (tb_2 (List.mem_of_getElem? (i := 67) rfl)) rfl
theorem wM_X9_36 : Cond.methodLink "GuestStaff$Text" 36 yX9_step ∈ gTs := gTs_t (tb_2 (List.mem_of_getElem? (i := 68) rfl)) rfl
theorem wM_X9_89 : Cond.methodLink "GuestStaff$Text" 89 yX9_endOfRun ∈ gTs := gTs_t (tb_2 (List.mem_of_getElem? (i := 72) rfl)) rfl
theorem wM_X9_92 : Cond.methodLink "GuestStaff$Text" 92 yX9_numberHere ∈ gTs := gTs_t (tb_2 (List.mem_of_getElem? (i := 76) rfl)) rfl
theorem wM_X9_95 : Cond.methodLink "GuestStaff$Text" 95 yX9_signHere ∈ gTs := gTs_t (tb_2 (List.mem_of_getElem? (i := 80) rfl)) rfl
theorem wM_X9_98 : Cond.methodLink "GuestStaff$Text" 98 Lib.Math.min.name ∈ gTs := gTs_t (tb_2 (List.mem_of_getElem? (i := 84) rfl)) rfl
theorem wM_X9_41 : Cond.methodLink "GuestStaff$Text" 41 yX9_isWord ∈ gTs := gTs_t (tb_2 (List.mem_of_getElem? (i := 86) rfl)) rfl
theorem wM_X9_79 : Cond.methodLink "GuestStaff$Text" 79 yJ0_length_8abf5 ∈ gTs := gTs_t (tb_2 (List.mem_of_getElem? (i := 90) rfl)) rfl
theorem wM_J0_335 : Cond.methodLink "java/lang/String" 335 yJ0_coder_7d493 ∈ gTs := gTs_t (tb_2 (List.mem_of_getElem? (i := 94) rfl)) rfl
theorem wF_J0_38 : Cond.fieldLink "java/lang/String" 38 "java/lang/String" "COMPACT_STRINGS" "Z" ∈ gTs := gTs_t (tb_2 (List.mem_of_getElem? (i := 98) rfl)) rfl
theorem wM_X9_85 : Cond.methodLink "GuestStaff$Text" 85 yJ0_charAt_5068e ∈ gTs := gTs_t (tb_2 (List.mem_of_getElem? (i := 100) rfl)) rfl
theorem wM_J0_492 : Cond.methodLink "java/lang/String" 492 yJ0_isLatin1_aae02 ∈ gTs := gTs_t (tb_2 (List.mem_of_getElem? (i := 104) rfl)) rfl
theorem wM_J0_495 : Cond.methodLink "java/lang/String" 495 yJ1_charAt_3b067 ∈ gTs := gTs_t (tb_2 (List.mem_of_getElem? (i := 108) rfl)) rfl
theorem wM_J1_9 : Cond.methodLink "java/lang/StringLatin1" 9 yJ0_checkIndex_df160 ∈ gTs := gTs_t (tb_2 (List.mem_of_getElem? (i := 111) rfl)) rfl
theorem wF_J0_1053 : Cond.fieldLink "java/lang/String" 1053 "jdk/internal/util/Preconditions" "SIOOBE_FORMATTER" "Ljava/util/function/BiFunction;" ∈ gTs := gTs_t (tb_2 (List.mem_of_getElem? (i := 114) rfl)) rfl
theorem wM_J0_1059 : Cond.methodLink "java/lang/String" 1059 yJ3_checkIndex_8e157 ∈ gTs := gTs_t (tb_2 (List.mem_of_getElem? (i := 116) rfl)) rfl
theorem wM_J0_498 : Cond.methodLink "java/lang/String" 498 yJ2_charAt_3b067 ∈ gTs := gTs_t (tb_2 (List.mem_of_getElem? (i := 119) rfl)) rfl
theorem wM_J2_67 : Cond.methodLink "java/lang/StringUTF16" 67 yJ2_checkIndex_2214a ∈ gTs := gTs_t (tb_2 (List.mem_of_getElem? (i := 122) rfl)) rfl
theorem wM_J2_48 : Cond.methodLink "java/lang/StringUTF16" 48 yJ2_length_9d52b ∈ gTs := gTs_t (tb_2 (List.mem_of_getElem? (i := 125) rfl)) rfl
theorem wM_J2_414 : Cond.methodLink "java/lang/StringUTF16" 414 yJ0_checkIndex_df160 ∈ gTs := gTs_t (tb_2 (List.mem_of_getElem? (i := 128) rfl)) rfl
theorem wM_J2_71 : Cond.methodLink "java/lang/StringUTF16" 71 yJ2_getChar_3b067 ∈ gTs := gTs_t (tb_2 (List.mem_of_getElem? (i := 129) rfl)) rfl
theorem wF_J2_44 : Cond.fieldLink "java/lang/StringUTF16" 44 "java/lang/StringUTF16" "$assertionsDisabled" "Z" ∈ gTs := gTs_t (tb_2 (List.mem_of_getElem? (i := 132) rfl)) rfl
theorem wF_J2_59 : Cond.fieldLink "java/lang/StringUTF16" 59 "java/lang/StringUTF16" "HI_BYTE_SHIFT" "I" ∈ gTs := gTs_t (tb_2 (List.mem_of_getElem? (i := 134) rfl)) rfl
theorem wF_J2_63 : Cond.fieldLink "java/lang/StringUTF16" 63 "java/lang/StringUTF16" "LO_BYTE_SHIFT" "I" ∈ gTs := gTs_t (tb_2 (List.mem_of_getElem? (i := 136) rfl)) rfl
theorem wM_X9_45 : Cond.methodLink "GuestStaff$Text" 45 yX9_stepToStop ∈ gTs := gTs_t (tb_2 (List.mem_of_getElem? (i := 138) rfl)) rfl
theorem wM_X9_49 : Cond.methodLink "GuestStaff$Text" 49 yX9_parseItem ∈ gTs := gTs_t (tb_2 (List.mem_of_getElem? (i := 142) rfl)) rfl
theorem wM_X9_58 : Cond.methodLink "GuestStaff$Text" 58 yX9_parseGuest ∈ gTs := gTs_t (tb_2 (List.mem_of_getElem? (i := 147) rfl)) rfl
theorem wM_X9_66 : Cond.methodLink "GuestStaff$Text" 66 yX9_stepToNumber ∈ gTs := gTs_t (tb_2 (List.mem_of_getElem? (i := 151) rfl)) rfl
theorem wM_X9_70 : Cond.methodLink "GuestStaff$Text" 70 yX9_isNumber ∈ gTs := gTs_t (tb_2 (List.mem_of_getElem? (i := 155) rfl)) rfl
theorem wM_X9_73 : Cond.methodLink "GuestStaff$Text" 73 yX1_admit ∈ gTs := gTs_t (tb_2 (List.mem_of_getElem? (i := 159) rfl)) rfl
theorem wM_X9_63 : Cond.methodLink "GuestStaff$Text" 63 yX9_parseDuty ∈ gTs := gTs_t (tb_2 (List.mem_of_getElem? (i := 161) rfl)) rfl
theorem wM_X10_118 : Cond.methodLink "GuestStaff" 118 yX1_copy ∈ gTs := gTs_t (tb_2 (List.mem_of_getElem? (i := 165) rfl)) rfl
theorem wM_X1_75 : Cond.methodLink "GuestStaff$House" 75 yX3_copy ∈ gTs := gTs_t (tb_2 (List.mem_of_getElem? (i := 169) rfl)) rfl
theorem wM_X3_20 : Cond.methodLink "GuestStaff$Notes" 20 arraycopyName ∈ gTs := gTs_t (tb_2 (List.mem_of_getElem? (i := 173) rfl)) rfl
theorem wM_L_41 : Cond.methodLink "GuestStaffLaw" 41 yX10_hour ∈ gTs := gTs_t (tb_2 (List.mem_of_getElem? (i := 175) rfl)) rfl
theorem wM_X10_122 : Cond.methodLink "GuestStaff" 122 yX1_passHour ∈ gTs := gTs_t (tb_2 (List.mem_of_getElem? (i := 179) rfl)) rfl
theorem wM_X1_106 : Cond.methodLink "GuestStaff$House" 106 yX1_contentOf ∈ gTs := gTs_t (tb_2 (List.mem_of_getElem? (i := 183) rfl)) rfl
theorem wM_X1_92 : Cond.methodLink "GuestStaff$House" 92 yX1_serverOf ∈ gTs := gTs_t (tb_2 (List.mem_of_getElem? (i := 187) rfl)) rfl
theorem wM_X1_89 : Cond.methodLink "GuestStaff$House" 89 yX1_doesServe ∈ gTs := gTs_t (tb_2 (List.mem_of_getElem? (i := 191) rfl)) rfl
theorem wM_X1_85 : Cond.methodLink "GuestStaff$House" 85 yX1_canServe ∈ gTs := gTs_t (tb_2 (List.mem_of_getElem? (i := 195) rfl)) rfl
theorem wM_X1_102 : Cond.methodLink "GuestStaff$House" 102 yX1_contentBy ∈ gTs := gTs_t (tb_2 (List.mem_of_getElem? (i := 199) rfl)) rfl
theorem wM_X1_96 : Cond.methodLink "GuestStaff$House" 96 yX4_contentBy ∈ gTs := gTs_t (tb_2 (List.mem_of_getElem? (i := 203) rfl)) rfl
theorem wA_X4_contentBy : Cond.sameMethod "GuestStaff$Plain" "GuestStaff$Plain" "contentBy" "(II)I" ∈ gTs := gTs_t (tb_2 (List.mem_of_getElem? (i := 206) rfl)) rfl
theorem wS_X0_contentBy : Cond.selects "GuestStaff$Banker" yX4_contentBy yX0_contentBy ∈ gTs := gTs_t (tb_2 (List.mem_of_getElem? (i := 207) rfl)) rfl
theorem wM_X0_7 : Cond.methodLink "GuestStaff$Banker" 7 yX4_contentBy ∈ gTs := gTs_t (tb_2 (List.mem_of_getElem? (i := 210) rfl)) rfl
theorem wS_X2_contentBy : Cond.selects "GuestStaff$Late" yX4_contentBy yX2_contentBy ∈ gTs := gTs_t (tb_2 (List.mem_of_getElem? (i := 211) rfl)) rfl
theorem wM_X2_7 : Cond.methodLink "GuestStaff$Late" 7 yX6_contentBy ∈ gTs := gTs_t (tb_2 (List.mem_of_getElem? (i := 214) rfl)) rfl
theorem wM_X6_9 : Cond.methodLink "GuestStaff$Quiet" 9 yX4_contentBy ∈ gTs := gTs_t (tb_2 (List.mem_of_getElem? (i := 217) rfl)) rfl
theorem wS_X5_contentBy : Cond.selects "GuestStaff$Polisher" yX4_contentBy yX5_contentBy ∈ gTs := gTs_t (tb_2 (List.mem_of_getElem? (i := 218) rfl)) rfl
theorem wM_X5_7 : Cond.methodLink "GuestStaff$Polisher" 7 yX0_contentBy ∈ gTs := gTs_t (tb_2 (List.mem_of_getElem? (i := 221) rfl)) rfl
theorem wS_X6_contentBy : Cond.selects "GuestStaff$Quiet" yX4_contentBy yX6_contentBy ∈ gTs := gTs_t (tb_2 (List.mem_of_getElem? (i := 222) rfl)) rfl
theorem wS_X8_contentBy : Cond.selects "GuestStaff$Shouter" yX4_contentBy yX8_contentBy ∈ gTs := gTs_t (tb_2 (List.mem_of_getElem? (i := 223) rfl)) rfl
theorem wM_X8_7 : Cond.methodLink "GuestStaff$Shouter" 7 yX4_contentBy ∈ gTs := gTs_t (tb_2 (List.mem_of_getElem? (i := 226) rfl)) rfl
theorem wM_L_45 : Cond.methodLink "GuestStaffLaw" 45 yX10_undo ∈ gTs := gTs_t (tb_2 (List.mem_of_getElem? (i := 228) rfl)) rfl
theorem wM_X10_131 : Cond.methodLink "GuestStaff" 131 yX10_refuseNo ∈ gTs := gTs_t (tb_2 (List.mem_of_getElem? (i := 232) rfl)) rfl
theorem wM_X10_134 : Cond.methodLink "GuestStaff" 134 yX1_recall ∈ gTs := gTs_t (tb_2 (List.mem_of_getElem? (i := 236) rfl)) rfl
theorem wM_L_49 : Cond.methodLink "GuestStaffLaw" 49 yX10_of ∈ gTs := gTs_t (tb_3 (List.mem_of_getElem? (i := 0) rfl)) rfl
theorem wM_X10_152 : Cond.methodLink "GuestStaff" 152 yX1_serverOf ∈ gTs := gTs_t (tb_3 (List.mem_of_getElem? (i := 4) rfl)) rfl
theorem wM_X10_155 : Cond.methodLink "GuestStaff" 155 yX1_contentOf ∈ gTs := gTs_t (tb_3 (List.mem_of_getElem? (i := 5) rfl)) rfl
theorem wM_L_53 : Cond.methodLink "GuestStaffLaw" 53 yX10_can ∈ gTs := gTs_t (tb_3 (List.mem_of_getElem? (i := 6) rfl)) rfl
theorem wM_X10_158 : Cond.methodLink "GuestStaff" 158 yX1_canServe ∈ gTs := gTs_t (tb_3 (List.mem_of_getElem? (i := 10) rfl)) rfl
theorem wM_L_57 : Cond.methodLink "GuestStaffLaw" 57 yX10_work ∈ gTs := gTs_t (tb_3 (List.mem_of_getElem? (i := 11) rfl)) rfl
theorem wM_X10_161 : Cond.methodLink "GuestStaff" 161 yX1_workFor ∈ gTs := gTs_t (tb_3 (List.mem_of_getElem? (i := 15) rfl)) rfl
theorem wM_X1_103 : Cond.methodLink "GuestStaff$House" 103 yX4_workOn ∈ gTs := gTs_t (tb_3 (List.mem_of_getElem? (i := 19) rfl)) rfl
theorem wA_X4_workOn : Cond.sameMethod "GuestStaff$Plain" "GuestStaff$Plain" "workOn" "(I)I" ∈ gTs := gTs_t (tb_3 (List.mem_of_getElem? (i := 22) rfl)) rfl
theorem wS_X0_workOn : Cond.selects "GuestStaff$Banker" yX4_workOn yX0_workOn ∈ gTs := gTs_t (tb_3 (List.mem_of_getElem? (i := 23) rfl)) rfl
theorem wM_X0_11 : Cond.methodLink "GuestStaff$Banker" 11 yX4_workOn ∈ gTs := gTs_t (tb_3 (List.mem_of_getElem? (i := 26) rfl)) rfl
theorem wS_X2_workOn : Cond.selects "GuestStaff$Late" yX4_workOn yX6_workOn ∈ gTs := gTs_t (tb_3 (List.mem_of_getElem? (i := 27) rfl)) rfl
theorem wM_X6_13 : Cond.methodLink "GuestStaff$Quiet" 13 yX4_workOn ∈ gTs := gTs_t (tb_3 (List.mem_of_getElem? (i := 30) rfl)) rfl
theorem wS_X5_workOn : Cond.selects "GuestStaff$Polisher" yX4_workOn yX5_workOn ∈ gTs := gTs_t (tb_3 (List.mem_of_getElem? (i := 31) rfl)) rfl
theorem wM_X5_11 : Cond.methodLink "GuestStaff$Polisher" 11 yX0_workOn ∈ gTs := gTs_t (tb_3 (List.mem_of_getElem? (i := 34) rfl)) rfl
theorem wS_X6_workOn : Cond.selects "GuestStaff$Quiet" yX4_workOn yX6_workOn ∈ gTs := gTs_t (tb_3 (List.mem_of_getElem? (i := 35) rfl)) rfl
theorem wS_X8_workOn : Cond.selects "GuestStaff$Shouter" yX4_workOn yX4_workOn ∈ gTs := gTs_t (tb_3 (List.mem_of_getElem? (i := 36) rfl)) rfl
theorem wM_L_61 : Cond.methodLink "GuestStaffLaw" 61 yX10_all ∈ gTs := gTs_t (tb_3 (List.mem_of_getElem? (i := 38) rfl)) rfl
theorem wM_X10_165 : Cond.methodLink "GuestStaff" 165 yX7_gather ∈ gTs := gTs_t (tb_3 (List.mem_of_getElem? (i := 42) rfl)) rfl
theorem wM_X7_35 : Cond.methodLink "GuestStaff$Rows" 35 yX1_canServe ∈ gTs := gTs_t (tb_3 (List.mem_of_getElem? (i := 46) rfl)) rfl
theorem wM_X7_39 : Cond.methodLink "GuestStaff$Rows" 39 yX7_costOf ∈ gTs := gTs_t (tb_3 (List.mem_of_getElem? (i := 47) rfl)) rfl
theorem wM_X7_46 : Cond.methodLink "GuestStaff$Rows" 46 yX1_workFor ∈ gTs := gTs_t (tb_3 (List.mem_of_getElem? (i := 50) rfl)) rfl
theorem wM_X7_50 : Cond.methodLink "GuestStaff$Rows" 50 yX1_contentBy ∈ gTs := gTs_t (tb_3 (List.mem_of_getElem? (i := 51) rfl)) rfl
theorem wM_X10_169 : Cond.methodLink "GuestStaff" 169 yX7_ways ∈ gTs := gTs_t (tb_3 (List.mem_of_getElem? (i := 52) rfl)) rfl
theorem wM_X7_59 : Cond.methodLink "GuestStaff$Rows" 59 yX7_isOpen ∈ gTs := gTs_t (tb_3 (List.mem_of_getElem? (i := 56) rfl)) rfl
theorem wM_X7_53 : Cond.methodLink "GuestStaff$Rows" 53 yJ6_bitCount_0f7a4 ∈ gTs := gTs_t (tb_3 (List.mem_of_getElem? (i := 60) rfl)) rfl
theorem wC_J6_265 : Cond.constant "java/lang/Integer" 265 1431655765 ∈ gTs := gTs_t (tb_3 (List.mem_of_getElem? (i := 63) rfl)) rfl
theorem wC_J6_266 : Cond.constant "java/lang/Integer" 266 858993459 ∈ gTs := gTs_t (tb_3 (List.mem_of_getElem? (i := 64) rfl)) rfl
theorem wC_J6_267 : Cond.constant "java/lang/Integer" 267 252645135 ∈ gTs := gTs_t (tb_3 (List.mem_of_getElem? (i := 65) rfl)) rfl
theorem wM_X10_172 : Cond.methodLink "GuestStaff" 172 yX7_dutyInBest ∈ gTs := gTs_t (tb_3 (List.mem_of_getElem? (i := 66) rfl)) rfl
theorem wM_X7_71 : Cond.methodLink "GuestStaff$Rows" 71 yX7_leastCost ∈ gTs := gTs_t (tb_3 (List.mem_of_getElem? (i := 70) rfl)) rfl
theorem wC_X7_62 : Cond.constant "GuestStaff$Rows" 62 1000000 ∈ gTs := gTs_t (tb_3 (List.mem_of_getElem? (i := 74) rfl)) rfl
theorem wM_X7_63 : Cond.methodLink "GuestStaff$Rows" 63 yX7_costThrough ∈ gTs := gTs_t (tb_3 (List.mem_of_getElem? (i := 75) rfl)) rfl
theorem wM_X7_66 : Cond.methodLink "GuestStaff$Rows" 66 Lib.Math.min.name ∈ gTs := gTs_t (tb_3 (List.mem_of_getElem? (i := 79) rfl)) rfl
theorem wM_X7_75 : Cond.methodLink "GuestStaff$Rows" 75 yX7_firstBest ∈ gTs := gTs_t (tb_3 (List.mem_of_getElem? (i := 80) rfl)) rfl
theorem wM_L_65 : Cond.methodLink "GuestStaffLaw" 65 yX10_least ∈ gTs := gTs_t (tb_3 (List.mem_of_getElem? (i := 84) rfl)) rfl
theorem wM_X10_175 : Cond.methodLink "GuestStaff" 175 yX7_leastCost ∈ gTs := gTs_t (tb_3 (List.mem_of_getElem? (i := 88) rfl)) rfl
theorem wC_X10_178 : Cond.constant "GuestStaff" 178 1000000 ∈ gTs := gTs_t (tb_3 (List.mem_of_getElem? (i := 89) rfl)) rfl
theorem wM_L_69 : Cond.methodLink "GuestStaffLaw" 69 yX10_most ∈ gTs := gTs_t (tb_3 (List.mem_of_getElem? (i := 90) rfl)) rfl
theorem wM_L_73 : Cond.methodLink "GuestStaffLaw" 73 yX10_lone ∈ gTs := gTs_t (tb_3 (List.mem_of_getElem? (i := 94) rfl)) rfl
theorem wM_X10_179 : Cond.methodLink "GuestStaff" 179 yX1_isServable ∈ gTs := gTs_t (tb_3 (List.mem_of_getElem? (i := 98) rfl)) rfl
theorem wM_L_77 : Cond.methodLink "GuestStaffLaw" 77 yX10_rings ∈ gTs := gTs_t (tb_3 (List.mem_of_getElem? (i := 102) rfl)) rfl
theorem wM_X10_182 : Cond.methodLink "GuestStaff" 182 yX1_ringOf ∈ gTs := gTs_t (tb_3 (List.mem_of_getElem? (i := 106) rfl)) rfl
theorem wM_L_81 : Cond.methodLink "GuestStaffLaw" 81 yX10_smallest ∈ gTs := gTs_t (tb_3 (List.mem_of_getElem? (i := 110) rfl)) rfl
theorem wM_X10_185 : Cond.methodLink "GuestStaff" 185 yJ6_bitCount_0f7a4 ∈ gTs := gTs_t (tb_3 (List.mem_of_getElem? (i := 114) rfl)) rfl
theorem wM_X10_190 : Cond.methodLink "GuestStaff" 190 yX10_closes ∈ gTs := gTs_t (tb_3 (List.mem_of_getElem? (i := 115) rfl)) rfl
theorem wM_L_85 : Cond.methodLink "GuestStaffLaw" 85 yX10_swap ∈ gTs := gTs_t (tb_3 (List.mem_of_getElem? (i := 119) rfl)) rfl
theorem wM_X10_194 : Cond.methodLink "GuestStaff" 194 yX1_wouldSwap ∈ gTs := gTs_t (tb_3 (List.mem_of_getElem? (i := 123) rfl)) rfl
theorem wM_X1_114 : Cond.methodLink "GuestStaff$House" 114 yX1_wouldRather ∈ gTs := gTs_t (tb_3 (List.mem_of_getElem? (i := 127) rfl)) rfl
theorem wM_L_89 : Cond.methodLink "GuestStaffLaw" 89 yX10_takeIn ∈ gTs := gTs_t (tb_3 (List.mem_of_getElem? (i := 131) rfl)) rfl
theorem wM_L_93 : Cond.methodLink "GuestStaffLaw" 93 yX10_note ∈ gTs := gTs_t (tb_3 (List.mem_of_getElem? (i := 135) rfl)) rfl
theorem wM_X10_204 : Cond.methodLink "GuestStaff" 204 yX3_add ∈ gTs := gTs_t (tb_3 (List.mem_of_getElem? (i := 139) rfl)) rfl
theorem wM_L_98 : Cond.methodLink "GuestStaffLaw" 98 yX10_forget ∈ gTs := gTs_t (tb_3 (List.mem_of_getElem? (i := 143) rfl)) rfl
theorem wM_L_102 : Cond.methodLink "GuestStaffLaw" 102 yX10_wants ∈ gTs := gTs_t (tb_3 (List.mem_of_getElem? (i := 147) rfl)) rfl
theorem wM_X10_208 : Cond.methodLink "GuestStaff" 208 yX1_wantsThatFit ∈ gTs := gTs_t (tb_3 (List.mem_of_getElem? (i := 151) rfl)) rfl
theorem wM_X1_118 : Cond.methodLink "GuestStaff$House" 118 yX3_wantsThatFit ∈ gTs := gTs_t (tb_3 (List.mem_of_getElem? (i := 155) rfl)) rfl
theorem wM_X3_26 : Cond.methodLink "GuestStaff$Notes" 26 yX3_allFit ∈ gTs := gTs_t (tb_3 (List.mem_of_getElem? (i := 159) rfl)) rfl
theorem wM_X3_30 : Cond.methodLink "GuestStaff$Notes" 30 yX4_contentBy ∈ gTs := gTs_t (tb_3 (List.mem_of_getElem? (i := 163) rfl)) rfl
theorem wM_L_106 : Cond.methodLink "GuestStaffLaw" 106 yX10_is ∈ gTs := gTs_t (tb_3 (List.mem_of_getElem? (i := 164) rfl)) rfl
theorem wM_L_110 : Cond.methodLink "GuestStaffLaw" 110 yX10_next ∈ gTs := gTs_t (tb_3 (List.mem_of_getElem? (i := 168) rfl)) rfl
theorem wM_X10_211 : Cond.methodLink "GuestStaff" 211 Lib.Math.max.name ∈ gTs := gTs_t (tb_3 (List.mem_of_getElem? (i := 172) rfl)) rfl
theorem wM_L_114 : Cond.methodLink "GuestStaffLaw" 114 yX10_tips ∈ gTs := gTs_t (tb_3 (List.mem_of_getElem? (i := 175) rfl)) rfl
theorem wM_L_118 : Cond.methodLink "GuestStaffLaw" 118 yX10_moods ∈ gTs := gTs_t (tb_3 (List.mem_of_getElem? (i := 179) rfl)) rfl
theorem wM_X10_216 : Cond.methodLink "GuestStaff" 216 yX1_serversOf ∈ gTs := gTs_t (tb_3 (List.mem_of_getElem? (i := 183) rfl)) rfl
theorem wM_X10_219 : Cond.methodLink "GuestStaff" 219 yX10_oddsOfNone ∈ gTs := gTs_t (tb_3 (List.mem_of_getElem? (i := 187) rfl)) rfl
theorem wM_X10_222 : Cond.methodLink "GuestStaff" 222 yX10_keepFraction ∈ gTs := gTs_t (tb_3 (List.mem_of_getElem? (i := 190) rfl)) rfl
theorem wM_L_122 : Cond.methodLink "GuestStaffLaw" 122 yX10_hours ∈ gTs := gTs_t (tb_3 (List.mem_of_getElem? (i := 194) rfl)) rfl
theorem wC_X10_226 : Cond.constantLong "GuestStaff" 226 1103515245 ∈ gTs := gTs_t (tb_3 (List.mem_of_getElem? (i := 198) rfl)) rfl
theorem wC_X10_228 : Cond.constantLong "GuestStaff" 228 12345 ∈ gTs := gTs_t (tb_3 (List.mem_of_getElem? (i := 199) rfl)) rfl
theorem wC_X10_230 : Cond.constantLong "GuestStaff" 230 2147483648 ∈ gTs := gTs_t (tb_3 (List.mem_of_getElem? (i := 200) rfl)) rfl
theorem wC_X10_232 : Cond.constantLong "GuestStaff" 232 65536 ∈ gTs := gTs_t (tb_3 (List.mem_of_getElem? (i := 201) rfl)) rfl
theorem wC_X10_234 : Cond.constantLong "GuestStaff" 234 8 ∈ gTs := gTs_t (tb_3 (List.mem_of_getElem? (i := 202) rfl)) rfl
theorem wM_L_126 : Cond.methodLink "GuestStaffLaw" 126 yX10_part ∈ gTs := gTs_t (tb_3 (List.mem_of_getElem? (i := 203) rfl)) rfl
theorem wM_L_131 : Cond.methodLink "GuestStaffLaw" 131 yX10_image ∈ gTs := gTs_t (tb_3 (List.mem_of_getElem? (i := 207) rfl)) rfl
theorem wM_L_135 : Cond.methodLink "GuestStaffLaw" 135 yX10_from ∈ gTs := gTs_t (tb_3 (List.mem_of_getElem? (i := 211) rfl)) rfl
theorem wM_L_139 : Cond.methodLink "GuestStaffLaw" 139 yX10_status ∈ gTs := gTs_t (tb_3 (List.mem_of_getElem? (i := 215) rfl)) rfl
theorem wM_L_143 : Cond.methodLink "GuestStaffLaw" 143 yX10_count ∈ gTs := gTs_t (tb_3 (List.mem_of_getElem? (i := 219) rfl)) rfl
theorem wM_X10_236 : Cond.methodLink "GuestStaff" 236 yX10_countOf ∈ gTs := gTs_t (tb_3 (List.mem_of_getElem? (i := 223) rfl)) rfl
theorem wM_X10_250 : Cond.methodLink "GuestStaff" 250 yX1_servedCount ∈ gTs := gTs_t (tb_3 (List.mem_of_getElem? (i := 227) rfl)) rfl
theorem wM_L_147 : Cond.methodLink "GuestStaffLaw" 147 yX10_digest ∈ gTs := gTs_t (tb_3 (List.mem_of_getElem? (i := 231) rfl)) rfl
theorem wC_X10_239 : Cond.constantLong "GuestStaff" 239 1097 ∈ gTs := gTs_t (tb_3 (List.mem_of_getElem? (i := 235) rfl)) rfl
theorem wC_X10_241 : Cond.constantLong "GuestStaff" 241 31 ∈ gTs := gTs_t (tb_3 (List.mem_of_getElem? (i := 236) rfl)) rfl
theorem wM_X10_243 : Cond.methodLink "GuestStaff" 243 yX1_addGuestsTo ∈ gTs := gTs_t (tb_3 (List.mem_of_getElem? (i := 237) rfl)) rfl
theorem wC_X1_122 : Cond.constantLong "GuestStaff$House" 122 31 ∈ gTs := gTs_t (tb_4 (List.mem_of_getElem? (i := 1) rfl)) rfl
theorem wM_X10_247 : Cond.methodLink "GuestStaff" 247 yX3_addTo ∈ gTs := gTs_t (tb_4 (List.mem_of_getElem? (i := 2) rfl)) rfl
theorem wC_X3_36 : Cond.constantLong "GuestStaff$Notes" 36 31 ∈ gTs := gTs_t (tb_4 (List.mem_of_getElem? (i := 6) rfl)) rfl
theorem wM_L_12 : Cond.methodLink "GuestStaffLaw" 12 yX11_init ∈ gTs := gTs_t (tb_4 (List.mem_of_getElem? (i := 9) rfl)) rfl
theorem wM_X11_1 : Cond.methodLink "GuestStaffModel" 1 objectInit ∈ gTs := gTs_t (tb_4 (List.mem_of_getElem? (i := 12) rfl)) rfl
theorem wF_X11_7 : Cond.fieldLink "GuestStaffModel" 7 "GuestStaffModel" "st" "[I" ∈ gTs := gTs_t (tb_4 (List.mem_of_getElem? (i := 13) rfl)) rfl
theorem wF_X11_250 : Cond.fieldLink "GuestStaffModel" 250 "GuestStaffModel" "above" "J" ∈ gTs := gTs_t (tb_4 (List.mem_of_getElem? (i := 14) rfl)) rfl
theorem wF_X11_13 : Cond.fieldLink "GuestStaffModel" 13 "GuestStaffModel" "below" "J" ∈ gTs := gTs_t (tb_4 (List.mem_of_getElem? (i := 15) rfl)) rfl
theorem wF_X11_17 : Cond.fieldLink "GuestStaffModel" 17 "GuestStaffModel" "refused" "[I" ∈ gTs := gTs_t (tb_4 (List.mem_of_getElem? (i := 16) rfl)) rfl
theorem wF_X11_20 : Cond.fieldLink "GuestStaffModel" 20 "GuestStaffModel" "text" "[I" ∈ gTs := gTs_t (tb_4 (List.mem_of_getElem? (i := 17) rfl)) rfl
theorem wF_X11_97 : Cond.fieldLink "GuestStaffModel" 97 "GuestStaffModel" "bytes" "I" ∈ gTs := gTs_t (tb_4 (List.mem_of_getElem? (i := 18) rfl)) rfl
theorem wF_X11_100 : Cond.fieldLink "GuestStaffModel" 100 "GuestStaffModel" "place" "I" ∈ gTs := gTs_t (tb_4 (List.mem_of_getElem? (i := 19) rfl)) rfl
theorem wF_X11_113 : Cond.fieldLink "GuestStaffModel" 113 "GuestStaffModel" "token" "I" ∈ gTs := gTs_t (tb_4 (List.mem_of_getElem? (i := 20) rfl)) rfl
theorem wF_X11_110 : Cond.fieldLink "GuestStaffModel" 110 "GuestStaffModel" "value" "I" ∈ gTs := gTs_t (tb_4 (List.mem_of_getElem? (i := 21) rfl)) rfl
theorem wF_X11_107 : Cond.fieldLink "GuestStaffModel" 107 "GuestStaffModel" "begins" "I" ∈ gTs := gTs_t (tb_4 (List.mem_of_getElem? (i := 22) rfl)) rfl
theorem wF_X11_23 : Cond.fieldLink "GuestStaffModel" 23 "GuestStaffModel" "row" "[I" ∈ gTs := gTs_t (tb_4 (List.mem_of_getElem? (i := 23) rfl)) rfl
theorem wF_X11_127 : Cond.fieldLink "GuestStaffModel" 127 "GuestStaffModel" "services" "I" ∈ gTs := gTs_t (tb_4 (List.mem_of_getElem? (i := 24) rfl)) rfl
theorem wF_X11_134 : Cond.fieldLink "GuestStaffModel" 134 "GuestStaffModel" "toldGuests" "I" ∈ gTs := gTs_t (tb_4 (List.mem_of_getElem? (i := 25) rfl)) rfl
theorem wF_X11_26 : Cond.fieldLink "GuestStaffModel" 26 "GuestStaffModel" "ahead" "[I" ∈ gTs := gTs_t (tb_4 (List.mem_of_getElem? (i := 26) rfl)) rfl
theorem wF_X11_61 : Cond.fieldLink "GuestStaffModel" 61 "GuestStaffModel" "undoMany" "I" ∈ gTs := gTs_t (tb_4 (List.mem_of_getElem? (i := 27) rfl)) rfl
theorem wF_X11_29 : Cond.fieldLink "GuestStaffModel" 29 "GuestStaffModel" "who" "[I" ∈ gTs := gTs_t (tb_4 (List.mem_of_getElem? (i := 28) rfl)) rfl
theorem wF_X11_183 : Cond.fieldLink "GuestStaffModel" 183 "GuestStaffModel" "many" "I" ∈ gTs := gTs_t (tb_4 (List.mem_of_getElem? (i := 29) rfl)) rfl
theorem wF_X11_32 : Cond.fieldLink "GuestStaffModel" 32 "GuestStaffModel" "duties" "[I" ∈ gTs := gTs_t (tb_4 (List.mem_of_getElem? (i := 30) rfl)) rfl
theorem wF_X11_35 : Cond.fieldLink "GuestStaffModel" 35 "GuestStaffModel" "firstRow" "[I" ∈ gTs := gTs_t (tb_4 (List.mem_of_getElem? (i := 31) rfl)) rfl
theorem wF_X11_196 : Cond.fieldLink "GuestStaffModel" 196 "GuestStaffModel" "rowMany" "I" ∈ gTs := gTs_t (tb_4 (List.mem_of_getElem? (i := 32) rfl)) rfl
theorem wF_X11_199 : Cond.fieldLink "GuestStaffModel" 199 "GuestStaffModel" "leastWork" "I" ∈ gTs := gTs_t (tb_4 (List.mem_of_getElem? (i := 33) rfl)) rfl
theorem wF_X11_202 : Cond.fieldLink "GuestStaffModel" 202 "GuestStaffModel" "mostContent" "I" ∈ gTs := gTs_t (tb_4 (List.mem_of_getElem? (i := 34) rfl)) rfl
theorem wF_X11_38 : Cond.fieldLink "GuestStaffModel" 38 "GuestStaffModel" "bestRow" "[I" ∈ gTs := gTs_t (tb_4 (List.mem_of_getElem? (i := 35) rfl)) rfl
theorem wF_X11_41 : Cond.fieldLink "GuestStaffModel" 41 "GuestStaffModel" "aside" "[I" ∈ gTs := gTs_t (tb_4 (List.mem_of_getElem? (i := 36) rfl)) rfl
theorem wF_X11_44 : Cond.fieldLink "GuestStaffModel" 44 "GuestStaffModel" "isKept" "[Z" ∈ gTs := gTs_t (tb_4 (List.mem_of_getElem? (i := 37) rfl)) rfl
theorem wF_X11_48 : Cond.fieldLink "GuestStaffModel" 48 "GuestStaffModel" "kept" "[I" ∈ gTs := gTs_t (tb_4 (List.mem_of_getElem? (i := 38) rfl)) rfl
theorem wF_X11_51 : Cond.fieldLink "GuestStaffModel" 51 "GuestStaffModel" "keptAhead" "[I" ∈ gTs := gTs_t (tb_4 (List.mem_of_getElem? (i := 39) rfl)) rfl
theorem wF_X11_54 : Cond.fieldLink "GuestStaffModel" 54 "GuestStaffModel" "keptMany" "[I" ∈ gTs := gTs_t (tb_4 (List.mem_of_getElem? (i := 40) rfl)) rfl
theorem wU_X11 : Cond.superclass "GuestStaffModel" "java/lang/Object" ∈ gTs := gTs_t (tb_4 (List.mem_of_getElem? (i := 97) rfl)) rfl
theorem wM_L_17 : Cond.methodLink "GuestStaffLaw" 17 yX11_house ∈ gTs := gTs_t (tb_4 (List.mem_of_getElem? (i := 98) rfl)) rfl
theorem wM_X11_65 : Cond.methodLink "GuestStaffModel" 65 yX11_anew ∈ gTs := gTs_t (tb_4 (List.mem_of_getElem? (i := 102) rfl)) rfl
theorem wM_L_22 : Cond.methodLink "GuestStaffLaw" 22 yX11_guest ∈ gTs := gTs_t (tb_4 (List.mem_of_getElem? (i := 106) rfl)) rfl
theorem wC_X11_68 : Cond.constantLong "GuestStaffModel" 68 5 ∈ gTs := gTs_t (tb_4 (List.mem_of_getElem? (i := 110) rfl)) rfl
theorem wM_X11_57 : Cond.methodLink "GuestStaffModel" 57 yX11_in ∈ gTs := gTs_t (tb_4 (List.mem_of_getElem? (i := 111) rfl)) rfl
theorem wC_X11_70 : Cond.constantLong "GuestStaffModel" 70 7 ∈ gTs := gTs_t (tb_4 (List.mem_of_getElem? (i := 114) rfl)) rfl
theorem wC_X11_72 : Cond.constantLong "GuestStaffModel" 72 255 ∈ gTs := gTs_t (tb_4 (List.mem_of_getElem? (i := 115) rfl)) rfl
theorem wM_X11_74 : Cond.methodLink "GuestStaffModel" 74 yX11_bad ∈ gTs := gTs_t (tb_4 (List.mem_of_getElem? (i := 116) rfl)) rfl
theorem wM_X11_78 : Cond.methodLink "GuestStaffModel" 78 yX11_full ∈ gTs := gTs_t (tb_4 (List.mem_of_getElem? (i := 120) rfl)) rfl
theorem wM_X11_81 : Cond.methodLink "GuestStaffModel" 81 yX11_add ∈ gTs := gTs_t (tb_4 (List.mem_of_getElem? (i := 124) rfl)) rfl
theorem wM_L_27 : Cond.methodLink "GuestStaffLaw" 27 yX11_duty ∈ gTs := gTs_t (tb_4 (List.mem_of_getElem? (i := 128) rfl)) rfl
theorem wM_X11_85 : Cond.methodLink "GuestStaffModel" 85 yX11_isGuest ∈ gTs := gTs_t (tb_4 (List.mem_of_getElem? (i := 132) rfl)) rfl
theorem wM_X11_89 : Cond.methodLink "GuestStaffModel" 89 yX11_badFar ∈ gTs := gTs_t (tb_4 (List.mem_of_getElem? (i := 136) rfl)) rfl
theorem wM_X11_92 : Cond.methodLink "GuestStaffModel" 92 yX11_noteStep ∈ gTs := gTs_t (tb_4 (List.mem_of_getElem? (i := 140) rfl)) rfl
theorem wM_L_32 : Cond.methodLink "GuestStaffLaw" 32 yX11_type ∈ gTs := gTs_t (tb_4 (List.mem_of_getElem? (i := 144) rfl)) rfl
theorem wC_X11_95 : Cond.constantLong "GuestStaffModel" 95 127 ∈ gTs := gTs_t (tb_4 (List.mem_of_getElem? (i := 148) rfl)) rfl
theorem wM_L_36 : Cond.methodLink "GuestStaffLaw" 36 yX11_clear ∈ gTs := gTs_t (tb_4 (List.mem_of_getElem? (i := 149) rfl)) rfl
theorem wM_L_40 : Cond.methodLink "GuestStaffLaw" 40 yX11_read ∈ gTs := gTs_t (tb_4 (List.mem_of_getElem? (i := 153) rfl)) rfl
theorem wM_X11_149 : Cond.methodLink "GuestStaffModel" 149 yX11_readText ∈ gTs := gTs_t (tb_4 (List.mem_of_getElem? (i := 157) rfl)) rfl
theorem wM_X11_124 : Cond.methodLink "GuestStaffModel" 124 yX11_nextToken ∈ gTs := gTs_t (tb_4 (List.mem_of_getElem? (i := 161) rfl)) rfl
theorem wM_X11_103 : Cond.methodLink "GuestStaffModel" 103 yX11_byteAt ∈ gTs := gTs_t (tb_4 (List.mem_of_getElem? (i := 165) rfl)) rfl
theorem wC_X11_116 : Cond.constantLong "GuestStaffModel" 116 97 ∈ gTs := gTs_t (tb_4 (List.mem_of_getElem? (i := 169) rfl)) rfl
theorem wC_X11_118 : Cond.constantLong "GuestStaffModel" 118 122 ∈ gTs := gTs_t (tb_4 (List.mem_of_getElem? (i := 170) rfl)) rfl
theorem wC_X11_120 : Cond.constantLong "GuestStaffModel" 120 48 ∈ gTs := gTs_t (tb_4 (List.mem_of_getElem? (i := 171) rfl)) rfl
theorem wC_X11_122 : Cond.constantLong "GuestStaffModel" 122 57 ∈ gTs := gTs_t (tb_4 (List.mem_of_getElem? (i := 172) rfl)) rfl
theorem wM_X11_145 : Cond.methodLink "GuestStaffModel" 145 yX11_readItem ∈ gTs := gTs_t (tb_4 (List.mem_of_getElem? (i := 173) rfl)) rfl
theorem wM_X11_130 : Cond.methodLink "GuestStaffModel" 130 yX11_isWord ∈ gTs := gTs_t (tb_4 (List.mem_of_getElem? (i := 177) rfl)) rfl
theorem wM_X11_137 : Cond.methodLink "GuestStaffModel" 137 yX11_reads ∈ gTs := gTs_t (tb_4 (List.mem_of_getElem? (i := 181) rfl)) rfl
theorem wM_X11_141 : Cond.methodLink "GuestStaffModel" 141 yX11_readServices ∈ gTs := gTs_t (tb_4 (List.mem_of_getElem? (i := 185) rfl)) rfl
theorem wM_L_44 : Cond.methodLink "GuestStaffLaw" 44 yX11_hour ∈ gTs := gTs_t (tb_4 (List.mem_of_getElem? (i := 189) rfl)) rfl
theorem wC_X11_170 : Cond.constantLong "GuestStaffModel" 170 60 ∈ gTs := gTs_t (tb_4 (List.mem_of_getElem? (i := 193) rfl)) rfl
theorem wM_X11_172 : Cond.methodLink "GuestStaffModel" 172 yX11_oneHour ∈ gTs := gTs_t (tb_4 (List.mem_of_getElem? (i := 194) rfl)) rfl
theorem wM_X11_163 : Cond.methodLink "GuestStaffModel" 163 yX11_serverOf ∈ gTs := gTs_t (tb_4 (List.mem_of_getElem? (i := 198) rfl)) rfl
theorem wM_X11_156 : Cond.methodLink "GuestStaffModel" 156 yX11_canServe ∈ gTs := gTs_t (tb_4 (List.mem_of_getElem? (i := 202) rfl)) rfl
theorem wM_X11_153 : Cond.methodLink "GuestStaffModel" 153 yX11_has ∈ gTs := gTs_t (tb_4 (List.mem_of_getElem? (i := 206) rfl)) rfl
theorem wM_X11_166 : Cond.methodLink "GuestStaffModel" 166 yX11_contentOf ∈ gTs := gTs_t (tb_4 (List.mem_of_getElem? (i := 209) rfl)) rfl
theorem wM_X11_159 : Cond.methodLink "GuestStaffModel" 159 yX11_contentBy ∈ gTs := gTs_t (tb_4 (List.mem_of_getElem? (i := 213) rfl)) rfl
theorem wM_L_48 : Cond.methodLink "GuestStaffLaw" 48 yX11_undo ∈ gTs := gTs_t (tb_4 (List.mem_of_getElem? (i := 216) rfl)) rfl
theorem wM_X11_175 : Cond.methodLink "GuestStaffModel" 175 yX11_no ∈ gTs := gTs_t (tb_4 (List.mem_of_getElem? (i := 220) rfl)) rfl
theorem wM_L_52 : Cond.methodLink "GuestStaffLaw" 52 yX11_of ∈ gTs := gTs_t (tb_4 (List.mem_of_getElem? (i := 224) rfl)) rfl
theorem wC_X11_178 : Cond.constantLong "GuestStaffModel" 178 6 ∈ gTs := gTs_t (tb_4 (List.mem_of_getElem? (i := 228) rfl)) rfl
theorem wM_L_56 : Cond.methodLink "GuestStaffLaw" 56 yX11_can ∈ gTs := gTs_t (tb_4 (List.mem_of_getElem? (i := 229) rfl)) rfl
theorem wM_L_60 : Cond.methodLink "GuestStaffLaw" 60 yX11_work ∈ gTs := gTs_t (tb_4 (List.mem_of_getElem? (i := 233) rfl)) rfl
theorem wM_X11_180 : Cond.methodLink "GuestStaffModel" 180 yX11_workBy ∈ gTs := gTs_t (tb_4 (List.mem_of_getElem? (i := 237) rfl)) rfl
theorem wM_L_64 : Cond.methodLink "GuestStaffLaw" 64 yX11_all ∈ gTs := gTs_t (tb_5 (List.mem_of_getElem? (i := 1) rfl)) rfl
theorem wM_X11_214 : Cond.methodLink "GuestStaffModel" 214 yX11_isOne ∈ gTs := gTs_t (tb_5 (List.mem_of_getElem? (i := 5) rfl)) rfl
theorem wM_X11_217 : Cond.methodLink "GuestStaffModel" 217 yX11_findRows ∈ gTs := gTs_t (tb_5 (List.mem_of_getElem? (i := 9) rfl)) rfl
theorem wM_X11_189 : Cond.methodLink "GuestStaffModel" 189 yX11_everybody ∈ gTs := gTs_t (tb_5 (List.mem_of_getElem? (i := 13) rfl)) rfl
theorem wM_X11_192 : Cond.methodLink "GuestStaffModel" 192 yX11_takeSet ∈ gTs := gTs_t (tb_5 (List.mem_of_getElem? (i := 17) rfl)) rfl
theorem wM_X11_186 : Cond.methodLink "GuestStaffModel" 186 yX11_factorial ∈ gTs := gTs_t (tb_5 (List.mem_of_getElem? (i := 21) rfl)) rfl
theorem wM_X11_205 : Cond.methodLink "GuestStaffModel" 205 yX11_isRow ∈ gTs := gTs_t (tb_5 (List.mem_of_getElem? (i := 24) rfl)) rfl
theorem wM_X11_208 : Cond.methodLink "GuestStaffModel" 208 yX11_rowWork ∈ gTs := gTs_t (tb_5 (List.mem_of_getElem? (i := 28) rfl)) rfl
theorem wM_X11_211 : Cond.methodLink "GuestStaffModel" 211 yX11_rowContent ∈ gTs := gTs_t (tb_5 (List.mem_of_getElem? (i := 32) rfl)) rfl
theorem wM_L_68 : Cond.methodLink "GuestStaffLaw" 68 yX11_least ∈ gTs := gTs_t (tb_5 (List.mem_of_getElem? (i := 36) rfl)) rfl
theorem wM_L_72 : Cond.methodLink "GuestStaffLaw" 72 yX11_most ∈ gTs := gTs_t (tb_5 (List.mem_of_getElem? (i := 40) rfl)) rfl
theorem wM_L_76 : Cond.methodLink "GuestStaffLaw" 76 yX11_lone ∈ gTs := gTs_t (tb_5 (List.mem_of_getElem? (i := 44) rfl)) rfl
theorem wM_L_80 : Cond.methodLink "GuestStaffLaw" 80 yX11_rings ∈ gTs := gTs_t (tb_5 (List.mem_of_getElem? (i := 48) rfl)) rfl
theorem wM_X11_220 : Cond.methodLink "GuestStaffModel" 220 yX11_ringOf ∈ gTs := gTs_t (tb_5 (List.mem_of_getElem? (i := 52) rfl)) rfl
theorem wM_L_84 : Cond.methodLink "GuestStaffLaw" 84 yX11_smallest ∈ gTs := gTs_t (tb_5 (List.mem_of_getElem? (i := 56) rfl)) rfl
theorem wM_X11_223 : Cond.methodLink "GuestStaffModel" 223 yX11_ones ∈ gTs := gTs_t (tb_5 (List.mem_of_getElem? (i := 60) rfl)) rfl
theorem wM_X11_226 : Cond.methodLink "GuestStaffModel" 226 yX11_closes ∈ gTs := gTs_t (tb_5 (List.mem_of_getElem? (i := 63) rfl)) rfl
theorem wM_L_88 : Cond.methodLink "GuestStaffLaw" 88 yX11_swap ∈ gTs := gTs_t (tb_5 (List.mem_of_getElem? (i := 67) rfl)) rfl
theorem wM_X11_229 : Cond.methodLink "GuestStaffModel" 229 yX11_gains ∈ gTs := gTs_t (tb_5 (List.mem_of_getElem? (i := 71) rfl)) rfl
theorem wM_L_92 : Cond.methodLink "GuestStaffLaw" 92 yX11_takeIn ∈ gTs := gTs_t (tb_5 (List.mem_of_getElem? (i := 75) rfl)) rfl
theorem wM_L_97 : Cond.methodLink "GuestStaffLaw" 97 yX11_note ∈ gTs := gTs_t (tb_5 (List.mem_of_getElem? (i := 79) rfl)) rfl
theorem wC_X11_232 : Cond.constantLong "GuestStaffModel" 232 99 ∈ gTs := gTs_t (tb_5 (List.mem_of_getElem? (i := 83) rfl)) rfl
theorem wC_X11_234 : Cond.constantLong "GuestStaffModel" 234 30 ∈ gTs := gTs_t (tb_5 (List.mem_of_getElem? (i := 84) rfl)) rfl
theorem wM_L_101 : Cond.methodLink "GuestStaffLaw" 101 yX11_forget ∈ gTs := gTs_t (tb_5 (List.mem_of_getElem? (i := 85) rfl)) rfl
theorem wM_L_105 : Cond.methodLink "GuestStaffLaw" 105 yX11_wants ∈ gTs := gTs_t (tb_5 (List.mem_of_getElem? (i := 89) rfl)) rfl
theorem wM_X11_236 : Cond.methodLink "GuestStaffModel" 236 yX11_wantsBy ∈ gTs := gTs_t (tb_5 (List.mem_of_getElem? (i := 93) rfl)) rfl
theorem wM_L_109 : Cond.methodLink "GuestStaffLaw" 109 yX11_is ∈ gTs := gTs_t (tb_5 (List.mem_of_getElem? (i := 97) rfl)) rfl
theorem wM_L_113 : Cond.methodLink "GuestStaffLaw" 113 yX11_next ∈ gTs := gTs_t (tb_5 (List.mem_of_getElem? (i := 101) rfl)) rfl
theorem wM_L_117 : Cond.methodLink "GuestStaffLaw" 117 yX11_tips ∈ gTs := gTs_t (tb_5 (List.mem_of_getElem? (i := 105) rfl)) rfl
theorem wM_X11_239 : Cond.methodLink "GuestStaffModel" 239 yX11_putAside ∈ gTs := gTs_t (tb_5 (List.mem_of_getElem? (i := 109) rfl)) rfl
theorem wM_X11_242 : Cond.methodLink "GuestStaffModel" 242 yX11_takeBack ∈ gTs := gTs_t (tb_5 (List.mem_of_getElem? (i := 113) rfl)) rfl
theorem wM_L_121 : Cond.methodLink "GuestStaffLaw" 121 yX11_moods ∈ gTs := gTs_t (tb_5 (List.mem_of_getElem? (i := 117) rfl)) rfl
theorem wC_X11_245 : Cond.constantLong "GuestStaffModel" 245 10 ∈ gTs := gTs_t (tb_5 (List.mem_of_getElem? (i := 121) rfl)) rfl
theorem wM_X11_247 : Cond.methodLink "GuestStaffModel" 247 yX11_servedMany ∈ gTs := gTs_t (tb_5 (List.mem_of_getElem? (i := 122) rfl)) rfl
theorem wM_L_125 : Cond.methodLink "GuestStaffLaw" 125 yX11_hours ∈ gTs := gTs_t (tb_5 (List.mem_of_getElem? (i := 126) rfl)) rfl
theorem wC_X11_253 : Cond.constantLong "GuestStaffModel" 253 999999 ∈ gTs := gTs_t (tb_5 (List.mem_of_getElem? (i := 130) rfl)) rfl
theorem wC_X11_255 : Cond.constantLong "GuestStaffModel" 255 1103515245 ∈ gTs := gTs_t (tb_5 (List.mem_of_getElem? (i := 131) rfl)) rfl
theorem wC_X11_257 : Cond.constantLong "GuestStaffModel" 257 12345 ∈ gTs := gTs_t (tb_5 (List.mem_of_getElem? (i := 132) rfl)) rfl
theorem wC_X11_259 : Cond.constantLong "GuestStaffModel" 259 2147483648 ∈ gTs := gTs_t (tb_5 (List.mem_of_getElem? (i := 133) rfl)) rfl
theorem wC_X11_261 : Cond.constantLong "GuestStaffModel" 261 65536 ∈ gTs := gTs_t (tb_5 (List.mem_of_getElem? (i := 134) rfl)) rfl
theorem wC_X11_263 : Cond.constantLong "GuestStaffModel" 263 8 ∈ gTs := gTs_t (tb_5 (List.mem_of_getElem? (i := 135) rfl)) rfl
theorem wM_L_130 : Cond.methodLink "GuestStaffLaw" 130 yX11_part ∈ gTs := gTs_t (tb_5 (List.mem_of_getElem? (i := 136) rfl)) rfl
theorem wM_L_134 : Cond.methodLink "GuestStaffLaw" 134 yX11_image ∈ gTs := gTs_t (tb_5 (List.mem_of_getElem? (i := 140) rfl)) rfl
theorem wM_L_138 : Cond.methodLink "GuestStaffLaw" 138 yX11_from ∈ gTs := gTs_t (tb_5 (List.mem_of_getElem? (i := 144) rfl)) rfl
theorem wM_L_142 : Cond.methodLink "GuestStaffLaw" 142 yX11_status ∈ gTs := gTs_t (tb_5 (List.mem_of_getElem? (i := 148) rfl)) rfl
theorem wC_X11_265 : Cond.constantLong "GuestStaffModel" 265 2 ∈ gTs := gTs_t (tb_5 (List.mem_of_getElem? (i := 152) rfl)) rfl
theorem wM_L_146 : Cond.methodLink "GuestStaffLaw" 146 yX11_count ∈ gTs := gTs_t (tb_5 (List.mem_of_getElem? (i := 153) rfl)) rfl
theorem wM_X11_267 : Cond.methodLink "GuestStaffModel" 267 yX11_countOf ∈ gTs := gTs_t (tb_5 (List.mem_of_getElem? (i := 157) rfl)) rfl
theorem wM_L_151 : Cond.methodLink "GuestStaffLaw" 151 yX11_digest ∈ gTs := gTs_t (tb_5 (List.mem_of_getElem? (i := 161) rfl)) rfl
theorem wC_X11_270 : Cond.constantLong "GuestStaffModel" 270 1097 ∈ gTs := gTs_t (tb_5 (List.mem_of_getElem? (i := 165) rfl)) rfl
theorem wC_X11_272 : Cond.constantLong "GuestStaffModel" 272 31 ∈ gTs := gTs_t (tb_5 (List.mem_of_getElem? (i := 166) rfl)) rfl
theorem wA_X6_contentBy : Cond.sameMethod "GuestStaff$Quiet" "GuestStaff$Quiet" "contentBy" "(II)I" ∈ gTs := gTs_t (tb_5 (List.mem_of_getElem? (i := 167) rfl)) rfl
theorem wA_X0_contentBy : Cond.sameMethod "GuestStaff$Banker" "GuestStaff$Banker" "contentBy" "(II)I" ∈ gTs := gTs_t (tb_5 (List.mem_of_getElem? (i := 168) rfl)) rfl
theorem wA_X0_workOn : Cond.sameMethod "GuestStaff$Banker" "GuestStaff$Banker" "workOn" "(I)I" ∈ gTs := gTs_t (tb_5 (List.mem_of_getElem? (i := 169) rfl)) rfl
theorem wF_J0_9 : Cond.fieldLink "java/lang/String" 9 "java/lang/String" "value" "[B" ∈ gTs := gTs_t (tb_5 (List.mem_of_getElem? (i := 175) rfl)) rfl
theorem wF_J0_15 : Cond.fieldLink "java/lang/String" 15 "java/lang/String" "coder" "B" ∈ gTs := gTs_t (tb_5 (List.mem_of_getElem? (i := 176) rfl)) rfl
theorem wL_L_7 : Cond.classLink "GuestStaffLaw" 7 "GuestStaff" ∈ gTs := gTs_t (tb_1 (List.mem_of_getElem? (i := 20) rfl)) rfl
theorem wT_X10 : Cond.instantiable "GuestStaff" 9 ∈ gTs := gTs_t (tb_1 (List.mem_of_getElem? (i := 21) rfl)) rfl
theorem wL_X10_13 : Cond.classLink "GuestStaff" 13 "GuestStaff$Text" ∈ gTs := gTs_t (tb_1 (List.mem_of_getElem? (i := 28) rfl)) rfl
theorem wT_X9 : Cond.instantiable "GuestStaff$Text" 6 ∈ gTs := gTs_t (tb_1 (List.mem_of_getElem? (i := 29) rfl)) rfl
theorem wR_boolean : Cond.arrayClass .boolean ∈ gTs := gTs_t (tb_1 (List.mem_of_getElem? (i := 55) rfl)) rfl
theorem wR_int : Cond.arrayClass .int ∈ gTs := gTs_t (tb_1 (List.mem_of_getElem? (i := 56) rfl)) rfl
theorem wL_X10_20 : Cond.classLink "GuestStaff" 20 "GuestStaff$Rows" ∈ gTs := gTs_t (tb_1 (List.mem_of_getElem? (i := 57) rfl)) rfl
theorem wT_X7 : Cond.instantiable "GuestStaff$Rows" 5 ∈ gTs := gTs_t (tb_1 (List.mem_of_getElem? (i := 58) rfl)) rfl
theorem wL_X7_18 : Cond.classLink "GuestStaff$Rows" 18 "[[I" ∈ gTs := gTs_t (tb_1 (List.mem_of_getElem? (i := 63) rfl)) rfl
theorem wL_X10_38 : Cond.classLink "GuestStaff" 38 "GuestStaff$Plain" ∈ gTs := gTs_t (tb_1 (List.mem_of_getElem? (i := 81) rfl)) rfl
theorem wT_X4 : Cond.instantiable "GuestStaff$Plain" 0 ∈ gTs := gTs_t (tb_1 (List.mem_of_getElem? (i := 83) rfl)) rfl
theorem wL_X10_41 : Cond.classLink "GuestStaff" 41 "GuestStaff$Quiet" ∈ gTs := gTs_t (tb_1 (List.mem_of_getElem? (i := 89) rfl)) rfl
theorem wT_X6 : Cond.instantiable "GuestStaff$Quiet" 0 ∈ gTs := gTs_t (tb_1 (List.mem_of_getElem? (i := 90) rfl)) rfl
theorem wL_X10_44 : Cond.classLink "GuestStaff" 44 "GuestStaff$Banker" ∈ gTs := gTs_t (tb_1 (List.mem_of_getElem? (i := 96) rfl)) rfl
theorem wT_X0 : Cond.instantiable "GuestStaff$Banker" 0 ∈ gTs := gTs_t (tb_1 (List.mem_of_getElem? (i := 97) rfl)) rfl
theorem wL_X10_47 : Cond.classLink "GuestStaff" 47 "GuestStaff$Shouter" ∈ gTs := gTs_t (tb_1 (List.mem_of_getElem? (i := 103) rfl)) rfl
theorem wT_X8 : Cond.instantiable "GuestStaff$Shouter" 0 ∈ gTs := gTs_t (tb_1 (List.mem_of_getElem? (i := 104) rfl)) rfl
theorem wL_X10_50 : Cond.classLink "GuestStaff" 50 "GuestStaff$Late" ∈ gTs := gTs_t (tb_1 (List.mem_of_getElem? (i := 110) rfl)) rfl
theorem wT_X2 : Cond.instantiable "GuestStaff$Late" 0 ∈ gTs := gTs_t (tb_1 (List.mem_of_getElem? (i := 111) rfl)) rfl
theorem wL_X10_53 : Cond.classLink "GuestStaff" 53 "GuestStaff$Polisher" ∈ gTs := gTs_t (tb_1 (List.mem_of_getElem? (i := 117) rfl)) rfl
theorem wT_X5 : Cond.instantiable "GuestStaff$Polisher" 0 ∈ gTs := gTs_t (tb_1 (List.mem_of_getElem? (i := 118) rfl)) rfl
theorem wL_X10_56 : Cond.classLink "GuestStaff" 56 "GuestStaff$House" ∈ gTs := gTs_t (tb_1 (List.mem_of_getElem? (i := 124) rfl)) rfl
theorem wT_X1 : Cond.instantiable "GuestStaff$House" 16 ∈ gTs := gTs_t (tb_1 (List.mem_of_getElem? (i := 125) rfl)) rfl
theorem wL_X1_27 : Cond.classLink "GuestStaff$House" 27 "GuestStaff$Notes" ∈ gTs := gTs_t (tb_1 (List.mem_of_getElem? (i := 130) rfl)) rfl
theorem wT_X3 : Cond.instantiable "GuestStaff$Notes" 2 ∈ gTs := gTs_t (tb_1 (List.mem_of_getElem? (i := 131) rfl)) rfl
theorem wL_X3_11 : Cond.classLink "GuestStaff$Notes" 11 "[[I" ∈ gTs := gTs_t (tb_1 (List.mem_of_getElem? (i := 136) rfl)) rfl
theorem wL_X1_34 : Cond.classLink "GuestStaff$House" 34 "[[I" ∈ gTs := gTs_t (tb_1 (List.mem_of_getElem? (i := 146) rfl)) rfl
theorem wL_L_10 : Cond.classLink "GuestStaffLaw" 10 "GuestStaffModel" ∈ gTs := gTs_t (tb_4 (List.mem_of_getElem? (i := 7) rfl)) rfl
theorem wT_X11 : Cond.instantiable "GuestStaffModel" 28 ∈ gTs := gTs_t (tb_4 (List.mem_of_getElem? (i := 8) rfl)) rfl
theorem wobj : Cond.instanceMethod objectInit ∈ gTs ∧ Cond.code objectInit ⟨#[0xb1]⟩ 1 none ∈ gTs := ⟨gTs_t (tb_1 (List.mem_of_getElem? (i := 26) rfl)) rfl, gTs_t (tb_1 (List.mem_of_getElem? (i := 27) rfl)) rfl⟩
theorem mt_X10_init : gMth yX10_init cX10_init 2 none 0 := ⟨gTs_t (tb_1 (List.mem_of_getElem? (i := 24) rfl)) rfl, wI_X10, by decide +kernel, by decide +kernel, by decide +kernel⟩
theorem mi_X10_init : Cond.instanceMethod yX10_init ∈ gTs := gTs_t (tb_1 (List.mem_of_getElem? (i := 23) rfl)) rfl
theorem mt_X9_init : gMth yX9_init cX9_init 1 none 0 := ⟨gTs_t (tb_1 (List.mem_of_getElem? (i := 32) rfl)) rfl, wI_X9, by decide +kernel, by decide +kernel, by decide +kernel⟩
theorem mi_X9_init : Cond.instanceMethod yX9_init ∈ gTs := gTs_t (tb_1 (List.mem_of_getElem? (i := 31) rfl)) rfl
theorem mt_X7_init : gMth yX7_init cX7_init 1 none 0 := ⟨gTs_t (tb_1 (List.mem_of_getElem? (i := 61) rfl)) rfl, wI_X7, by decide +kernel, by decide +kernel, by decide +kernel⟩
theorem mi_X7_init : Cond.instanceMethod yX7_init ∈ gTs := gTs_t (tb_1 (List.mem_of_getElem? (i := 60) rfl)) rfl
theorem mt_X4_init : gMth yX4_init cX4_init 1 none 0 := ⟨gTs_t (tb_1 (List.mem_of_getElem? (i := 86) rfl)) rfl, wI_X4, by decide +kernel, by decide +kernel, by decide +kernel⟩
theorem mi_X4_init : Cond.instanceMethod yX4_init ∈ gTs := gTs_t (tb_1 (List.mem_of_getElem? (i := 85) rfl)) rfl
theorem mt_X6_init : gMth yX6_init cX6_init 1 none 0 := ⟨gTs_t (tb_1 (List.mem_of_getElem? (i := 93) rfl)) rfl, wI_X6, by decide +kernel, by decide +kernel, by decide +kernel⟩
theorem mi_X6_init : Cond.instanceMethod yX6_init ∈ gTs := gTs_t (tb_1 (List.mem_of_getElem? (i := 92) rfl)) rfl
theorem mt_X0_init : gMth yX0_init cX0_init 1 none 0 := ⟨gTs_t (tb_1 (List.mem_of_getElem? (i := 100) rfl)) rfl, wI_X0, by decide +kernel, by decide +kernel, by decide +kernel⟩
theorem mi_X0_init : Cond.instanceMethod yX0_init ∈ gTs := gTs_t (tb_1 (List.mem_of_getElem? (i := 99) rfl)) rfl
theorem mt_X8_init : gMth yX8_init cX8_init 1 none 0 := ⟨gTs_t (tb_1 (List.mem_of_getElem? (i := 107) rfl)) rfl, wI_X8, by decide +kernel, by decide +kernel, by decide +kernel⟩
theorem mi_X8_init : Cond.instanceMethod yX8_init ∈ gTs := gTs_t (tb_1 (List.mem_of_getElem? (i := 106) rfl)) rfl
theorem mt_X2_init : gMth yX2_init cX2_init 1 none 0 := ⟨gTs_t (tb_1 (List.mem_of_getElem? (i := 114) rfl)) rfl, wI_X2, by decide +kernel, by decide +kernel, by decide +kernel⟩
theorem mi_X2_init : Cond.instanceMethod yX2_init ∈ gTs := gTs_t (tb_1 (List.mem_of_getElem? (i := 113) rfl)) rfl
theorem mt_X5_init : gMth yX5_init cX5_init 1 none 0 := ⟨gTs_t (tb_1 (List.mem_of_getElem? (i := 121) rfl)) rfl, wI_X5, by decide +kernel, by decide +kernel, by decide +kernel⟩
theorem mi_X5_init : Cond.instanceMethod yX5_init ∈ gTs := gTs_t (tb_1 (List.mem_of_getElem? (i := 120) rfl)) rfl
theorem mt_X1_init : gMth yX1_init cX1_init 2 none 1 := ⟨gTs_t (tb_1 (List.mem_of_getElem? (i := 128) rfl)) rfl, wI_X1, by decide +kernel, by decide +kernel, by decide +kernel⟩
theorem mi_X1_init : Cond.instanceMethod yX1_init ∈ gTs := gTs_t (tb_1 (List.mem_of_getElem? (i := 127) rfl)) rfl
theorem mt_X3_init : gMth yX3_init cX3_init 1 none 0 := ⟨gTs_t (tb_1 (List.mem_of_getElem? (i := 134) rfl)) rfl, wI_X3, by decide +kernel, by decide +kernel, by decide +kernel⟩
theorem mi_X3_init : Cond.instanceMethod yX3_init ∈ gTs := gTs_t (tb_1 (List.mem_of_getElem? (i := 133) rfl)) rfl
theorem mt_X10_house : gMth yX10_house cX10_house 2 (some .int) 0 := ⟨gTs_t (tb_2 (List.mem_of_getElem? (i := 2) rfl)) rfl, wI_X10, by decide +kernel, by decide +kernel, by decide +kernel⟩
theorem mi_X10_house : Cond.instanceMethod yX10_house ∈ gTs := gTs_t (tb_2 (List.mem_of_getElem? (i := 0) rfl)) rfl
theorem mm_X10_house : gMi yX10_house cX10_house 2 (some .int) 0 := ⟨mt_X10_house, mi_X10_house, gTs_t (tb_2 (List.mem_of_getElem? (i := 1) rfl)) rfl⟩
theorem mt_X1_empty : gMth yX1_empty cX1_empty 1 none 0 := ⟨gTs_t (tb_2 (List.mem_of_getElem? (i := 6) rfl)) rfl, wI_X1, by decide +kernel, by decide +kernel, by decide +kernel⟩
theorem mi_X1_empty : Cond.instanceMethod yX1_empty ∈ gTs := gTs_t (tb_2 (List.mem_of_getElem? (i := 4) rfl)) rfl
theorem mm_X1_empty : gMi yX1_empty cX1_empty 1 none 0 := ⟨mt_X1_empty, mi_X1_empty, gTs_t (tb_2 (List.mem_of_getElem? (i := 5) rfl)) rfl⟩
theorem mt_X10_guest : gMth yX10_guest cX10_guest 4 (some .int) 3 := ⟨gTs_t (tb_2 (List.mem_of_getElem? (i := 10) rfl)) rfl, wI_X10, by decide +kernel, by decide +kernel, by decide +kernel⟩
theorem mi_X10_guest : Cond.instanceMethod yX10_guest ∈ gTs := gTs_t (tb_2 (List.mem_of_getElem? (i := 8) rfl)) rfl
theorem mm_X10_guest : gMi yX10_guest cX10_guest 4 (some .int) 3 := ⟨mt_X10_guest, mi_X10_guest, gTs_t (tb_2 (List.mem_of_getElem? (i := 9) rfl)) rfl⟩
theorem mt_X10_isBelow : gMth yX10_isBelow cX10_isBelow 2 (some .boolean) 2 := ⟨gTs_t (tb_2 (List.mem_of_getElem? (i := 13) rfl)) rfl, wI_X10, by decide +kernel, by decide +kernel, by decide +kernel⟩
theorem mm_X10_isBelow : gMs yX10_isBelow cX10_isBelow 2 (some .boolean) 2 := ⟨mt_X10_isBelow, gTs_t (tb_2 (List.mem_of_getElem? (i := 12) rfl)) rfl⟩
theorem mt_X10_refuseBad : gMth yX10_refuseBad cX10_refuseBad 2 (some .int) 1 := ⟨gTs_t (tb_2 (List.mem_of_getElem? (i := 17) rfl)) rfl, wI_X10, by decide +kernel, by decide +kernel, by decide +kernel⟩
theorem mi_X10_refuseBad : Cond.instanceMethod yX10_refuseBad ∈ gTs := gTs_t (tb_2 (List.mem_of_getElem? (i := 16) rfl)) rfl
theorem mm_X10_refuseBad : gMi yX10_refuseBad cX10_refuseBad 2 (some .int) 1 := ⟨mt_X10_refuseBad, mi_X10_refuseBad, gTs_p (q := (yX10_refuseBad, 9)) (List.mem_of_getElem? (i := 0) (by decide +kernel)) (by decide +kernel)⟩
theorem mt_X10_refuseFull : gMth yX10_refuseFull cX10_refuseFull 1 (some .int) 0 := ⟨gTs_t (tb_2 (List.mem_of_getElem? (i := 21) rfl)) rfl, wI_X10, by decide +kernel, by decide +kernel, by decide +kernel⟩
theorem mi_X10_refuseFull : Cond.instanceMethod yX10_refuseFull ∈ gTs := gTs_t (tb_2 (List.mem_of_getElem? (i := 20) rfl)) rfl
theorem mm_X10_refuseFull : gMi yX10_refuseFull cX10_refuseFull 1 (some .int) 0 := ⟨mt_X10_refuseFull, mi_X10_refuseFull, gTs_p (q := (yX10_refuseFull, 9)) (List.mem_of_getElem? (i := 1) (by decide +kernel)) (by decide +kernel)⟩
theorem mt_X1_admit : gMth yX1_admit cX1_admit 5 (some .int) 3 := ⟨gTs_t (tb_2 (List.mem_of_getElem? (i := 25) rfl)) rfl, wI_X1, by decide +kernel, by decide +kernel, by decide +kernel⟩
theorem mi_X1_admit : Cond.instanceMethod yX1_admit ∈ gTs := gTs_t (tb_2 (List.mem_of_getElem? (i := 23) rfl)) rfl
theorem mm_X1_admit : gMi yX1_admit cX1_admit 5 (some .int) 3 := ⟨mt_X1_admit, mi_X1_admit, gTs_t (tb_2 (List.mem_of_getElem? (i := 24) rfl)) rfl⟩
theorem mt_X10_duty : gMth yX10_duty cX10_duty 4 (some .int) 2 := ⟨gTs_t (tb_2 (List.mem_of_getElem? (i := 29) rfl)) rfl, wI_X10, by decide +kernel, by decide +kernel, by decide +kernel⟩
theorem mi_X10_duty : Cond.instanceMethod yX10_duty ∈ gTs := gTs_t (tb_2 (List.mem_of_getElem? (i := 27) rfl)) rfl
theorem mm_X10_duty : gMi yX10_duty cX10_duty 4 (some .int) 2 := ⟨mt_X10_duty, mi_X10_duty, gTs_t (tb_2 (List.mem_of_getElem? (i := 28) rfl)) rfl⟩
theorem mt_X1_isGuest : gMth yX1_isGuest cX1_isGuest 2 (some .boolean) 1 := ⟨gTs_t (tb_2 (List.mem_of_getElem? (i := 33) rfl)) rfl, wI_X1, by decide +kernel, by decide +kernel, by decide +kernel⟩
theorem mi_X1_isGuest : Cond.instanceMethod yX1_isGuest ∈ gTs := gTs_t (tb_2 (List.mem_of_getElem? (i := 31) rfl)) rfl
theorem mm_X1_isGuest : gMi yX1_isGuest cX1_isGuest 2 (some .boolean) 1 := ⟨mt_X1_isGuest, mi_X1_isGuest, gTs_t (tb_2 (List.mem_of_getElem? (i := 32) rfl)) rfl⟩
theorem mt_X1_remember : gMth yX1_remember cX1_remember 1 none 0 := ⟨gTs_t (tb_2 (List.mem_of_getElem? (i := 37) rfl)) rfl, wI_X1, by decide +kernel, by decide +kernel, by decide +kernel⟩
theorem mi_X1_remember : Cond.instanceMethod yX1_remember ∈ gTs := gTs_t (tb_2 (List.mem_of_getElem? (i := 35) rfl)) rfl
theorem mm_X1_remember : gMi yX1_remember cX1_remember 1 none 0 := ⟨mt_X1_remember, mi_X1_remember, gTs_t (tb_2 (List.mem_of_getElem? (i := 36) rfl)) rfl⟩
theorem mt_X1_copyRow : gMth yX1_copyRow cX1_copyRow 2 none 2 := ⟨gTs_t (tb_2 (List.mem_of_getElem? (i := 40) rfl)) rfl, wI_X1, by decide +kernel, by decide +kernel, by decide +kernel⟩
theorem mm_X1_copyRow : gMs yX1_copyRow cX1_copyRow 2 none 2 := ⟨mt_X1_copyRow, gTs_t (tb_2 (List.mem_of_getElem? (i := 39) rfl)) rfl⟩
theorem mt_J9_min_7cf53 : gMth yJ9_min_7cf53 cJ9_min_7cf53 2 (some .int) 2 := ⟨gTs_t (tb_2 (List.mem_of_getElem? (i := 46) rfl)) rfl, wI_J9, by decide +kernel, by decide +kernel, by decide +kernel⟩
theorem mm_J9_min_7cf53 : gMs yJ9_min_7cf53 cJ9_min_7cf53 2 (some .int) 2 := ⟨mt_J9_min_7cf53, gTs_t (tb_2 (List.mem_of_getElem? (i := 45) rfl)) rfl⟩
theorem mt_X10_type : gMth yX10_type cX10_type 2 (some .int) 1 := ⟨gTs_t (tb_2 (List.mem_of_getElem? (i := 50) rfl)) rfl, wI_X10, by decide +kernel, by decide +kernel, by decide +kernel⟩
theorem mi_X10_type : Cond.instanceMethod yX10_type ∈ gTs := gTs_t (tb_2 (List.mem_of_getElem? (i := 48) rfl)) rfl
theorem mm_X10_type : gMi yX10_type cX10_type 2 (some .int) 1 := ⟨mt_X10_type, mi_X10_type, gTs_t (tb_2 (List.mem_of_getElem? (i := 49) rfl)) rfl⟩
theorem mt_X9_append : gMth yX9_append cX9_append 2 (some .int) 1 := ⟨gTs_t (tb_2 (List.mem_of_getElem? (i := 54) rfl)) rfl, wI_X9, by decide +kernel, by decide +kernel, by decide +kernel⟩
theorem mi_X9_append : Cond.instanceMethod yX9_append ∈ gTs := gTs_t (tb_2 (List.mem_of_getElem? (i := 52) rfl)) rfl
theorem mm_X9_append : gMi yX9_append cX9_append 2 (some .int) 1 := ⟨mt_X9_append, mi_X9_append, gTs_t (tb_2 (List.mem_of_getElem? (i := 53) rfl)) rfl⟩
theorem mt_X10_clear : gMth yX10_clear cX10_clear 2 (some .int) 0 := ⟨gTs_t (tb_2 (List.mem_of_getElem? (i := 58) rfl)) rfl, wI_X10, by decide +kernel, by decide +kernel, by decide +kernel⟩
theorem mi_X10_clear : Cond.instanceMethod yX10_clear ∈ gTs := gTs_t (tb_2 (List.mem_of_getElem? (i := 56) rfl)) rfl
theorem mm_X10_clear : gMi yX10_clear cX10_clear 2 (some .int) 0 := ⟨mt_X10_clear, mi_X10_clear, gTs_t (tb_2 (List.mem_of_getElem? (i := 57) rfl)) rfl⟩
theorem mt_X10_read : gMth yX10_read cX10_read 2 (some .int) 0 := ⟨gTs_t (tb_2 (List.mem_of_getElem? (i := 62) rfl)) rfl, wI_X10, by decide +kernel, by decide +kernel, by decide +kernel⟩
theorem mi_X10_read : Cond.instanceMethod yX10_read ∈ gTs := gTs_t (tb_2 (List.mem_of_getElem? (i := 60) rfl)) rfl
theorem mm_X10_read : gMi yX10_read cX10_read 2 (some .int) 0 := ⟨mt_X10_read, mi_X10_read, gTs_t (tb_2 (List.mem_of_getElem? (i := 61) rfl)) rfl⟩
theorem mt_X9_parse : gMth yX9_parse cX9_parse 3 (some .int) 1 := ⟨gTs_t (tb_2 (List.mem_of_getElem? (i := 66) rfl)) rfl, wI_X9, by decide +kernel, by decide +kernel, by decide +kernel⟩
theorem mi_X9_parse : Cond.instanceMethod yX9_parse ∈ gTs := gTs_t (tb_2 (List.mem_of_getElem? (i := 64) rfl)) rfl
theorem mm_X9_parse : gMi yX9_parse cX9_parse 3 (some .int) 1 := ⟨mt_X9_parse, mi_X9_parse, gTs_t (tb_2 (List.mem_of_getElem? (i := 65) rfl)) rfl⟩
theorem mt_X9_step : gMth yX9_step cX9_step 1 none 0 := ⟨gTs_t (tb_2 (List.mem_of_getElem? (i := 71) rfl)) rfl, wI_X9, by decide +kernel, by decide +kernel, by decide +kernel⟩
theorem mi_X9_step : Cond.instanceMethod yX9_step ∈ gTs := gTs_t (tb_2 (List.mem_of_getElem? (i := 70) rfl)) rfl
theorem mm_X9_step : gMi yX9_step cX9_step 1 none 0 := ⟨mt_X9_step, mi_X9_step, gTs_p (q := (yX9_step, 6)) (List.mem_of_getElem? (i := 2) (by decide +kernel)) (by decide +kernel)⟩
theorem mt_X9_endOfRun : gMth yX9_endOfRun cX9_endOfRun 5 (some .int) 3 := ⟨gTs_t (tb_2 (List.mem_of_getElem? (i := 75) rfl)) rfl, wI_X9, by decide +kernel, by decide +kernel, by decide +kernel⟩
theorem mi_X9_endOfRun : Cond.instanceMethod yX9_endOfRun ∈ gTs := gTs_t (tb_2 (List.mem_of_getElem? (i := 74) rfl)) rfl
theorem mm_X9_endOfRun : gMi yX9_endOfRun cX9_endOfRun 5 (some .int) 3 := ⟨mt_X9_endOfRun, mi_X9_endOfRun, gTs_p (q := (yX9_endOfRun, 6)) (List.mem_of_getElem? (i := 3) (by decide +kernel)) (by decide +kernel)⟩
theorem mt_X9_numberHere : gMth yX9_numberHere cX9_numberHere 3 (some .int) 0 := ⟨gTs_t (tb_2 (List.mem_of_getElem? (i := 79) rfl)) rfl, wI_X9, by decide +kernel, by decide +kernel, by decide +kernel⟩
theorem mi_X9_numberHere : Cond.instanceMethod yX9_numberHere ∈ gTs := gTs_t (tb_2 (List.mem_of_getElem? (i := 78) rfl)) rfl
theorem mm_X9_numberHere : gMi yX9_numberHere cX9_numberHere 3 (some .int) 0 := ⟨mt_X9_numberHere, mi_X9_numberHere, gTs_p (q := (yX9_numberHere, 6)) (List.mem_of_getElem? (i := 4) (by decide +kernel)) (by decide +kernel)⟩
theorem mt_X9_signHere : gMth yX9_signHere cX9_signHere 1 (some .int) 0 := ⟨gTs_t (tb_2 (List.mem_of_getElem? (i := 83) rfl)) rfl, wI_X9, by decide +kernel, by decide +kernel, by decide +kernel⟩
theorem mi_X9_signHere : Cond.instanceMethod yX9_signHere ∈ gTs := gTs_t (tb_2 (List.mem_of_getElem? (i := 82) rfl)) rfl
theorem mm_X9_signHere : gMi yX9_signHere cX9_signHere 1 (some .int) 0 := ⟨mt_X9_signHere, mi_X9_signHere, gTs_p (q := (yX9_signHere, 6)) (List.mem_of_getElem? (i := 5) (by decide +kernel)) (by decide +kernel)⟩
theorem mt_X9_isWord : gMth yX9_isWord cX9_isWord 3 (some .boolean) 1 := ⟨gTs_t (tb_2 (List.mem_of_getElem? (i := 89) rfl)) rfl, wI_X9, by decide +kernel, by decide +kernel, by decide +kernel⟩
theorem mi_X9_isWord : Cond.instanceMethod yX9_isWord ∈ gTs := gTs_t (tb_2 (List.mem_of_getElem? (i := 88) rfl)) rfl
theorem mm_X9_isWord : gMi yX9_isWord cX9_isWord 3 (some .boolean) 1 := ⟨mt_X9_isWord, mi_X9_isWord, gTs_p (q := (yX9_isWord, 6)) (List.mem_of_getElem? (i := 6) (by decide +kernel)) (by decide +kernel)⟩
theorem mt_J0_length_8abf5 : gMth yJ0_length_8abf5 cJ0_length_8abf5 1 (some .int) 0 := ⟨gTs_t (tb_2 (List.mem_of_getElem? (i := 93) rfl)) rfl, wI_J0, by decide +kernel, by decide +kernel, by decide +kernel⟩
theorem mi_J0_length_8abf5 : Cond.instanceMethod yJ0_length_8abf5 ∈ gTs := gTs_t (tb_2 (List.mem_of_getElem? (i := 91) rfl)) rfl
theorem mm_J0_length_8abf5 : gMi yJ0_length_8abf5 cJ0_length_8abf5 1 (some .int) 0 := ⟨mt_J0_length_8abf5, mi_J0_length_8abf5, gTs_t (tb_2 (List.mem_of_getElem? (i := 92) rfl)) rfl⟩
theorem mt_J0_coder_7d493 : gMth yJ0_coder_7d493 cJ0_coder_7d493 1 (some .byte) 0 := ⟨gTs_t (tb_2 (List.mem_of_getElem? (i := 97) rfl)) rfl, wI_J0, by decide +kernel, by decide +kernel, by decide +kernel⟩
theorem mi_J0_coder_7d493 : Cond.instanceMethod yJ0_coder_7d493 ∈ gTs := gTs_t (tb_2 (List.mem_of_getElem? (i := 95) rfl)) rfl
theorem mm_J0_coder_7d493 : gMi yJ0_coder_7d493 cJ0_coder_7d493 1 (some .byte) 0 := ⟨mt_J0_coder_7d493, mi_J0_coder_7d493, gTs_t (tb_2 (List.mem_of_getElem? (i := 96) rfl)) rfl⟩
theorem mt_J0_charAt_5068e : gMth yJ0_charAt_5068e cJ0_charAt_5068e 2 (some .char) 1 := ⟨gTs_t (tb_2 (List.mem_of_getElem? (i := 103) rfl)) rfl, wI_J0, by decide +kernel, by decide +kernel, by decide +kernel⟩
theorem mi_J0_charAt_5068e : Cond.instanceMethod yJ0_charAt_5068e ∈ gTs := gTs_t (tb_2 (List.mem_of_getElem? (i := 101) rfl)) rfl
theorem mm_J0_charAt_5068e : gMi yJ0_charAt_5068e cJ0_charAt_5068e 2 (some .char) 1 := ⟨mt_J0_charAt_5068e, mi_J0_charAt_5068e, gTs_t (tb_2 (List.mem_of_getElem? (i := 102) rfl)) rfl⟩
theorem mt_J0_isLatin1_aae02 : gMth yJ0_isLatin1_aae02 cJ0_isLatin1_aae02 1 (some .boolean) 0 := ⟨gTs_t (tb_2 (List.mem_of_getElem? (i := 107) rfl)) rfl, wI_J0, by decide +kernel, by decide +kernel, by decide +kernel⟩
theorem mi_J0_isLatin1_aae02 : Cond.instanceMethod yJ0_isLatin1_aae02 ∈ gTs := gTs_t (tb_2 (List.mem_of_getElem? (i := 105) rfl)) rfl
theorem mm_J0_isLatin1_aae02 : gMi yJ0_isLatin1_aae02 cJ0_isLatin1_aae02 1 (some .boolean) 0 := ⟨mt_J0_isLatin1_aae02, mi_J0_isLatin1_aae02, gTs_t (tb_2 (List.mem_of_getElem? (i := 106) rfl)) rfl⟩
theorem mt_J1_charAt_3b067 : gMth yJ1_charAt_3b067 cJ1_charAt_3b067 2 (some .char) 2 := ⟨gTs_t (tb_2 (List.mem_of_getElem? (i := 110) rfl)) rfl, wI_J1, by decide +kernel, by decide +kernel, by decide +kernel⟩
theorem mm_J1_charAt_3b067 : gMs yJ1_charAt_3b067 cJ1_charAt_3b067 2 (some .char) 2 := ⟨mt_J1_charAt_3b067, gTs_t (tb_2 (List.mem_of_getElem? (i := 109) rfl)) rfl⟩
theorem mt_J0_checkIndex_df160 : gMth yJ0_checkIndex_df160 cJ0_checkIndex_df160 2 none 2 := ⟨gTs_t (tb_2 (List.mem_of_getElem? (i := 113) rfl)) rfl, wI_J0, by decide +kernel, by decide +kernel, by decide +kernel⟩
theorem mm_J0_checkIndex_df160 : gMs yJ0_checkIndex_df160 cJ0_checkIndex_df160 2 none 2 := ⟨mt_J0_checkIndex_df160, gTs_t (tb_2 (List.mem_of_getElem? (i := 112) rfl)) rfl⟩
theorem mt_J3_checkIndex_8e157 : gMth yJ3_checkIndex_8e157 cJ3_checkIndex_8e157 3 (some .int) 3 := ⟨gTs_t (tb_2 (List.mem_of_getElem? (i := 118) rfl)) rfl, wI_J3, by decide +kernel, by decide +kernel, by decide +kernel⟩
theorem mm_J3_checkIndex_8e157 : gMs yJ3_checkIndex_8e157 cJ3_checkIndex_8e157 3 (some .int) 3 := ⟨mt_J3_checkIndex_8e157, gTs_t (tb_2 (List.mem_of_getElem? (i := 117) rfl)) rfl⟩
theorem mt_J2_charAt_3b067 : gMth yJ2_charAt_3b067 cJ2_charAt_3b067 2 (some .char) 2 := ⟨gTs_t (tb_2 (List.mem_of_getElem? (i := 121) rfl)) rfl, wI_J2, by decide +kernel, by decide +kernel, by decide +kernel⟩
theorem mm_J2_charAt_3b067 : gMs yJ2_charAt_3b067 cJ2_charAt_3b067 2 (some .char) 2 := ⟨mt_J2_charAt_3b067, gTs_t (tb_2 (List.mem_of_getElem? (i := 120) rfl)) rfl⟩
theorem mt_J2_checkIndex_2214a : gMth yJ2_checkIndex_2214a cJ2_checkIndex_2214a 2 none 2 := ⟨gTs_t (tb_2 (List.mem_of_getElem? (i := 124) rfl)) rfl, wI_J2, by decide +kernel, by decide +kernel, by decide +kernel⟩
theorem mm_J2_checkIndex_2214a : gMs yJ2_checkIndex_2214a cJ2_checkIndex_2214a 2 none 2 := ⟨mt_J2_checkIndex_2214a, gTs_t (tb_2 (List.mem_of_getElem? (i := 123) rfl)) rfl⟩
theorem mt_J2_length_9d52b : gMth yJ2_length_9d52b cJ2_length_9d52b 1 (some .int) 1 := ⟨gTs_t (tb_2 (List.mem_of_getElem? (i := 127) rfl)) rfl, wI_J2, by decide +kernel, by decide +kernel, by decide +kernel⟩
theorem mm_J2_length_9d52b : gMs yJ2_length_9d52b cJ2_length_9d52b 1 (some .int) 1 := ⟨mt_J2_length_9d52b, gTs_t (tb_2 (List.mem_of_getElem? (i := 126) rfl)) rfl⟩
theorem mt_J2_getChar_3b067 : gMth yJ2_getChar_3b067 cJ2_getChar_3b067 2 (some .char) 2 := ⟨gTs_t (tb_2 (List.mem_of_getElem? (i := 131) rfl)) rfl, wI_J2, by decide +kernel, by decide +kernel, by decide +kernel⟩
theorem mm_J2_getChar_3b067 : gMs yJ2_getChar_3b067 cJ2_getChar_3b067 2 (some .char) 2 := ⟨mt_J2_getChar_3b067, gTs_t (tb_2 (List.mem_of_getElem? (i := 130) rfl)) rfl⟩
theorem mt_X9_stepToStop : gMth yX9_stepToStop cX9_stepToStop 1 (some .boolean) 0 := ⟨gTs_t (tb_2 (List.mem_of_getElem? (i := 141) rfl)) rfl, wI_X9, by decide +kernel, by decide +kernel, by decide +kernel⟩
theorem mi_X9_stepToStop : Cond.instanceMethod yX9_stepToStop ∈ gTs := gTs_t (tb_2 (List.mem_of_getElem? (i := 140) rfl)) rfl
theorem mm_X9_stepToStop : gMi yX9_stepToStop cX9_stepToStop 1 (some .boolean) 0 := ⟨mt_X9_stepToStop, mi_X9_stepToStop, gTs_p (q := (yX9_stepToStop, 6)) (List.mem_of_getElem? (i := 7) (by decide +kernel)) (by decide +kernel)⟩
theorem mt_X9_parseItem : gMth yX9_parseItem cX9_parseItem 2 (some .boolean) 1 := ⟨gTs_t (tb_2 (List.mem_of_getElem? (i := 145) rfl)) rfl, wI_X9, by decide +kernel, by decide +kernel, by decide +kernel⟩
theorem mi_X9_parseItem : Cond.instanceMethod yX9_parseItem ∈ gTs := gTs_t (tb_2 (List.mem_of_getElem? (i := 144) rfl)) rfl
theorem mm_X9_parseItem : gMi yX9_parseItem cX9_parseItem 2 (some .boolean) 1 := ⟨mt_X9_parseItem, mi_X9_parseItem, gTs_p (q := (yX9_parseItem, 6)) (List.mem_of_getElem? (i := 8) (by decide +kernel)) (by decide +kernel)⟩
theorem mt_X9_parseGuest : gMth yX9_parseGuest cX9_parseGuest 6 (some .boolean) 1 := ⟨gTs_t (tb_2 (List.mem_of_getElem? (i := 150) rfl)) rfl, wI_X9, by decide +kernel, by decide +kernel, by decide +kernel⟩
theorem mi_X9_parseGuest : Cond.instanceMethod yX9_parseGuest ∈ gTs := gTs_t (tb_2 (List.mem_of_getElem? (i := 149) rfl)) rfl
theorem mm_X9_parseGuest : gMi yX9_parseGuest cX9_parseGuest 6 (some .boolean) 1 := ⟨mt_X9_parseGuest, mi_X9_parseGuest, gTs_p (q := (yX9_parseGuest, 6)) (List.mem_of_getElem? (i := 9) (by decide +kernel)) (by decide +kernel)⟩
theorem mt_X9_stepToNumber : gMth yX9_stepToNumber cX9_stepToNumber 2 (some .boolean) 1 := ⟨gTs_t (tb_2 (List.mem_of_getElem? (i := 154) rfl)) rfl, wI_X9, by decide +kernel, by decide +kernel, by decide +kernel⟩
theorem mi_X9_stepToNumber : Cond.instanceMethod yX9_stepToNumber ∈ gTs := gTs_t (tb_2 (List.mem_of_getElem? (i := 153) rfl)) rfl
theorem mm_X9_stepToNumber : gMi yX9_stepToNumber cX9_stepToNumber 2 (some .boolean) 1 := ⟨mt_X9_stepToNumber, mi_X9_stepToNumber, gTs_p (q := (yX9_stepToNumber, 6)) (List.mem_of_getElem? (i := 10) (by decide +kernel)) (by decide +kernel)⟩
theorem mt_X9_isNumber : gMth yX9_isNumber cX9_isNumber 2 (some .boolean) 1 := ⟨gTs_t (tb_2 (List.mem_of_getElem? (i := 158) rfl)) rfl, wI_X9, by decide +kernel, by decide +kernel, by decide +kernel⟩
theorem mi_X9_isNumber : Cond.instanceMethod yX9_isNumber ∈ gTs := gTs_t (tb_2 (List.mem_of_getElem? (i := 157) rfl)) rfl
theorem mm_X9_isNumber : gMi yX9_isNumber cX9_isNumber 2 (some .boolean) 1 := ⟨mt_X9_isNumber, mi_X9_isNumber, gTs_p (q := (yX9_isNumber, 6)) (List.mem_of_getElem? (i := 11) (by decide +kernel)) (by decide +kernel)⟩
theorem mt_X9_parseDuty : gMth yX9_parseDuty cX9_parseDuty 3 (some .boolean) 1 := ⟨gTs_t (tb_2 (List.mem_of_getElem? (i := 164) rfl)) rfl, wI_X9, by decide +kernel, by decide +kernel, by decide +kernel⟩
theorem mi_X9_parseDuty : Cond.instanceMethod yX9_parseDuty ∈ gTs := gTs_t (tb_2 (List.mem_of_getElem? (i := 163) rfl)) rfl
theorem mm_X9_parseDuty : gMi yX9_parseDuty cX9_parseDuty 3 (some .boolean) 1 := ⟨mt_X9_parseDuty, mi_X9_parseDuty, gTs_p (q := (yX9_parseDuty, 6)) (List.mem_of_getElem? (i := 12) (by decide +kernel)) (by decide +kernel)⟩
theorem mt_X1_copy : gMth yX1_copy cX1_copy 3 none 1 := ⟨gTs_t (tb_2 (List.mem_of_getElem? (i := 168) rfl)) rfl, wI_X1, by decide +kernel, by decide +kernel, by decide +kernel⟩
theorem mi_X1_copy : Cond.instanceMethod yX1_copy ∈ gTs := gTs_t (tb_2 (List.mem_of_getElem? (i := 166) rfl)) rfl
theorem mm_X1_copy : gMi yX1_copy cX1_copy 3 none 1 := ⟨mt_X1_copy, mi_X1_copy, gTs_t (tb_2 (List.mem_of_getElem? (i := 167) rfl)) rfl⟩
theorem mt_X3_copy : gMth yX3_copy cX3_copy 3 none 1 := ⟨gTs_t (tb_2 (List.mem_of_getElem? (i := 172) rfl)) rfl, wI_X3, by decide +kernel, by decide +kernel, by decide +kernel⟩
theorem mi_X3_copy : Cond.instanceMethod yX3_copy ∈ gTs := gTs_t (tb_2 (List.mem_of_getElem? (i := 170) rfl)) rfl
theorem mm_X3_copy : gMi yX3_copy cX3_copy 3 none 1 := ⟨mt_X3_copy, mi_X3_copy, gTs_t (tb_2 (List.mem_of_getElem? (i := 171) rfl)) rfl⟩
theorem mt_X10_hour : gMth yX10_hour cX10_hour 3 (some .int) 1 := ⟨gTs_t (tb_2 (List.mem_of_getElem? (i := 178) rfl)) rfl, wI_X10, by decide +kernel, by decide +kernel, by decide +kernel⟩
theorem mi_X10_hour : Cond.instanceMethod yX10_hour ∈ gTs := gTs_t (tb_2 (List.mem_of_getElem? (i := 176) rfl)) rfl
theorem mm_X10_hour : gMi yX10_hour cX10_hour 3 (some .int) 1 := ⟨mt_X10_hour, mi_X10_hour, gTs_t (tb_2 (List.mem_of_getElem? (i := 177) rfl)) rfl⟩
theorem mt_X1_passHour : gMth yX1_passHour cX1_passHour 3 none 0 := ⟨gTs_t (tb_2 (List.mem_of_getElem? (i := 182) rfl)) rfl, wI_X1, by decide +kernel, by decide +kernel, by decide +kernel⟩
theorem mi_X1_passHour : Cond.instanceMethod yX1_passHour ∈ gTs := gTs_t (tb_2 (List.mem_of_getElem? (i := 180) rfl)) rfl
theorem mm_X1_passHour : gMi yX1_passHour cX1_passHour 3 none 0 := ⟨mt_X1_passHour, mi_X1_passHour, gTs_t (tb_2 (List.mem_of_getElem? (i := 181) rfl)) rfl⟩
theorem mt_X1_contentOf : gMth yX1_contentOf cX1_contentOf 3 (some .int) 1 := ⟨gTs_t (tb_2 (List.mem_of_getElem? (i := 186) rfl)) rfl, wI_X1, by decide +kernel, by decide +kernel, by decide +kernel⟩
theorem mi_X1_contentOf : Cond.instanceMethod yX1_contentOf ∈ gTs := gTs_t (tb_2 (List.mem_of_getElem? (i := 184) rfl)) rfl
theorem mm_X1_contentOf : gMi yX1_contentOf cX1_contentOf 3 (some .int) 1 := ⟨mt_X1_contentOf, mi_X1_contentOf, gTs_t (tb_2 (List.mem_of_getElem? (i := 185) rfl)) rfl⟩
theorem mt_X1_serverOf : gMth yX1_serverOf cX1_serverOf 3 (some .int) 1 := ⟨gTs_t (tb_2 (List.mem_of_getElem? (i := 190) rfl)) rfl, wI_X1, by decide +kernel, by decide +kernel, by decide +kernel⟩
theorem mi_X1_serverOf : Cond.instanceMethod yX1_serverOf ∈ gTs := gTs_t (tb_2 (List.mem_of_getElem? (i := 188) rfl)) rfl
theorem mm_X1_serverOf : gMi yX1_serverOf cX1_serverOf 3 (some .int) 1 := ⟨mt_X1_serverOf, mi_X1_serverOf, gTs_t (tb_2 (List.mem_of_getElem? (i := 189) rfl)) rfl⟩
theorem mt_X1_doesServe : gMth yX1_doesServe cX1_doesServe 3 (some .boolean) 2 := ⟨gTs_t (tb_2 (List.mem_of_getElem? (i := 194) rfl)) rfl, wI_X1, by decide +kernel, by decide +kernel, by decide +kernel⟩
theorem mi_X1_doesServe : Cond.instanceMethod yX1_doesServe ∈ gTs := gTs_t (tb_2 (List.mem_of_getElem? (i := 193) rfl)) rfl
theorem mm_X1_doesServe : gMi yX1_doesServe cX1_doesServe 3 (some .boolean) 2 := ⟨mt_X1_doesServe, mi_X1_doesServe, gTs_p (q := (yX1_doesServe, 16)) (List.mem_of_getElem? (i := 13) (by decide +kernel)) (by decide +kernel)⟩
theorem mt_X1_canServe : gMth yX1_canServe cX1_canServe 3 (some .boolean) 2 := ⟨gTs_t (tb_2 (List.mem_of_getElem? (i := 198) rfl)) rfl, wI_X1, by decide +kernel, by decide +kernel, by decide +kernel⟩
theorem mi_X1_canServe : Cond.instanceMethod yX1_canServe ∈ gTs := gTs_t (tb_2 (List.mem_of_getElem? (i := 196) rfl)) rfl
theorem mm_X1_canServe : gMi yX1_canServe cX1_canServe 3 (some .boolean) 2 := ⟨mt_X1_canServe, mi_X1_canServe, gTs_t (tb_2 (List.mem_of_getElem? (i := 197) rfl)) rfl⟩
theorem mt_X1_contentBy : gMth yX1_contentBy cX1_contentBy 3 (some .int) 2 := ⟨gTs_t (tb_2 (List.mem_of_getElem? (i := 202) rfl)) rfl, wI_X1, by decide +kernel, by decide +kernel, by decide +kernel⟩
theorem mi_X1_contentBy : Cond.instanceMethod yX1_contentBy ∈ gTs := gTs_t (tb_2 (List.mem_of_getElem? (i := 200) rfl)) rfl
theorem mm_X1_contentBy : gMi yX1_contentBy cX1_contentBy 3 (some .int) 2 := ⟨mt_X1_contentBy, mi_X1_contentBy, gTs_t (tb_2 (List.mem_of_getElem? (i := 201) rfl)) rfl⟩
theorem mt_X4_contentBy : gMth yX4_contentBy cX4_contentBy 3 (some .int) 2 := ⟨gTs_t (tb_2 (List.mem_of_getElem? (i := 227) rfl)) rfl, wI_X4, by decide +kernel, by decide +kernel, by decide +kernel⟩
theorem mi_X4_contentBy : Cond.instanceMethod yX4_contentBy ∈ gTs := gTs_t (tb_2 (List.mem_of_getElem? (i := 204) rfl)) rfl
theorem mm_X4_contentBy : gMi yX4_contentBy cX4_contentBy 3 (some .int) 2 := ⟨mt_X4_contentBy, mi_X4_contentBy, gTs_t (tb_2 (List.mem_of_getElem? (i := 205) rfl)) rfl⟩
theorem mt_X0_contentBy : gMth yX0_contentBy cX0_contentBy 3 (some .int) 2 := ⟨gTs_t (tb_2 (List.mem_of_getElem? (i := 209) rfl)) rfl, wI_X0, by decide +kernel, by decide +kernel, by decide +kernel⟩
theorem mi_X0_contentBy : Cond.instanceMethod yX0_contentBy ∈ gTs := gTs_t (tb_2 (List.mem_of_getElem? (i := 208) rfl)) rfl
theorem mt_X2_contentBy : gMth yX2_contentBy cX2_contentBy 3 (some .int) 2 := ⟨gTs_t (tb_2 (List.mem_of_getElem? (i := 213) rfl)) rfl, wI_X2, by decide +kernel, by decide +kernel, by decide +kernel⟩
theorem mi_X2_contentBy : Cond.instanceMethod yX2_contentBy ∈ gTs := gTs_t (tb_2 (List.mem_of_getElem? (i := 212) rfl)) rfl
theorem mt_X6_contentBy : gMth yX6_contentBy cX6_contentBy 4 (some .int) 2 := ⟨gTs_t (tb_2 (List.mem_of_getElem? (i := 216) rfl)) rfl, wI_X6, by decide +kernel, by decide +kernel, by decide +kernel⟩
theorem mi_X6_contentBy : Cond.instanceMethod yX6_contentBy ∈ gTs := gTs_t (tb_2 (List.mem_of_getElem? (i := 215) rfl)) rfl
theorem mt_X5_contentBy : gMth yX5_contentBy cX5_contentBy 3 (some .int) 2 := ⟨gTs_t (tb_2 (List.mem_of_getElem? (i := 220) rfl)) rfl, wI_X5, by decide +kernel, by decide +kernel, by decide +kernel⟩
theorem mi_X5_contentBy : Cond.instanceMethod yX5_contentBy ∈ gTs := gTs_t (tb_2 (List.mem_of_getElem? (i := 219) rfl)) rfl
theorem mt_X8_contentBy : gMth yX8_contentBy cX8_contentBy 4 (some .int) 2 := ⟨gTs_t (tb_2 (List.mem_of_getElem? (i := 225) rfl)) rfl, wI_X8, by decide +kernel, by decide +kernel, by decide +kernel⟩
theorem mi_X8_contentBy : Cond.instanceMethod yX8_contentBy ∈ gTs := gTs_t (tb_2 (List.mem_of_getElem? (i := 224) rfl)) rfl
theorem mt_X10_undo : gMth yX10_undo cX10_undo 1 (some .int) 0 := ⟨gTs_t (tb_2 (List.mem_of_getElem? (i := 231) rfl)) rfl, wI_X10, by decide +kernel, by decide +kernel, by decide +kernel⟩
theorem mi_X10_undo : Cond.instanceMethod yX10_undo ∈ gTs := gTs_t (tb_2 (List.mem_of_getElem? (i := 229) rfl)) rfl
theorem mm_X10_undo : gMi yX10_undo cX10_undo 1 (some .int) 0 := ⟨mt_X10_undo, mi_X10_undo, gTs_t (tb_2 (List.mem_of_getElem? (i := 230) rfl)) rfl⟩
theorem mt_X10_refuseNo : gMth yX10_refuseNo cX10_refuseNo 1 (some .int) 0 := ⟨gTs_t (tb_2 (List.mem_of_getElem? (i := 235) rfl)) rfl, wI_X10, by decide +kernel, by decide +kernel, by decide +kernel⟩
theorem mi_X10_refuseNo : Cond.instanceMethod yX10_refuseNo ∈ gTs := gTs_t (tb_2 (List.mem_of_getElem? (i := 234) rfl)) rfl
theorem mm_X10_refuseNo : gMi yX10_refuseNo cX10_refuseNo 1 (some .int) 0 := ⟨mt_X10_refuseNo, mi_X10_refuseNo, gTs_p (q := (yX10_refuseNo, 9)) (List.mem_of_getElem? (i := 14) (by decide +kernel)) (by decide +kernel)⟩
theorem mt_X1_recall : gMth yX1_recall cX1_recall 1 none 0 := ⟨gTs_t (tb_2 (List.mem_of_getElem? (i := 239) rfl)) rfl, wI_X1, by decide +kernel, by decide +kernel, by decide +kernel⟩
theorem mi_X1_recall : Cond.instanceMethod yX1_recall ∈ gTs := gTs_t (tb_2 (List.mem_of_getElem? (i := 237) rfl)) rfl
theorem mm_X1_recall : gMi yX1_recall cX1_recall 1 none 0 := ⟨mt_X1_recall, mi_X1_recall, gTs_t (tb_2 (List.mem_of_getElem? (i := 238) rfl)) rfl⟩
theorem mt_X10_of : gMth yX10_of cX10_of 3 (some .int) 2 := ⟨gTs_t (tb_3 (List.mem_of_getElem? (i := 3) rfl)) rfl, wI_X10, by decide +kernel, by decide +kernel, by decide +kernel⟩
theorem mi_X10_of : Cond.instanceMethod yX10_of ∈ gTs := gTs_t (tb_3 (List.mem_of_getElem? (i := 1) rfl)) rfl
theorem mm_X10_of : gMi yX10_of cX10_of 3 (some .int) 2 := ⟨mt_X10_of, mi_X10_of, gTs_t (tb_3 (List.mem_of_getElem? (i := 2) rfl)) rfl⟩
theorem mt_X10_can : gMth yX10_can cX10_can 3 (some .int) 2 := ⟨gTs_t (tb_3 (List.mem_of_getElem? (i := 9) rfl)) rfl, wI_X10, by decide +kernel, by decide +kernel, by decide +kernel⟩
theorem mi_X10_can : Cond.instanceMethod yX10_can ∈ gTs := gTs_t (tb_3 (List.mem_of_getElem? (i := 7) rfl)) rfl
theorem mm_X10_can : gMi yX10_can cX10_can 3 (some .int) 2 := ⟨mt_X10_can, mi_X10_can, gTs_t (tb_3 (List.mem_of_getElem? (i := 8) rfl)) rfl⟩
theorem mt_X10_work : gMth yX10_work cX10_work 3 (some .int) 2 := ⟨gTs_t (tb_3 (List.mem_of_getElem? (i := 14) rfl)) rfl, wI_X10, by decide +kernel, by decide +kernel, by decide +kernel⟩
theorem mi_X10_work : Cond.instanceMethod yX10_work ∈ gTs := gTs_t (tb_3 (List.mem_of_getElem? (i := 12) rfl)) rfl
theorem mm_X10_work : gMi yX10_work cX10_work 3 (some .int) 2 := ⟨mt_X10_work, mi_X10_work, gTs_t (tb_3 (List.mem_of_getElem? (i := 13) rfl)) rfl⟩
theorem mt_X1_workFor : gMth yX1_workFor cX1_workFor 3 (some .int) 2 := ⟨gTs_t (tb_3 (List.mem_of_getElem? (i := 18) rfl)) rfl, wI_X1, by decide +kernel, by decide +kernel, by decide +kernel⟩
theorem mi_X1_workFor : Cond.instanceMethod yX1_workFor ∈ gTs := gTs_t (tb_3 (List.mem_of_getElem? (i := 16) rfl)) rfl
theorem mm_X1_workFor : gMi yX1_workFor cX1_workFor 3 (some .int) 2 := ⟨mt_X1_workFor, mi_X1_workFor, gTs_t (tb_3 (List.mem_of_getElem? (i := 17) rfl)) rfl⟩
theorem mt_X4_workOn : gMth yX4_workOn cX4_workOn 2 (some .int) 1 := ⟨gTs_t (tb_3 (List.mem_of_getElem? (i := 37) rfl)) rfl, wI_X4, by decide +kernel, by decide +kernel, by decide +kernel⟩
theorem mi_X4_workOn : Cond.instanceMethod yX4_workOn ∈ gTs := gTs_t (tb_3 (List.mem_of_getElem? (i := 20) rfl)) rfl
theorem mm_X4_workOn : gMi yX4_workOn cX4_workOn 2 (some .int) 1 := ⟨mt_X4_workOn, mi_X4_workOn, gTs_t (tb_3 (List.mem_of_getElem? (i := 21) rfl)) rfl⟩
theorem mt_X0_workOn : gMth yX0_workOn cX0_workOn 2 (some .int) 1 := ⟨gTs_t (tb_3 (List.mem_of_getElem? (i := 25) rfl)) rfl, wI_X0, by decide +kernel, by decide +kernel, by decide +kernel⟩
theorem mi_X0_workOn : Cond.instanceMethod yX0_workOn ∈ gTs := gTs_t (tb_3 (List.mem_of_getElem? (i := 24) rfl)) rfl
theorem mt_X6_workOn : gMth yX6_workOn cX6_workOn 2 (some .int) 1 := ⟨gTs_t (tb_3 (List.mem_of_getElem? (i := 29) rfl)) rfl, wI_X6, by decide +kernel, by decide +kernel, by decide +kernel⟩
theorem mi_X6_workOn : Cond.instanceMethod yX6_workOn ∈ gTs := gTs_t (tb_3 (List.mem_of_getElem? (i := 28) rfl)) rfl
theorem mt_X5_workOn : gMth yX5_workOn cX5_workOn 2 (some .int) 1 := ⟨gTs_t (tb_3 (List.mem_of_getElem? (i := 33) rfl)) rfl, wI_X5, by decide +kernel, by decide +kernel, by decide +kernel⟩
theorem mi_X5_workOn : Cond.instanceMethod yX5_workOn ∈ gTs := gTs_t (tb_3 (List.mem_of_getElem? (i := 32) rfl)) rfl
theorem mt_X10_all : gMth yX10_all cX10_all 2 (some .int) 1 := ⟨gTs_t (tb_3 (List.mem_of_getElem? (i := 41) rfl)) rfl, wI_X10, by decide +kernel, by decide +kernel, by decide +kernel⟩
theorem mi_X10_all : Cond.instanceMethod yX10_all ∈ gTs := gTs_t (tb_3 (List.mem_of_getElem? (i := 39) rfl)) rfl
theorem mm_X10_all : gMi yX10_all cX10_all 2 (some .int) 1 := ⟨mt_X10_all, mi_X10_all, gTs_t (tb_3 (List.mem_of_getElem? (i := 40) rfl)) rfl⟩
theorem mt_X7_gather : gMth yX7_gather cX7_gather 6 none 3 := ⟨gTs_t (tb_3 (List.mem_of_getElem? (i := 45) rfl)) rfl, wI_X7, by decide +kernel, by decide +kernel, by decide +kernel⟩
theorem mi_X7_gather : Cond.instanceMethod yX7_gather ∈ gTs := gTs_t (tb_3 (List.mem_of_getElem? (i := 43) rfl)) rfl
theorem mm_X7_gather : gMi yX7_gather cX7_gather 6 none 3 := ⟨mt_X7_gather, mi_X7_gather, gTs_t (tb_3 (List.mem_of_getElem? (i := 44) rfl)) rfl⟩
theorem mt_X7_costOf : gMth yX7_costOf cX7_costOf 4 (some .int) 4 := ⟨gTs_t (tb_3 (List.mem_of_getElem? (i := 49) rfl)) rfl, wI_X7, by decide +kernel, by decide +kernel, by decide +kernel⟩
theorem mm_X7_costOf : gMs yX7_costOf cX7_costOf 4 (some .int) 4 := ⟨mt_X7_costOf, gTs_t (tb_3 (List.mem_of_getElem? (i := 48) rfl)) rfl⟩
theorem mt_X7_ways : gMth yX7_ways cX7_ways 5 (some .int) 0 := ⟨gTs_t (tb_3 (List.mem_of_getElem? (i := 55) rfl)) rfl, wI_X7, by decide +kernel, by decide +kernel, by decide +kernel⟩
theorem mi_X7_ways : Cond.instanceMethod yX7_ways ∈ gTs := gTs_t (tb_3 (List.mem_of_getElem? (i := 53) rfl)) rfl
theorem mm_X7_ways : gMi yX7_ways cX7_ways 5 (some .int) 0 := ⟨mt_X7_ways, mi_X7_ways, gTs_t (tb_3 (List.mem_of_getElem? (i := 54) rfl)) rfl⟩
theorem mt_X7_isOpen : gMth yX7_isOpen cX7_isOpen 4 (some .boolean) 2 := ⟨gTs_t (tb_3 (List.mem_of_getElem? (i := 59) rfl)) rfl, wI_X7, by decide +kernel, by decide +kernel, by decide +kernel⟩
theorem mi_X7_isOpen : Cond.instanceMethod yX7_isOpen ∈ gTs := gTs_t (tb_3 (List.mem_of_getElem? (i := 58) rfl)) rfl
theorem mm_X7_isOpen : gMi yX7_isOpen cX7_isOpen 4 (some .boolean) 2 := ⟨mt_X7_isOpen, mi_X7_isOpen, gTs_p (q := (yX7_isOpen, 5)) (List.mem_of_getElem? (i := 15) (by decide +kernel)) (by decide +kernel)⟩
theorem mt_J6_bitCount_0f7a4 : gMth yJ6_bitCount_0f7a4 cJ6_bitCount_0f7a4 1 (some .int) 1 := ⟨gTs_t (tb_3 (List.mem_of_getElem? (i := 62) rfl)) rfl, wI_J6, by decide +kernel, by decide +kernel, by decide +kernel⟩
theorem mm_J6_bitCount_0f7a4 : gMs yJ6_bitCount_0f7a4 cJ6_bitCount_0f7a4 1 (some .int) 1 := ⟨mt_J6_bitCount_0f7a4, gTs_t (tb_3 (List.mem_of_getElem? (i := 61) rfl)) rfl⟩
theorem mt_X7_dutyInBest : gMth yX7_dutyInBest cX7_dutyInBest 5 (some .int) 1 := ⟨gTs_t (tb_3 (List.mem_of_getElem? (i := 69) rfl)) rfl, wI_X7, by decide +kernel, by decide +kernel, by decide +kernel⟩
theorem mi_X7_dutyInBest : Cond.instanceMethod yX7_dutyInBest ∈ gTs := gTs_t (tb_3 (List.mem_of_getElem? (i := 67) rfl)) rfl
theorem mm_X7_dutyInBest : gMi yX7_dutyInBest cX7_dutyInBest 5 (some .int) 1 := ⟨mt_X7_dutyInBest, mi_X7_dutyInBest, gTs_t (tb_3 (List.mem_of_getElem? (i := 68) rfl)) rfl⟩
theorem mt_X7_leastCost : gMth yX7_leastCost cX7_leastCost 5 (some .int) 0 := ⟨gTs_t (tb_3 (List.mem_of_getElem? (i := 73) rfl)) rfl, wI_X7, by decide +kernel, by decide +kernel, by decide +kernel⟩
theorem mi_X7_leastCost : Cond.instanceMethod yX7_leastCost ∈ gTs := gTs_t (tb_3 (List.mem_of_getElem? (i := 71) rfl)) rfl
theorem mm_X7_leastCost : gMi yX7_leastCost cX7_leastCost 5 (some .int) 0 := ⟨mt_X7_leastCost, mi_X7_leastCost, gTs_t (tb_3 (List.mem_of_getElem? (i := 72) rfl)) rfl⟩
theorem mt_X7_costThrough : gMth yX7_costThrough cX7_costThrough 4 (some .int) 2 := ⟨gTs_t (tb_3 (List.mem_of_getElem? (i := 78) rfl)) rfl, wI_X7, by decide +kernel, by decide +kernel, by decide +kernel⟩
theorem mi_X7_costThrough : Cond.instanceMethod yX7_costThrough ∈ gTs := gTs_t (tb_3 (List.mem_of_getElem? (i := 77) rfl)) rfl
theorem mm_X7_costThrough : gMi yX7_costThrough cX7_costThrough 4 (some .int) 2 := ⟨mt_X7_costThrough, mi_X7_costThrough, gTs_p (q := (yX7_costThrough, 5)) (List.mem_of_getElem? (i := 16) (by decide +kernel)) (by decide +kernel)⟩
theorem mt_X7_firstBest : gMth yX7_firstBest cX7_firstBest 3 (some .int) 1 := ⟨gTs_t (tb_3 (List.mem_of_getElem? (i := 83) rfl)) rfl, wI_X7, by decide +kernel, by decide +kernel, by decide +kernel⟩
theorem mi_X7_firstBest : Cond.instanceMethod yX7_firstBest ∈ gTs := gTs_t (tb_3 (List.mem_of_getElem? (i := 82) rfl)) rfl
theorem mm_X7_firstBest : gMi yX7_firstBest cX7_firstBest 3 (some .int) 1 := ⟨mt_X7_firstBest, mi_X7_firstBest, gTs_p (q := (yX7_firstBest, 5)) (List.mem_of_getElem? (i := 17) (by decide +kernel)) (by decide +kernel)⟩
theorem mt_X10_least : gMth yX10_least cX10_least 2 (some .int) 0 := ⟨gTs_t (tb_3 (List.mem_of_getElem? (i := 87) rfl)) rfl, wI_X10, by decide +kernel, by decide +kernel, by decide +kernel⟩
theorem mi_X10_least : Cond.instanceMethod yX10_least ∈ gTs := gTs_t (tb_3 (List.mem_of_getElem? (i := 85) rfl)) rfl
theorem mm_X10_least : gMi yX10_least cX10_least 2 (some .int) 0 := ⟨mt_X10_least, mi_X10_least, gTs_t (tb_3 (List.mem_of_getElem? (i := 86) rfl)) rfl⟩
theorem mt_X10_most : gMth yX10_most cX10_most 3 (some .int) 1 := ⟨gTs_t (tb_3 (List.mem_of_getElem? (i := 93) rfl)) rfl, wI_X10, by decide +kernel, by decide +kernel, by decide +kernel⟩
theorem mi_X10_most : Cond.instanceMethod yX10_most ∈ gTs := gTs_t (tb_3 (List.mem_of_getElem? (i := 91) rfl)) rfl
theorem mm_X10_most : gMi yX10_most cX10_most 3 (some .int) 1 := ⟨mt_X10_most, mi_X10_most, gTs_t (tb_3 (List.mem_of_getElem? (i := 92) rfl)) rfl⟩
theorem mt_X10_lone : gMth yX10_lone cX10_lone 3 (some .int) 0 := ⟨gTs_t (tb_3 (List.mem_of_getElem? (i := 97) rfl)) rfl, wI_X10, by decide +kernel, by decide +kernel, by decide +kernel⟩
theorem mi_X10_lone : Cond.instanceMethod yX10_lone ∈ gTs := gTs_t (tb_3 (List.mem_of_getElem? (i := 95) rfl)) rfl
theorem mm_X10_lone : gMi yX10_lone cX10_lone 3 (some .int) 0 := ⟨mt_X10_lone, mi_X10_lone, gTs_t (tb_3 (List.mem_of_getElem? (i := 96) rfl)) rfl⟩
theorem mt_X1_isServable : gMth yX1_isServable cX1_isServable 3 (some .boolean) 1 := ⟨gTs_t (tb_3 (List.mem_of_getElem? (i := 101) rfl)) rfl, wI_X1, by decide +kernel, by decide +kernel, by decide +kernel⟩
theorem mi_X1_isServable : Cond.instanceMethod yX1_isServable ∈ gTs := gTs_t (tb_3 (List.mem_of_getElem? (i := 99) rfl)) rfl
theorem mm_X1_isServable : gMi yX1_isServable cX1_isServable 3 (some .boolean) 1 := ⟨mt_X1_isServable, mi_X1_isServable, gTs_t (tb_3 (List.mem_of_getElem? (i := 100) rfl)) rfl⟩
theorem mt_X10_rings : gMth yX10_rings cX10_rings 4 (some .int) 1 := ⟨gTs_t (tb_3 (List.mem_of_getElem? (i := 105) rfl)) rfl, wI_X10, by decide +kernel, by decide +kernel, by decide +kernel⟩
theorem mi_X10_rings : Cond.instanceMethod yX10_rings ∈ gTs := gTs_t (tb_3 (List.mem_of_getElem? (i := 103) rfl)) rfl
theorem mm_X10_rings : gMi yX10_rings cX10_rings 4 (some .int) 1 := ⟨mt_X10_rings, mi_X10_rings, gTs_t (tb_3 (List.mem_of_getElem? (i := 104) rfl)) rfl⟩
theorem mt_X1_ringOf : gMth yX1_ringOf cX1_ringOf 4 (some .int) 1 := ⟨gTs_t (tb_3 (List.mem_of_getElem? (i := 109) rfl)) rfl, wI_X1, by decide +kernel, by decide +kernel, by decide +kernel⟩
theorem mi_X1_ringOf : Cond.instanceMethod yX1_ringOf ∈ gTs := gTs_t (tb_3 (List.mem_of_getElem? (i := 107) rfl)) rfl
theorem mm_X1_ringOf : gMi yX1_ringOf cX1_ringOf 4 (some .int) 1 := ⟨mt_X1_ringOf, mi_X1_ringOf, gTs_t (tb_3 (List.mem_of_getElem? (i := 108) rfl)) rfl⟩
theorem mt_X10_smallest : gMth yX10_smallest cX10_smallest 5 (some .int) 0 := ⟨gTs_t (tb_3 (List.mem_of_getElem? (i := 113) rfl)) rfl, wI_X10, by decide +kernel, by decide +kernel, by decide +kernel⟩
theorem mi_X10_smallest : Cond.instanceMethod yX10_smallest ∈ gTs := gTs_t (tb_3 (List.mem_of_getElem? (i := 111) rfl)) rfl
theorem mm_X10_smallest : gMi yX10_smallest cX10_smallest 5 (some .int) 0 := ⟨mt_X10_smallest, mi_X10_smallest, gTs_t (tb_3 (List.mem_of_getElem? (i := 112) rfl)) rfl⟩
theorem mt_X10_closes : gMth yX10_closes cX10_closes 3 (some .boolean) 2 := ⟨gTs_t (tb_3 (List.mem_of_getElem? (i := 118) rfl)) rfl, wI_X10, by decide +kernel, by decide +kernel, by decide +kernel⟩
theorem mi_X10_closes : Cond.instanceMethod yX10_closes ∈ gTs := gTs_t (tb_3 (List.mem_of_getElem? (i := 117) rfl)) rfl
theorem mm_X10_closes : gMi yX10_closes cX10_closes 3 (some .boolean) 2 := ⟨mt_X10_closes, mi_X10_closes, gTs_p (q := (yX10_closes, 9)) (List.mem_of_getElem? (i := 18) (by decide +kernel)) (by decide +kernel)⟩
theorem mt_X10_swap : gMth yX10_swap cX10_swap 5 (some .int) 1 := ⟨gTs_t (tb_3 (List.mem_of_getElem? (i := 122) rfl)) rfl, wI_X10, by decide +kernel, by decide +kernel, by decide +kernel⟩
theorem mi_X10_swap : Cond.instanceMethod yX10_swap ∈ gTs := gTs_t (tb_3 (List.mem_of_getElem? (i := 120) rfl)) rfl
theorem mm_X10_swap : gMi yX10_swap cX10_swap 5 (some .int) 1 := ⟨mt_X10_swap, mi_X10_swap, gTs_t (tb_3 (List.mem_of_getElem? (i := 121) rfl)) rfl⟩
theorem mt_X1_wouldSwap : gMth yX1_wouldSwap cX1_wouldSwap 5 (some .boolean) 2 := ⟨gTs_t (tb_3 (List.mem_of_getElem? (i := 126) rfl)) rfl, wI_X1, by decide +kernel, by decide +kernel, by decide +kernel⟩
theorem mi_X1_wouldSwap : Cond.instanceMethod yX1_wouldSwap ∈ gTs := gTs_t (tb_3 (List.mem_of_getElem? (i := 124) rfl)) rfl
theorem mm_X1_wouldSwap : gMi yX1_wouldSwap cX1_wouldSwap 5 (some .boolean) 2 := ⟨mt_X1_wouldSwap, mi_X1_wouldSwap, gTs_t (tb_3 (List.mem_of_getElem? (i := 125) rfl)) rfl⟩
theorem mt_X1_wouldRather : gMth yX1_wouldRather cX1_wouldRather 4 (some .boolean) 3 := ⟨gTs_t (tb_3 (List.mem_of_getElem? (i := 130) rfl)) rfl, wI_X1, by decide +kernel, by decide +kernel, by decide +kernel⟩
theorem mi_X1_wouldRather : Cond.instanceMethod yX1_wouldRather ∈ gTs := gTs_t (tb_3 (List.mem_of_getElem? (i := 129) rfl)) rfl
theorem mm_X1_wouldRather : gMi yX1_wouldRather cX1_wouldRather 4 (some .boolean) 3 := ⟨mt_X1_wouldRather, mi_X1_wouldRather, gTs_p (q := (yX1_wouldRather, 16)) (List.mem_of_getElem? (i := 19) (by decide +kernel)) (by decide +kernel)⟩
theorem mt_X10_takeIn : gMth yX10_takeIn cX10_takeIn 5 (some .int) 1 := ⟨gTs_t (tb_3 (List.mem_of_getElem? (i := 134) rfl)) rfl, wI_X10, by decide +kernel, by decide +kernel, by decide +kernel⟩
theorem mi_X10_takeIn : Cond.instanceMethod yX10_takeIn ∈ gTs := gTs_t (tb_3 (List.mem_of_getElem? (i := 132) rfl)) rfl
theorem mm_X10_takeIn : gMi yX10_takeIn cX10_takeIn 5 (some .int) 1 := ⟨mt_X10_takeIn, mi_X10_takeIn, gTs_t (tb_3 (List.mem_of_getElem? (i := 133) rfl)) rfl⟩
theorem mt_X10_note : gMth yX10_note cX10_note 7 (some .int) 5 := ⟨gTs_t (tb_3 (List.mem_of_getElem? (i := 138) rfl)) rfl, wI_X10, by decide +kernel, by decide +kernel, by decide +kernel⟩
theorem mi_X10_note : Cond.instanceMethod yX10_note ∈ gTs := gTs_t (tb_3 (List.mem_of_getElem? (i := 136) rfl)) rfl
theorem mm_X10_note : gMi yX10_note cX10_note 7 (some .int) 5 := ⟨mt_X10_note, mi_X10_note, gTs_t (tb_3 (List.mem_of_getElem? (i := 137) rfl)) rfl⟩
theorem mt_X3_add : gMth yX3_add cX3_add 7 (some .int) 5 := ⟨gTs_t (tb_3 (List.mem_of_getElem? (i := 142) rfl)) rfl, wI_X3, by decide +kernel, by decide +kernel, by decide +kernel⟩
theorem mi_X3_add : Cond.instanceMethod yX3_add ∈ gTs := gTs_t (tb_3 (List.mem_of_getElem? (i := 140) rfl)) rfl
theorem mm_X3_add : gMi yX3_add cX3_add 7 (some .int) 5 := ⟨mt_X3_add, mi_X3_add, gTs_t (tb_3 (List.mem_of_getElem? (i := 141) rfl)) rfl⟩
theorem mt_X10_forget : gMth yX10_forget cX10_forget 2 (some .int) 0 := ⟨gTs_t (tb_3 (List.mem_of_getElem? (i := 146) rfl)) rfl, wI_X10, by decide +kernel, by decide +kernel, by decide +kernel⟩
theorem mi_X10_forget : Cond.instanceMethod yX10_forget ∈ gTs := gTs_t (tb_3 (List.mem_of_getElem? (i := 144) rfl)) rfl
theorem mm_X10_forget : gMi yX10_forget cX10_forget 2 (some .int) 0 := ⟨mt_X10_forget, mi_X10_forget, gTs_t (tb_3 (List.mem_of_getElem? (i := 145) rfl)) rfl⟩
theorem mt_X10_wants : gMth yX10_wants cX10_wants 2 (some .int) 1 := ⟨gTs_t (tb_3 (List.mem_of_getElem? (i := 150) rfl)) rfl, wI_X10, by decide +kernel, by decide +kernel, by decide +kernel⟩
theorem mi_X10_wants : Cond.instanceMethod yX10_wants ∈ gTs := gTs_t (tb_3 (List.mem_of_getElem? (i := 148) rfl)) rfl
theorem mm_X10_wants : gMi yX10_wants cX10_wants 2 (some .int) 1 := ⟨mt_X10_wants, mi_X10_wants, gTs_t (tb_3 (List.mem_of_getElem? (i := 149) rfl)) rfl⟩
theorem mt_X1_wantsThatFit : gMth yX1_wantsThatFit cX1_wantsThatFit 3 (some .int) 2 := ⟨gTs_t (tb_3 (List.mem_of_getElem? (i := 154) rfl)) rfl, wI_X1, by decide +kernel, by decide +kernel, by decide +kernel⟩
theorem mi_X1_wantsThatFit : Cond.instanceMethod yX1_wantsThatFit ∈ gTs := gTs_t (tb_3 (List.mem_of_getElem? (i := 152) rfl)) rfl
theorem mm_X1_wantsThatFit : gMi yX1_wantsThatFit cX1_wantsThatFit 3 (some .int) 2 := ⟨mt_X1_wantsThatFit, mi_X1_wantsThatFit, gTs_t (tb_3 (List.mem_of_getElem? (i := 153) rfl)) rfl⟩
theorem mt_X3_wantsThatFit : gMth yX3_wantsThatFit cX3_wantsThatFit 5 (some .int) 2 := ⟨gTs_t (tb_3 (List.mem_of_getElem? (i := 158) rfl)) rfl, wI_X3, by decide +kernel, by decide +kernel, by decide +kernel⟩
theorem mi_X3_wantsThatFit : Cond.instanceMethod yX3_wantsThatFit ∈ gTs := gTs_t (tb_3 (List.mem_of_getElem? (i := 156) rfl)) rfl
theorem mm_X3_wantsThatFit : gMi yX3_wantsThatFit cX3_wantsThatFit 5 (some .int) 2 := ⟨mt_X3_wantsThatFit, mi_X3_wantsThatFit, gTs_t (tb_3 (List.mem_of_getElem? (i := 157) rfl)) rfl⟩
theorem mt_X3_allFit : gMth yX3_allFit cX3_allFit 7 (some .boolean) 3 := ⟨gTs_t (tb_3 (List.mem_of_getElem? (i := 162) rfl)) rfl, wI_X3, by decide +kernel, by decide +kernel, by decide +kernel⟩
theorem mi_X3_allFit : Cond.instanceMethod yX3_allFit ∈ gTs := gTs_t (tb_3 (List.mem_of_getElem? (i := 161) rfl)) rfl
theorem mm_X3_allFit : gMi yX3_allFit cX3_allFit 7 (some .boolean) 3 := ⟨mt_X3_allFit, mi_X3_allFit, gTs_p (q := (yX3_allFit, 2)) (List.mem_of_getElem? (i := 20) (by decide +kernel)) (by decide +kernel)⟩
theorem mt_X10_is : gMth yX10_is cX10_is 4 (some .int) 1 := ⟨gTs_t (tb_3 (List.mem_of_getElem? (i := 167) rfl)) rfl, wI_X10, by decide +kernel, by decide +kernel, by decide +kernel⟩
theorem mi_X10_is : Cond.instanceMethod yX10_is ∈ gTs := gTs_t (tb_3 (List.mem_of_getElem? (i := 165) rfl)) rfl
theorem mm_X10_is : gMi yX10_is cX10_is 4 (some .int) 1 := ⟨mt_X10_is, mi_X10_is, gTs_t (tb_3 (List.mem_of_getElem? (i := 166) rfl)) rfl⟩
theorem mt_X10_next : gMth yX10_next cX10_next 8 (some .int) 1 := ⟨gTs_t (tb_3 (List.mem_of_getElem? (i := 171) rfl)) rfl, wI_X10, by decide +kernel, by decide +kernel, by decide +kernel⟩
theorem mi_X10_next : Cond.instanceMethod yX10_next ∈ gTs := gTs_t (tb_3 (List.mem_of_getElem? (i := 169) rfl)) rfl
theorem mm_X10_next : gMi yX10_next cX10_next 8 (some .int) 1 := ⟨mt_X10_next, mi_X10_next, gTs_t (tb_3 (List.mem_of_getElem? (i := 170) rfl)) rfl⟩
theorem mt_J9_max_7cf53 : gMth yJ9_max_7cf53 cJ9_max_7cf53 2 (some .int) 2 := ⟨gTs_t (tb_3 (List.mem_of_getElem? (i := 174) rfl)) rfl, wI_J9, by decide +kernel, by decide +kernel, by decide +kernel⟩
theorem mm_J9_max_7cf53 : gMs yJ9_max_7cf53 cJ9_max_7cf53 2 (some .int) 2 := ⟨mt_J9_max_7cf53, gTs_t (tb_3 (List.mem_of_getElem? (i := 173) rfl)) rfl⟩
theorem mt_X10_tips : gMth yX10_tips cX10_tips 4 (some .int) 2 := ⟨gTs_t (tb_3 (List.mem_of_getElem? (i := 178) rfl)) rfl, wI_X10, by decide +kernel, by decide +kernel, by decide +kernel⟩
theorem mi_X10_tips : Cond.instanceMethod yX10_tips ∈ gTs := gTs_t (tb_3 (List.mem_of_getElem? (i := 176) rfl)) rfl
theorem mm_X10_tips : gMi yX10_tips cX10_tips 4 (some .int) 2 := ⟨mt_X10_tips, mi_X10_tips, gTs_t (tb_3 (List.mem_of_getElem? (i := 177) rfl)) rfl⟩
theorem mt_X10_moods : gMth yX10_moods cX10_moods 4 (some .int) 1 := ⟨gTs_t (tb_3 (List.mem_of_getElem? (i := 182) rfl)) rfl, wI_X10, by decide +kernel, by decide +kernel, by decide +kernel⟩
theorem mi_X10_moods : Cond.instanceMethod yX10_moods ∈ gTs := gTs_t (tb_3 (List.mem_of_getElem? (i := 180) rfl)) rfl
theorem mm_X10_moods : gMi yX10_moods cX10_moods 4 (some .int) 1 := ⟨mt_X10_moods, mi_X10_moods, gTs_t (tb_3 (List.mem_of_getElem? (i := 181) rfl)) rfl⟩
theorem mt_X1_serversOf : gMth yX1_serversOf cX1_serversOf 4 (some .int) 1 := ⟨gTs_t (tb_3 (List.mem_of_getElem? (i := 186) rfl)) rfl, wI_X1, by decide +kernel, by decide +kernel, by decide +kernel⟩
theorem mi_X1_serversOf : Cond.instanceMethod yX1_serversOf ∈ gTs := gTs_t (tb_3 (List.mem_of_getElem? (i := 184) rfl)) rfl
theorem mm_X1_serversOf : gMi yX1_serversOf cX1_serversOf 4 (some .int) 1 := ⟨mt_X1_serversOf, mi_X1_serversOf, gTs_t (tb_3 (List.mem_of_getElem? (i := 185) rfl)) rfl⟩
theorem mt_X10_oddsOfNone : gMth yX10_oddsOfNone cX10_oddsOfNone 4 (some .int) 2 := ⟨gTs_t (tb_3 (List.mem_of_getElem? (i := 189) rfl)) rfl, wI_X10, by decide +kernel, by decide +kernel, by decide +kernel⟩
theorem mm_X10_oddsOfNone : gMs yX10_oddsOfNone cX10_oddsOfNone 4 (some .int) 2 := ⟨mt_X10_oddsOfNone, gTs_t (tb_3 (List.mem_of_getElem? (i := 188) rfl)) rfl⟩
theorem mt_X10_keepFraction : gMth yX10_keepFraction cX10_keepFraction 7 none 2 := ⟨gTs_t (tb_3 (List.mem_of_getElem? (i := 193) rfl)) rfl, wI_X10, by decide +kernel, by decide +kernel, by decide +kernel⟩
theorem mi_X10_keepFraction : Cond.instanceMethod yX10_keepFraction ∈ gTs := gTs_t (tb_3 (List.mem_of_getElem? (i := 192) rfl)) rfl
theorem mm_X10_keepFraction : gMi yX10_keepFraction cX10_keepFraction 7 none 2 := ⟨mt_X10_keepFraction, mi_X10_keepFraction, gTs_p (q := (yX10_keepFraction, 9)) (List.mem_of_getElem? (i := 21) (by decide +kernel)) (by decide +kernel)⟩
theorem mt_X10_hours : gMth yX10_hours cX10_hours 8 (some .int) 2 := ⟨gTs_t (tb_3 (List.mem_of_getElem? (i := 197) rfl)) rfl, wI_X10, by decide +kernel, by decide +kernel, by decide +kernel⟩
theorem mi_X10_hours : Cond.instanceMethod yX10_hours ∈ gTs := gTs_t (tb_3 (List.mem_of_getElem? (i := 195) rfl)) rfl
theorem mm_X10_hours : gMi yX10_hours cX10_hours 8 (some .int) 2 := ⟨mt_X10_hours, mi_X10_hours, gTs_t (tb_3 (List.mem_of_getElem? (i := 196) rfl)) rfl⟩
theorem mt_X10_part : gMth yX10_part cX10_part 2 (some .long) 1 := ⟨gTs_t (tb_3 (List.mem_of_getElem? (i := 206) rfl)) rfl, wI_X10, by decide +kernel, by decide +kernel, by decide +kernel⟩
theorem mi_X10_part : Cond.instanceMethod yX10_part ∈ gTs := gTs_t (tb_3 (List.mem_of_getElem? (i := 204) rfl)) rfl
theorem mm_X10_part : gMi yX10_part cX10_part 2 (some .long) 1 := ⟨mt_X10_part, mi_X10_part, gTs_t (tb_3 (List.mem_of_getElem? (i := 205) rfl)) rfl⟩
theorem mt_X10_image : gMth yX10_image cX10_image 2 (some .int) 1 := ⟨gTs_t (tb_3 (List.mem_of_getElem? (i := 210) rfl)) rfl, wI_X10, by decide +kernel, by decide +kernel, by decide +kernel⟩
theorem mi_X10_image : Cond.instanceMethod yX10_image ∈ gTs := gTs_t (tb_3 (List.mem_of_getElem? (i := 208) rfl)) rfl
theorem mm_X10_image : gMi yX10_image cX10_image 2 (some .int) 1 := ⟨mt_X10_image, mi_X10_image, gTs_t (tb_3 (List.mem_of_getElem? (i := 209) rfl)) rfl⟩
theorem mt_X10_from : gMth yX10_from cX10_from 2 (some .int) 1 := ⟨gTs_t (tb_3 (List.mem_of_getElem? (i := 214) rfl)) rfl, wI_X10, by decide +kernel, by decide +kernel, by decide +kernel⟩
theorem mi_X10_from : Cond.instanceMethod yX10_from ∈ gTs := gTs_t (tb_3 (List.mem_of_getElem? (i := 212) rfl)) rfl
theorem mm_X10_from : gMi yX10_from cX10_from 2 (some .int) 1 := ⟨mt_X10_from, mi_X10_from, gTs_t (tb_3 (List.mem_of_getElem? (i := 213) rfl)) rfl⟩
theorem mt_X10_status : gMth yX10_status cX10_status 2 (some .int) 1 := ⟨gTs_t (tb_3 (List.mem_of_getElem? (i := 218) rfl)) rfl, wI_X10, by decide +kernel, by decide +kernel, by decide +kernel⟩
theorem mi_X10_status : Cond.instanceMethod yX10_status ∈ gTs := gTs_t (tb_3 (List.mem_of_getElem? (i := 216) rfl)) rfl
theorem mm_X10_status : gMi yX10_status cX10_status 2 (some .int) 1 := ⟨mt_X10_status, mi_X10_status, gTs_t (tb_3 (List.mem_of_getElem? (i := 217) rfl)) rfl⟩
theorem mt_X10_count : gMth yX10_count cX10_count 2 (some .int) 1 := ⟨gTs_t (tb_3 (List.mem_of_getElem? (i := 222) rfl)) rfl, wI_X10, by decide +kernel, by decide +kernel, by decide +kernel⟩
theorem mi_X10_count : Cond.instanceMethod yX10_count ∈ gTs := gTs_t (tb_3 (List.mem_of_getElem? (i := 220) rfl)) rfl
theorem mm_X10_count : gMi yX10_count cX10_count 2 (some .int) 1 := ⟨mt_X10_count, mi_X10_count, gTs_t (tb_3 (List.mem_of_getElem? (i := 221) rfl)) rfl⟩
theorem mt_X10_countOf : gMth yX10_countOf cX10_countOf 2 (some .int) 1 := ⟨gTs_t (tb_3 (List.mem_of_getElem? (i := 226) rfl)) rfl, wI_X10, by decide +kernel, by decide +kernel, by decide +kernel⟩
theorem mi_X10_countOf : Cond.instanceMethod yX10_countOf ∈ gTs := gTs_t (tb_3 (List.mem_of_getElem? (i := 225) rfl)) rfl
theorem mm_X10_countOf : gMi yX10_countOf cX10_countOf 2 (some .int) 1 := ⟨mt_X10_countOf, mi_X10_countOf, gTs_p (q := (yX10_countOf, 9)) (List.mem_of_getElem? (i := 22) (by decide +kernel)) (by decide +kernel)⟩
theorem mt_X1_servedCount : gMth yX1_servedCount cX1_servedCount 3 (some .int) 0 := ⟨gTs_t (tb_3 (List.mem_of_getElem? (i := 230) rfl)) rfl, wI_X1, by decide +kernel, by decide +kernel, by decide +kernel⟩
theorem mi_X1_servedCount : Cond.instanceMethod yX1_servedCount ∈ gTs := gTs_t (tb_3 (List.mem_of_getElem? (i := 228) rfl)) rfl
theorem mm_X1_servedCount : gMi yX1_servedCount cX1_servedCount 3 (some .int) 0 := ⟨mt_X1_servedCount, mi_X1_servedCount, gTs_t (tb_3 (List.mem_of_getElem? (i := 229) rfl)) rfl⟩
theorem mt_X10_digest : gMth yX10_digest cX10_digest 4 (some .long) 0 := ⟨gTs_t (tb_3 (List.mem_of_getElem? (i := 234) rfl)) rfl, wI_X10, by decide +kernel, by decide +kernel, by decide +kernel⟩
theorem mi_X10_digest : Cond.instanceMethod yX10_digest ∈ gTs := gTs_t (tb_3 (List.mem_of_getElem? (i := 232) rfl)) rfl
theorem mm_X10_digest : gMi yX10_digest cX10_digest 4 (some .long) 0 := ⟨mt_X10_digest, mi_X10_digest, gTs_t (tb_3 (List.mem_of_getElem? (i := 233) rfl)) rfl⟩
theorem mt_X1_addGuestsTo : gMth yX1_addGuestsTo cX1_addGuestsTo 6 (some .long) 1 := ⟨gTs_t (tb_4 (List.mem_of_getElem? (i := 0) rfl)) rfl, wI_X1, by decide +kernel, by decide +kernel, by decide +kernel⟩
theorem mi_X1_addGuestsTo : Cond.instanceMethod yX1_addGuestsTo ∈ gTs := gTs_t (tb_3 (List.mem_of_getElem? (i := 238) rfl)) rfl
theorem mm_X1_addGuestsTo : gMi yX1_addGuestsTo cX1_addGuestsTo 6 (some .long) 1 := ⟨mt_X1_addGuestsTo, mi_X1_addGuestsTo, gTs_t (tb_3 (List.mem_of_getElem? (i := 239) rfl)) rfl⟩
theorem mt_X3_addTo : gMth yX3_addTo cX3_addTo 7 (some .long) 1 := ⟨gTs_t (tb_4 (List.mem_of_getElem? (i := 5) rfl)) rfl, wI_X3, by decide +kernel, by decide +kernel, by decide +kernel⟩
theorem mi_X3_addTo : Cond.instanceMethod yX3_addTo ∈ gTs := gTs_t (tb_4 (List.mem_of_getElem? (i := 3) rfl)) rfl
theorem mm_X3_addTo : gMi yX3_addTo cX3_addTo 7 (some .long) 1 := ⟨mt_X3_addTo, mi_X3_addTo, gTs_t (tb_4 (List.mem_of_getElem? (i := 4) rfl)) rfl⟩
theorem mt_X11_init : gMth yX11_init cX11_init 1 none 0 := ⟨gTs_t (tb_4 (List.mem_of_getElem? (i := 11) rfl)) rfl, wI_X11, by decide +kernel, by decide +kernel, by decide +kernel⟩
theorem mi_X11_init : Cond.instanceMethod yX11_init ∈ gTs := gTs_t (tb_4 (List.mem_of_getElem? (i := 10) rfl)) rfl
theorem mt_X11_house : gMth yX11_house cX11_house 2 (some .int) 0 := ⟨gTs_t (tb_4 (List.mem_of_getElem? (i := 101) rfl)) rfl, wI_X11, by decide +kernel, by decide +kernel, by decide +kernel⟩
theorem mi_X11_house : Cond.instanceMethod yX11_house ∈ gTs := gTs_t (tb_4 (List.mem_of_getElem? (i := 99) rfl)) rfl
theorem mm_X11_house : gMi yX11_house cX11_house 2 (some .int) 0 := ⟨mt_X11_house, mi_X11_house, gTs_t (tb_4 (List.mem_of_getElem? (i := 100) rfl)) rfl⟩
theorem mt_X11_anew : gMth yX11_anew cX11_anew 2 none 0 := ⟨gTs_t (tb_4 (List.mem_of_getElem? (i := 105) rfl)) rfl, wI_X11, by decide +kernel, by decide +kernel, by decide +kernel⟩
theorem mi_X11_anew : Cond.instanceMethod yX11_anew ∈ gTs := gTs_t (tb_4 (List.mem_of_getElem? (i := 104) rfl)) rfl
theorem mm_X11_anew : gMi yX11_anew cX11_anew 2 none 0 := ⟨mt_X11_anew, mi_X11_anew, gTs_p (q := (yX11_anew, 28)) (List.mem_of_getElem? (i := 23) (by decide +kernel)) (by decide +kernel)⟩
theorem mt_X11_guest : gMth yX11_guest cX11_guest 4 (some .int) 3 := ⟨gTs_t (tb_4 (List.mem_of_getElem? (i := 109) rfl)) rfl, wI_X11, by decide +kernel, by decide +kernel, by decide +kernel⟩
theorem mi_X11_guest : Cond.instanceMethod yX11_guest ∈ gTs := gTs_t (tb_4 (List.mem_of_getElem? (i := 107) rfl)) rfl
theorem mm_X11_guest : gMi yX11_guest cX11_guest 4 (some .int) 3 := ⟨mt_X11_guest, mi_X11_guest, gTs_t (tb_4 (List.mem_of_getElem? (i := 108) rfl)) rfl⟩
theorem mt_X11_in : gMth yX11_in cX11_in 6 (some .boolean) 3 := ⟨gTs_t (tb_4 (List.mem_of_getElem? (i := 113) rfl)) rfl, wI_X11, by decide +kernel, by decide +kernel, by decide +kernel⟩
theorem mm_X11_in : gMs yX11_in cX11_in 6 (some .boolean) 3 := ⟨mt_X11_in, gTs_t (tb_4 (List.mem_of_getElem? (i := 112) rfl)) rfl⟩
theorem mt_X11_bad : gMth yX11_bad cX11_bad 1 (some .int) 0 := ⟨gTs_t (tb_4 (List.mem_of_getElem? (i := 119) rfl)) rfl, wI_X11, by decide +kernel, by decide +kernel, by decide +kernel⟩
theorem mi_X11_bad : Cond.instanceMethod yX11_bad ∈ gTs := gTs_t (tb_4 (List.mem_of_getElem? (i := 118) rfl)) rfl
theorem mm_X11_bad : gMi yX11_bad cX11_bad 1 (some .int) 0 := ⟨mt_X11_bad, mi_X11_bad, gTs_p (q := (yX11_bad, 28)) (List.mem_of_getElem? (i := 24) (by decide +kernel)) (by decide +kernel)⟩
theorem mt_X11_full : gMth yX11_full cX11_full 1 (some .int) 0 := ⟨gTs_t (tb_4 (List.mem_of_getElem? (i := 123) rfl)) rfl, wI_X11, by decide +kernel, by decide +kernel, by decide +kernel⟩
theorem mi_X11_full : Cond.instanceMethod yX11_full ∈ gTs := gTs_t (tb_4 (List.mem_of_getElem? (i := 122) rfl)) rfl
theorem mm_X11_full : gMi yX11_full cX11_full 1 (some .int) 0 := ⟨mt_X11_full, mi_X11_full, gTs_p (q := (yX11_full, 28)) (List.mem_of_getElem? (i := 25) (by decide +kernel)) (by decide +kernel)⟩
theorem mt_X11_add : gMth yX11_add cX11_add 5 none 3 := ⟨gTs_t (tb_4 (List.mem_of_getElem? (i := 127) rfl)) rfl, wI_X11, by decide +kernel, by decide +kernel, by decide +kernel⟩
theorem mi_X11_add : Cond.instanceMethod yX11_add ∈ gTs := gTs_t (tb_4 (List.mem_of_getElem? (i := 126) rfl)) rfl
theorem mm_X11_add : gMi yX11_add cX11_add 5 none 3 := ⟨mt_X11_add, mi_X11_add, gTs_p (q := (yX11_add, 28)) (List.mem_of_getElem? (i := 26) (by decide +kernel)) (by decide +kernel)⟩
theorem mt_X11_duty : gMth yX11_duty cX11_duty 4 (some .int) 2 := ⟨gTs_t (tb_4 (List.mem_of_getElem? (i := 131) rfl)) rfl, wI_X11, by decide +kernel, by decide +kernel, by decide +kernel⟩
theorem mi_X11_duty : Cond.instanceMethod yX11_duty ∈ gTs := gTs_t (tb_4 (List.mem_of_getElem? (i := 129) rfl)) rfl
theorem mm_X11_duty : gMi yX11_duty cX11_duty 4 (some .int) 2 := ⟨mt_X11_duty, mi_X11_duty, gTs_t (tb_4 (List.mem_of_getElem? (i := 130) rfl)) rfl⟩
theorem mt_X11_isGuest : gMth yX11_isGuest cX11_isGuest 2 (some .boolean) 1 := ⟨gTs_t (tb_4 (List.mem_of_getElem? (i := 135) rfl)) rfl, wI_X11, by decide +kernel, by decide +kernel, by decide +kernel⟩
theorem mi_X11_isGuest : Cond.instanceMethod yX11_isGuest ∈ gTs := gTs_t (tb_4 (List.mem_of_getElem? (i := 134) rfl)) rfl
theorem mm_X11_isGuest : gMi yX11_isGuest cX11_isGuest 2 (some .boolean) 1 := ⟨mt_X11_isGuest, mi_X11_isGuest, gTs_p (q := (yX11_isGuest, 28)) (List.mem_of_getElem? (i := 27) (by decide +kernel)) (by decide +kernel)⟩
theorem mt_X11_badFar : gMth yX11_badFar cX11_badFar 1 (some .int) 0 := ⟨gTs_t (tb_4 (List.mem_of_getElem? (i := 139) rfl)) rfl, wI_X11, by decide +kernel, by decide +kernel, by decide +kernel⟩
theorem mi_X11_badFar : Cond.instanceMethod yX11_badFar ∈ gTs := gTs_t (tb_4 (List.mem_of_getElem? (i := 138) rfl)) rfl
theorem mm_X11_badFar : gMi yX11_badFar cX11_badFar 1 (some .int) 0 := ⟨mt_X11_badFar, mi_X11_badFar, gTs_p (q := (yX11_badFar, 28)) (List.mem_of_getElem? (i := 28) (by decide +kernel)) (by decide +kernel)⟩
theorem mt_X11_noteStep : gMth yX11_noteStep cX11_noteStep 2 none 0 := ⟨gTs_t (tb_4 (List.mem_of_getElem? (i := 143) rfl)) rfl, wI_X11, by decide +kernel, by decide +kernel, by decide +kernel⟩
theorem mi_X11_noteStep : Cond.instanceMethod yX11_noteStep ∈ gTs := gTs_t (tb_4 (List.mem_of_getElem? (i := 142) rfl)) rfl
theorem mm_X11_noteStep : gMi yX11_noteStep cX11_noteStep 2 none 0 := ⟨mt_X11_noteStep, mi_X11_noteStep, gTs_p (q := (yX11_noteStep, 28)) (List.mem_of_getElem? (i := 29) (by decide +kernel)) (by decide +kernel)⟩
theorem mt_X11_type : gMth yX11_type cX11_type 2 (some .int) 1 := ⟨gTs_t (tb_4 (List.mem_of_getElem? (i := 147) rfl)) rfl, wI_X11, by decide +kernel, by decide +kernel, by decide +kernel⟩
theorem mi_X11_type : Cond.instanceMethod yX11_type ∈ gTs := gTs_t (tb_4 (List.mem_of_getElem? (i := 145) rfl)) rfl
theorem mm_X11_type : gMi yX11_type cX11_type 2 (some .int) 1 := ⟨mt_X11_type, mi_X11_type, gTs_t (tb_4 (List.mem_of_getElem? (i := 146) rfl)) rfl⟩
theorem mt_X11_clear : gMth yX11_clear cX11_clear 2 (some .int) 0 := ⟨gTs_t (tb_4 (List.mem_of_getElem? (i := 152) rfl)) rfl, wI_X11, by decide +kernel, by decide +kernel, by decide +kernel⟩
theorem mi_X11_clear : Cond.instanceMethod yX11_clear ∈ gTs := gTs_t (tb_4 (List.mem_of_getElem? (i := 150) rfl)) rfl
theorem mm_X11_clear : gMi yX11_clear cX11_clear 2 (some .int) 0 := ⟨mt_X11_clear, mi_X11_clear, gTs_t (tb_4 (List.mem_of_getElem? (i := 151) rfl)) rfl⟩
theorem mt_X11_read : gMth yX11_read cX11_read 1 (some .int) 0 := ⟨gTs_t (tb_4 (List.mem_of_getElem? (i := 156) rfl)) rfl, wI_X11, by decide +kernel, by decide +kernel, by decide +kernel⟩
theorem mi_X11_read : Cond.instanceMethod yX11_read ∈ gTs := gTs_t (tb_4 (List.mem_of_getElem? (i := 154) rfl)) rfl
theorem mm_X11_read : gMi yX11_read cX11_read 1 (some .int) 0 := ⟨mt_X11_read, mi_X11_read, gTs_t (tb_4 (List.mem_of_getElem? (i := 155) rfl)) rfl⟩
theorem mt_X11_readText : gMth yX11_readText cX11_readText 3 (some .int) 1 := ⟨gTs_t (tb_4 (List.mem_of_getElem? (i := 160) rfl)) rfl, wI_X11, by decide +kernel, by decide +kernel, by decide +kernel⟩
theorem mi_X11_readText : Cond.instanceMethod yX11_readText ∈ gTs := gTs_t (tb_4 (List.mem_of_getElem? (i := 159) rfl)) rfl
theorem mm_X11_readText : gMi yX11_readText cX11_readText 3 (some .int) 1 := ⟨mt_X11_readText, mi_X11_readText, gTs_p (q := (yX11_readText, 28)) (List.mem_of_getElem? (i := 30) (by decide +kernel)) (by decide +kernel)⟩
theorem mt_X11_nextToken : gMth yX11_nextToken cX11_nextToken 1 none 0 := ⟨gTs_t (tb_4 (List.mem_of_getElem? (i := 164) rfl)) rfl, wI_X11, by decide +kernel, by decide +kernel, by decide +kernel⟩
theorem mi_X11_nextToken : Cond.instanceMethod yX11_nextToken ∈ gTs := gTs_t (tb_4 (List.mem_of_getElem? (i := 163) rfl)) rfl
theorem mm_X11_nextToken : gMi yX11_nextToken cX11_nextToken 1 none 0 := ⟨mt_X11_nextToken, mi_X11_nextToken, gTs_p (q := (yX11_nextToken, 28)) (List.mem_of_getElem? (i := 31) (by decide +kernel)) (by decide +kernel)⟩
theorem mt_X11_byteAt : gMth yX11_byteAt cX11_byteAt 2 (some .int) 1 := ⟨gTs_t (tb_4 (List.mem_of_getElem? (i := 168) rfl)) rfl, wI_X11, by decide +kernel, by decide +kernel, by decide +kernel⟩
theorem mi_X11_byteAt : Cond.instanceMethod yX11_byteAt ∈ gTs := gTs_t (tb_4 (List.mem_of_getElem? (i := 167) rfl)) rfl
theorem mm_X11_byteAt : gMi yX11_byteAt cX11_byteAt 2 (some .int) 1 := ⟨mt_X11_byteAt, mi_X11_byteAt, gTs_p (q := (yX11_byteAt, 28)) (List.mem_of_getElem? (i := 32) (by decide +kernel)) (by decide +kernel)⟩
theorem mt_X11_readItem : gMth yX11_readItem cX11_readItem 4 (some .boolean) 2 := ⟨gTs_t (tb_4 (List.mem_of_getElem? (i := 176) rfl)) rfl, wI_X11, by decide +kernel, by decide +kernel, by decide +kernel⟩
theorem mi_X11_readItem : Cond.instanceMethod yX11_readItem ∈ gTs := gTs_t (tb_4 (List.mem_of_getElem? (i := 175) rfl)) rfl
theorem mm_X11_readItem : gMi yX11_readItem cX11_readItem 4 (some .boolean) 2 := ⟨mt_X11_readItem, mi_X11_readItem, gTs_p (q := (yX11_readItem, 28)) (List.mem_of_getElem? (i := 33) (by decide +kernel)) (by decide +kernel)⟩
theorem mt_X11_isWord : gMth yX11_isWord cX11_isWord 8 (some .boolean) 5 := ⟨gTs_t (tb_4 (List.mem_of_getElem? (i := 180) rfl)) rfl, wI_X11, by decide +kernel, by decide +kernel, by decide +kernel⟩
theorem mi_X11_isWord : Cond.instanceMethod yX11_isWord ∈ gTs := gTs_t (tb_4 (List.mem_of_getElem? (i := 179) rfl)) rfl
theorem mm_X11_isWord : gMi yX11_isWord cX11_isWord 8 (some .boolean) 5 := ⟨mt_X11_isWord, mi_X11_isWord, gTs_p (q := (yX11_isWord, 28)) (List.mem_of_getElem? (i := 34) (by decide +kernel)) (by decide +kernel)⟩
theorem mt_X11_reads : gMth yX11_reads cX11_reads 3 (some .boolean) 2 := ⟨gTs_t (tb_4 (List.mem_of_getElem? (i := 184) rfl)) rfl, wI_X11, by decide +kernel, by decide +kernel, by decide +kernel⟩
theorem mi_X11_reads : Cond.instanceMethod yX11_reads ∈ gTs := gTs_t (tb_4 (List.mem_of_getElem? (i := 183) rfl)) rfl
theorem mm_X11_reads : gMi yX11_reads cX11_reads 3 (some .boolean) 2 := ⟨mt_X11_reads, mi_X11_reads, gTs_p (q := (yX11_reads, 28)) (List.mem_of_getElem? (i := 35) (by decide +kernel)) (by decide +kernel)⟩
theorem mt_X11_readServices : gMth yX11_readServices cX11_readServices 1 (some .boolean) 0 := ⟨gTs_t (tb_4 (List.mem_of_getElem? (i := 188) rfl)) rfl, wI_X11, by decide +kernel, by decide +kernel, by decide +kernel⟩
theorem mi_X11_readServices : Cond.instanceMethod yX11_readServices ∈ gTs := gTs_t (tb_4 (List.mem_of_getElem? (i := 187) rfl)) rfl
theorem mm_X11_readServices : gMi yX11_readServices cX11_readServices 1 (some .boolean) 0 := ⟨mt_X11_readServices, mi_X11_readServices, gTs_p (q := (yX11_readServices, 28)) (List.mem_of_getElem? (i := 36) (by decide +kernel)) (by decide +kernel)⟩
theorem mt_X11_hour : gMth yX11_hour cX11_hour 3 (some .int) 1 := ⟨gTs_t (tb_4 (List.mem_of_getElem? (i := 192) rfl)) rfl, wI_X11, by decide +kernel, by decide +kernel, by decide +kernel⟩
theorem mi_X11_hour : Cond.instanceMethod yX11_hour ∈ gTs := gTs_t (tb_4 (List.mem_of_getElem? (i := 190) rfl)) rfl
theorem mm_X11_hour : gMi yX11_hour cX11_hour 3 (some .int) 1 := ⟨mt_X11_hour, mi_X11_hour, gTs_t (tb_4 (List.mem_of_getElem? (i := 191) rfl)) rfl⟩
theorem mt_X11_oneHour : gMth yX11_oneHour cX11_oneHour 3 none 0 := ⟨gTs_t (tb_4 (List.mem_of_getElem? (i := 197) rfl)) rfl, wI_X11, by decide +kernel, by decide +kernel, by decide +kernel⟩
theorem mi_X11_oneHour : Cond.instanceMethod yX11_oneHour ∈ gTs := gTs_t (tb_4 (List.mem_of_getElem? (i := 196) rfl)) rfl
theorem mm_X11_oneHour : gMi yX11_oneHour cX11_oneHour 3 none 0 := ⟨mt_X11_oneHour, mi_X11_oneHour, gTs_p (q := (yX11_oneHour, 28)) (List.mem_of_getElem? (i := 37) (by decide +kernel)) (by decide +kernel)⟩
theorem mt_X11_serverOf : gMth yX11_serverOf cX11_serverOf 3 (some .int) 1 := ⟨gTs_t (tb_4 (List.mem_of_getElem? (i := 201) rfl)) rfl, wI_X11, by decide +kernel, by decide +kernel, by decide +kernel⟩
theorem mi_X11_serverOf : Cond.instanceMethod yX11_serverOf ∈ gTs := gTs_t (tb_4 (List.mem_of_getElem? (i := 200) rfl)) rfl
theorem mm_X11_serverOf : gMi yX11_serverOf cX11_serverOf 3 (some .int) 1 := ⟨mt_X11_serverOf, mi_X11_serverOf, gTs_p (q := (yX11_serverOf, 28)) (List.mem_of_getElem? (i := 38) (by decide +kernel)) (by decide +kernel)⟩
theorem mt_X11_canServe : gMth yX11_canServe cX11_canServe 3 (some .boolean) 2 := ⟨gTs_t (tb_4 (List.mem_of_getElem? (i := 205) rfl)) rfl, wI_X11, by decide +kernel, by decide +kernel, by decide +kernel⟩
theorem mi_X11_canServe : Cond.instanceMethod yX11_canServe ∈ gTs := gTs_t (tb_4 (List.mem_of_getElem? (i := 204) rfl)) rfl
theorem mm_X11_canServe : gMi yX11_canServe cX11_canServe 3 (some .boolean) 2 := ⟨mt_X11_canServe, mi_X11_canServe, gTs_p (q := (yX11_canServe, 28)) (List.mem_of_getElem? (i := 39) (by decide +kernel)) (by decide +kernel)⟩
theorem mt_X11_has : gMth yX11_has cX11_has 2 (some .boolean) 2 := ⟨gTs_t (tb_4 (List.mem_of_getElem? (i := 208) rfl)) rfl, wI_X11, by decide +kernel, by decide +kernel, by decide +kernel⟩
theorem mm_X11_has : gMs yX11_has cX11_has 2 (some .boolean) 2 := ⟨mt_X11_has, gTs_t (tb_4 (List.mem_of_getElem? (i := 207) rfl)) rfl⟩
theorem mt_X11_contentOf : gMth yX11_contentOf cX11_contentOf 3 (some .int) 2 := ⟨gTs_t (tb_4 (List.mem_of_getElem? (i := 212) rfl)) rfl, wI_X11, by decide +kernel, by decide +kernel, by decide +kernel⟩
theorem mi_X11_contentOf : Cond.instanceMethod yX11_contentOf ∈ gTs := gTs_t (tb_4 (List.mem_of_getElem? (i := 211) rfl)) rfl
theorem mm_X11_contentOf : gMi yX11_contentOf cX11_contentOf 3 (some .int) 2 := ⟨mt_X11_contentOf, mi_X11_contentOf, gTs_p (q := (yX11_contentOf, 28)) (List.mem_of_getElem? (i := 40) (by decide +kernel)) (by decide +kernel)⟩
theorem mt_X11_contentBy : gMth yX11_contentBy cX11_contentBy 3 (some .int) 3 := ⟨gTs_t (tb_4 (List.mem_of_getElem? (i := 215) rfl)) rfl, wI_X11, by decide +kernel, by decide +kernel, by decide +kernel⟩
theorem mm_X11_contentBy : gMs yX11_contentBy cX11_contentBy 3 (some .int) 3 := ⟨mt_X11_contentBy, gTs_t (tb_4 (List.mem_of_getElem? (i := 214) rfl)) rfl⟩
theorem mt_X11_undo : gMth yX11_undo cX11_undo 2 (some .int) 0 := ⟨gTs_t (tb_4 (List.mem_of_getElem? (i := 219) rfl)) rfl, wI_X11, by decide +kernel, by decide +kernel, by decide +kernel⟩
theorem mi_X11_undo : Cond.instanceMethod yX11_undo ∈ gTs := gTs_t (tb_4 (List.mem_of_getElem? (i := 217) rfl)) rfl
theorem mm_X11_undo : gMi yX11_undo cX11_undo 2 (some .int) 0 := ⟨mt_X11_undo, mi_X11_undo, gTs_t (tb_4 (List.mem_of_getElem? (i := 218) rfl)) rfl⟩
theorem mt_X11_no : gMth yX11_no cX11_no 1 (some .int) 0 := ⟨gTs_t (tb_4 (List.mem_of_getElem? (i := 223) rfl)) rfl, wI_X11, by decide +kernel, by decide +kernel, by decide +kernel⟩
theorem mi_X11_no : Cond.instanceMethod yX11_no ∈ gTs := gTs_t (tb_4 (List.mem_of_getElem? (i := 222) rfl)) rfl
theorem mm_X11_no : gMi yX11_no cX11_no 1 (some .int) 0 := ⟨mt_X11_no, mi_X11_no, gTs_p (q := (yX11_no, 28)) (List.mem_of_getElem? (i := 41) (by decide +kernel)) (by decide +kernel)⟩
theorem mt_X11_of : gMth yX11_of cX11_of 3 (some .int) 2 := ⟨gTs_t (tb_4 (List.mem_of_getElem? (i := 227) rfl)) rfl, wI_X11, by decide +kernel, by decide +kernel, by decide +kernel⟩
theorem mi_X11_of : Cond.instanceMethod yX11_of ∈ gTs := gTs_t (tb_4 (List.mem_of_getElem? (i := 225) rfl)) rfl
theorem mm_X11_of : gMi yX11_of cX11_of 3 (some .int) 2 := ⟨mt_X11_of, mi_X11_of, gTs_t (tb_4 (List.mem_of_getElem? (i := 226) rfl)) rfl⟩
theorem mt_X11_can : gMth yX11_can cX11_can 3 (some .int) 2 := ⟨gTs_t (tb_4 (List.mem_of_getElem? (i := 232) rfl)) rfl, wI_X11, by decide +kernel, by decide +kernel, by decide +kernel⟩
theorem mi_X11_can : Cond.instanceMethod yX11_can ∈ gTs := gTs_t (tb_4 (List.mem_of_getElem? (i := 230) rfl)) rfl
theorem mm_X11_can : gMi yX11_can cX11_can 3 (some .int) 2 := ⟨mt_X11_can, mi_X11_can, gTs_t (tb_4 (List.mem_of_getElem? (i := 231) rfl)) rfl⟩
theorem mt_X11_work : gMth yX11_work cX11_work 3 (some .int) 2 := ⟨gTs_t (tb_4 (List.mem_of_getElem? (i := 236) rfl)) rfl, wI_X11, by decide +kernel, by decide +kernel, by decide +kernel⟩
theorem mi_X11_work : Cond.instanceMethod yX11_work ∈ gTs := gTs_t (tb_4 (List.mem_of_getElem? (i := 234) rfl)) rfl
theorem mm_X11_work : gMi yX11_work cX11_work 3 (some .int) 2 := ⟨mt_X11_work, mi_X11_work, gTs_t (tb_4 (List.mem_of_getElem? (i := 235) rfl)) rfl⟩
theorem mt_X11_workBy : gMth yX11_workBy cX11_workBy 5 (some .int) 2 := ⟨gTs_t (tb_5 (List.mem_of_getElem? (i := 0) rfl)) rfl, wI_X11, by decide +kernel, by decide +kernel, by decide +kernel⟩
theorem mi_X11_workBy : Cond.instanceMethod yX11_workBy ∈ gTs := gTs_t (tb_4 (List.mem_of_getElem? (i := 239) rfl)) rfl
theorem mm_X11_workBy : gMi yX11_workBy cX11_workBy 5 (some .int) 2 := ⟨mt_X11_workBy, mi_X11_workBy, gTs_p (q := (yX11_workBy, 28)) (List.mem_of_getElem? (i := 42) (by decide +kernel)) (by decide +kernel)⟩
theorem mt_X11_all : gMth yX11_all cX11_all 2 (some .int) 1 := ⟨gTs_t (tb_5 (List.mem_of_getElem? (i := 4) rfl)) rfl, wI_X11, by decide +kernel, by decide +kernel, by decide +kernel⟩
theorem mi_X11_all : Cond.instanceMethod yX11_all ∈ gTs := gTs_t (tb_5 (List.mem_of_getElem? (i := 2) rfl)) rfl
theorem mm_X11_all : gMi yX11_all cX11_all 2 (some .int) 1 := ⟨mt_X11_all, mi_X11_all, gTs_t (tb_5 (List.mem_of_getElem? (i := 3) rfl)) rfl⟩
theorem mt_X11_isOne : gMth yX11_isOne cX11_isOne 2 (some .boolean) 1 := ⟨gTs_t (tb_5 (List.mem_of_getElem? (i := 8) rfl)) rfl, wI_X11, by decide +kernel, by decide +kernel, by decide +kernel⟩
theorem mi_X11_isOne : Cond.instanceMethod yX11_isOne ∈ gTs := gTs_t (tb_5 (List.mem_of_getElem? (i := 7) rfl)) rfl
theorem mm_X11_isOne : gMi yX11_isOne cX11_isOne 2 (some .boolean) 1 := ⟨mt_X11_isOne, mi_X11_isOne, gTs_p (q := (yX11_isOne, 28)) (List.mem_of_getElem? (i := 43) (by decide +kernel)) (by decide +kernel)⟩
theorem mt_X11_findRows : gMth yX11_findRows cX11_findRows 6 none 0 := ⟨gTs_t (tb_5 (List.mem_of_getElem? (i := 12) rfl)) rfl, wI_X11, by decide +kernel, by decide +kernel, by decide +kernel⟩
theorem mi_X11_findRows : Cond.instanceMethod yX11_findRows ∈ gTs := gTs_t (tb_5 (List.mem_of_getElem? (i := 11) rfl)) rfl
theorem mm_X11_findRows : gMi yX11_findRows cX11_findRows 6 none 0 := ⟨mt_X11_findRows, mi_X11_findRows, gTs_p (q := (yX11_findRows, 28)) (List.mem_of_getElem? (i := 44) (by decide +kernel)) (by decide +kernel)⟩
theorem mt_X11_everybody : gMth yX11_everybody cX11_everybody 1 (some .int) 0 := ⟨gTs_t (tb_5 (List.mem_of_getElem? (i := 16) rfl)) rfl, wI_X11, by decide +kernel, by decide +kernel, by decide +kernel⟩
theorem mi_X11_everybody : Cond.instanceMethod yX11_everybody ∈ gTs := gTs_t (tb_5 (List.mem_of_getElem? (i := 15) rfl)) rfl
theorem mm_X11_everybody : gMi yX11_everybody cX11_everybody 1 (some .int) 0 := ⟨mt_X11_everybody, mi_X11_everybody, gTs_p (q := (yX11_everybody, 28)) (List.mem_of_getElem? (i := 45) (by decide +kernel)) (by decide +kernel)⟩
theorem mt_X11_takeSet : gMth yX11_takeSet cX11_takeSet 3 none 1 := ⟨gTs_t (tb_5 (List.mem_of_getElem? (i := 20) rfl)) rfl, wI_X11, by decide +kernel, by decide +kernel, by decide +kernel⟩
theorem mi_X11_takeSet : Cond.instanceMethod yX11_takeSet ∈ gTs := gTs_t (tb_5 (List.mem_of_getElem? (i := 19) rfl)) rfl
theorem mm_X11_takeSet : gMi yX11_takeSet cX11_takeSet 3 none 1 := ⟨mt_X11_takeSet, mi_X11_takeSet, gTs_p (q := (yX11_takeSet, 28)) (List.mem_of_getElem? (i := 46) (by decide +kernel)) (by decide +kernel)⟩
theorem mt_X11_factorial : gMth yX11_factorial cX11_factorial 3 (some .int) 1 := ⟨gTs_t (tb_5 (List.mem_of_getElem? (i := 23) rfl)) rfl, wI_X11, by decide +kernel, by decide +kernel, by decide +kernel⟩
theorem mm_X11_factorial : gMs yX11_factorial cX11_factorial 3 (some .int) 1 := ⟨mt_X11_factorial, gTs_t (tb_5 (List.mem_of_getElem? (i := 22) rfl)) rfl⟩
theorem mt_X11_isRow : gMth yX11_isRow cX11_isRow 10 (some .boolean) 1 := ⟨gTs_t (tb_5 (List.mem_of_getElem? (i := 27) rfl)) rfl, wI_X11, by decide +kernel, by decide +kernel, by decide +kernel⟩
theorem mi_X11_isRow : Cond.instanceMethod yX11_isRow ∈ gTs := gTs_t (tb_5 (List.mem_of_getElem? (i := 26) rfl)) rfl
theorem mm_X11_isRow : gMi yX11_isRow cX11_isRow 10 (some .boolean) 1 := ⟨mt_X11_isRow, mi_X11_isRow, gTs_p (q := (yX11_isRow, 28)) (List.mem_of_getElem? (i := 47) (by decide +kernel)) (by decide +kernel)⟩
theorem mt_X11_rowWork : gMth yX11_rowWork cX11_rowWork 3 (some .int) 0 := ⟨gTs_t (tb_5 (List.mem_of_getElem? (i := 31) rfl)) rfl, wI_X11, by decide +kernel, by decide +kernel, by decide +kernel⟩
theorem mi_X11_rowWork : Cond.instanceMethod yX11_rowWork ∈ gTs := gTs_t (tb_5 (List.mem_of_getElem? (i := 30) rfl)) rfl
theorem mm_X11_rowWork : gMi yX11_rowWork cX11_rowWork 3 (some .int) 0 := ⟨mt_X11_rowWork, mi_X11_rowWork, gTs_p (q := (yX11_rowWork, 28)) (List.mem_of_getElem? (i := 48) (by decide +kernel)) (by decide +kernel)⟩
theorem mt_X11_rowContent : gMth yX11_rowContent cX11_rowContent 3 (some .int) 0 := ⟨gTs_t (tb_5 (List.mem_of_getElem? (i := 35) rfl)) rfl, wI_X11, by decide +kernel, by decide +kernel, by decide +kernel⟩
theorem mi_X11_rowContent : Cond.instanceMethod yX11_rowContent ∈ gTs := gTs_t (tb_5 (List.mem_of_getElem? (i := 34) rfl)) rfl
theorem mm_X11_rowContent : gMi yX11_rowContent cX11_rowContent 3 (some .int) 0 := ⟨mt_X11_rowContent, mi_X11_rowContent, gTs_p (q := (yX11_rowContent, 28)) (List.mem_of_getElem? (i := 49) (by decide +kernel)) (by decide +kernel)⟩
theorem mt_X11_least : gMth yX11_least cX11_least 1 (some .int) 0 := ⟨gTs_t (tb_5 (List.mem_of_getElem? (i := 39) rfl)) rfl, wI_X11, by decide +kernel, by decide +kernel, by decide +kernel⟩
theorem mi_X11_least : Cond.instanceMethod yX11_least ∈ gTs := gTs_t (tb_5 (List.mem_of_getElem? (i := 37) rfl)) rfl
theorem mm_X11_least : gMi yX11_least cX11_least 1 (some .int) 0 := ⟨mt_X11_least, mi_X11_least, gTs_t (tb_5 (List.mem_of_getElem? (i := 38) rfl)) rfl⟩
theorem mt_X11_most : gMth yX11_most cX11_most 2 (some .int) 1 := ⟨gTs_t (tb_5 (List.mem_of_getElem? (i := 43) rfl)) rfl, wI_X11, by decide +kernel, by decide +kernel, by decide +kernel⟩
theorem mi_X11_most : Cond.instanceMethod yX11_most ∈ gTs := gTs_t (tb_5 (List.mem_of_getElem? (i := 41) rfl)) rfl
theorem mm_X11_most : gMi yX11_most cX11_most 2 (some .int) 1 := ⟨mt_X11_most, mi_X11_most, gTs_t (tb_5 (List.mem_of_getElem? (i := 42) rfl)) rfl⟩
theorem mt_X11_lone : gMth yX11_lone cX11_lone 5 (some .int) 0 := ⟨gTs_t (tb_5 (List.mem_of_getElem? (i := 47) rfl)) rfl, wI_X11, by decide +kernel, by decide +kernel, by decide +kernel⟩
theorem mi_X11_lone : Cond.instanceMethod yX11_lone ∈ gTs := gTs_t (tb_5 (List.mem_of_getElem? (i := 45) rfl)) rfl
theorem mm_X11_lone : gMi yX11_lone cX11_lone 5 (some .int) 0 := ⟨mt_X11_lone, mi_X11_lone, gTs_t (tb_5 (List.mem_of_getElem? (i := 46) rfl)) rfl⟩
theorem mt_X11_rings : gMth yX11_rings cX11_rings 4 (some .int) 1 := ⟨gTs_t (tb_5 (List.mem_of_getElem? (i := 51) rfl)) rfl, wI_X11, by decide +kernel, by decide +kernel, by decide +kernel⟩
theorem mi_X11_rings : Cond.instanceMethod yX11_rings ∈ gTs := gTs_t (tb_5 (List.mem_of_getElem? (i := 49) rfl)) rfl
theorem mm_X11_rings : gMi yX11_rings cX11_rings 4 (some .int) 1 := ⟨mt_X11_rings, mi_X11_rings, gTs_t (tb_5 (List.mem_of_getElem? (i := 50) rfl)) rfl⟩
theorem mt_X11_ringOf : gMth yX11_ringOf cX11_ringOf 4 (some .int) 1 := ⟨gTs_t (tb_5 (List.mem_of_getElem? (i := 55) rfl)) rfl, wI_X11, by decide +kernel, by decide +kernel, by decide +kernel⟩
theorem mi_X11_ringOf : Cond.instanceMethod yX11_ringOf ∈ gTs := gTs_t (tb_5 (List.mem_of_getElem? (i := 54) rfl)) rfl
theorem mm_X11_ringOf : gMi yX11_ringOf cX11_ringOf 4 (some .int) 1 := ⟨mt_X11_ringOf, mi_X11_ringOf, gTs_p (q := (yX11_ringOf, 28)) (List.mem_of_getElem? (i := 50) (by decide +kernel)) (by decide +kernel)⟩
theorem mt_X11_smallest : gMth yX11_smallest cX11_smallest 4 (some .int) 0 := ⟨gTs_t (tb_5 (List.mem_of_getElem? (i := 59) rfl)) rfl, wI_X11, by decide +kernel, by decide +kernel, by decide +kernel⟩
theorem mi_X11_smallest : Cond.instanceMethod yX11_smallest ∈ gTs := gTs_t (tb_5 (List.mem_of_getElem? (i := 57) rfl)) rfl
theorem mm_X11_smallest : gMi yX11_smallest cX11_smallest 4 (some .int) 0 := ⟨mt_X11_smallest, mi_X11_smallest, gTs_t (tb_5 (List.mem_of_getElem? (i := 58) rfl)) rfl⟩
theorem mt_X11_ones : gMth yX11_ones cX11_ones 3 (some .int) 1 := ⟨gTs_t (tb_5 (List.mem_of_getElem? (i := 62) rfl)) rfl, wI_X11, by decide +kernel, by decide +kernel, by decide +kernel⟩
theorem mm_X11_ones : gMs yX11_ones cX11_ones 3 (some .int) 1 := ⟨mt_X11_ones, gTs_t (tb_5 (List.mem_of_getElem? (i := 61) rfl)) rfl⟩
theorem mt_X11_closes : gMth yX11_closes cX11_closes 4 (some .boolean) 1 := ⟨gTs_t (tb_5 (List.mem_of_getElem? (i := 66) rfl)) rfl, wI_X11, by decide +kernel, by decide +kernel, by decide +kernel⟩
theorem mi_X11_closes : Cond.instanceMethod yX11_closes ∈ gTs := gTs_t (tb_5 (List.mem_of_getElem? (i := 65) rfl)) rfl
theorem mm_X11_closes : gMi yX11_closes cX11_closes 4 (some .boolean) 1 := ⟨mt_X11_closes, mi_X11_closes, gTs_p (q := (yX11_closes, 28)) (List.mem_of_getElem? (i := 51) (by decide +kernel)) (by decide +kernel)⟩
theorem mt_X11_swap : gMth yX11_swap cX11_swap 7 (some .int) 1 := ⟨gTs_t (tb_5 (List.mem_of_getElem? (i := 70) rfl)) rfl, wI_X11, by decide +kernel, by decide +kernel, by decide +kernel⟩
theorem mi_X11_swap : Cond.instanceMethod yX11_swap ∈ gTs := gTs_t (tb_5 (List.mem_of_getElem? (i := 68) rfl)) rfl
theorem mm_X11_swap : gMi yX11_swap cX11_swap 7 (some .int) 1 := ⟨mt_X11_swap, mi_X11_swap, gTs_t (tb_5 (List.mem_of_getElem? (i := 69) rfl)) rfl⟩
theorem mt_X11_gains : gMth yX11_gains cX11_gains 3 (some .boolean) 2 := ⟨gTs_t (tb_5 (List.mem_of_getElem? (i := 74) rfl)) rfl, wI_X11, by decide +kernel, by decide +kernel, by decide +kernel⟩
theorem mi_X11_gains : Cond.instanceMethod yX11_gains ∈ gTs := gTs_t (tb_5 (List.mem_of_getElem? (i := 73) rfl)) rfl
theorem mm_X11_gains : gMi yX11_gains cX11_gains 3 (some .boolean) 2 := ⟨mt_X11_gains, mi_X11_gains, gTs_p (q := (yX11_gains, 28)) (List.mem_of_getElem? (i := 52) (by decide +kernel)) (by decide +kernel)⟩
theorem mt_X11_takeIn : gMth yX11_takeIn cX11_takeIn 5 (some .int) 1 := ⟨gTs_t (tb_5 (List.mem_of_getElem? (i := 78) rfl)) rfl, wI_X11, by decide +kernel, by decide +kernel, by decide +kernel⟩
theorem mi_X11_takeIn : Cond.instanceMethod yX11_takeIn ∈ gTs := gTs_t (tb_5 (List.mem_of_getElem? (i := 76) rfl)) rfl
theorem mm_X11_takeIn : gMi yX11_takeIn cX11_takeIn 5 (some .int) 1 := ⟨mt_X11_takeIn, mi_X11_takeIn, gTs_t (tb_5 (List.mem_of_getElem? (i := 77) rfl)) rfl⟩
theorem mt_X11_note : gMth yX11_note cX11_note 7 (some .int) 5 := ⟨gTs_t (tb_5 (List.mem_of_getElem? (i := 82) rfl)) rfl, wI_X11, by decide +kernel, by decide +kernel, by decide +kernel⟩
theorem mi_X11_note : Cond.instanceMethod yX11_note ∈ gTs := gTs_t (tb_5 (List.mem_of_getElem? (i := 80) rfl)) rfl
theorem mm_X11_note : gMi yX11_note cX11_note 7 (some .int) 5 := ⟨mt_X11_note, mi_X11_note, gTs_t (tb_5 (List.mem_of_getElem? (i := 81) rfl)) rfl⟩
theorem mt_X11_forget : gMth yX11_forget cX11_forget 2 (some .int) 0 := ⟨gTs_t (tb_5 (List.mem_of_getElem? (i := 88) rfl)) rfl, wI_X11, by decide +kernel, by decide +kernel, by decide +kernel⟩
theorem mi_X11_forget : Cond.instanceMethod yX11_forget ∈ gTs := gTs_t (tb_5 (List.mem_of_getElem? (i := 86) rfl)) rfl
theorem mm_X11_forget : gMi yX11_forget cX11_forget 2 (some .int) 0 := ⟨mt_X11_forget, mi_X11_forget, gTs_t (tb_5 (List.mem_of_getElem? (i := 87) rfl)) rfl⟩
theorem mt_X11_wants : gMth yX11_wants cX11_wants 2 (some .int) 1 := ⟨gTs_t (tb_5 (List.mem_of_getElem? (i := 92) rfl)) rfl, wI_X11, by decide +kernel, by decide +kernel, by decide +kernel⟩
theorem mi_X11_wants : Cond.instanceMethod yX11_wants ∈ gTs := gTs_t (tb_5 (List.mem_of_getElem? (i := 90) rfl)) rfl
theorem mm_X11_wants : gMi yX11_wants cX11_wants 2 (some .int) 1 := ⟨mt_X11_wants, mi_X11_wants, gTs_t (tb_5 (List.mem_of_getElem? (i := 91) rfl)) rfl⟩
theorem mt_X11_wantsBy : gMth yX11_wantsBy cX11_wantsBy 9 (some .int) 2 := ⟨gTs_t (tb_5 (List.mem_of_getElem? (i := 96) rfl)) rfl, wI_X11, by decide +kernel, by decide +kernel, by decide +kernel⟩
theorem mi_X11_wantsBy : Cond.instanceMethod yX11_wantsBy ∈ gTs := gTs_t (tb_5 (List.mem_of_getElem? (i := 95) rfl)) rfl
theorem mm_X11_wantsBy : gMi yX11_wantsBy cX11_wantsBy 9 (some .int) 2 := ⟨mt_X11_wantsBy, mi_X11_wantsBy, gTs_p (q := (yX11_wantsBy, 28)) (List.mem_of_getElem? (i := 53) (by decide +kernel)) (by decide +kernel)⟩
theorem mt_X11_is : gMth yX11_is cX11_is 4 (some .int) 1 := ⟨gTs_t (tb_5 (List.mem_of_getElem? (i := 100) rfl)) rfl, wI_X11, by decide +kernel, by decide +kernel, by decide +kernel⟩
theorem mi_X11_is : Cond.instanceMethod yX11_is ∈ gTs := gTs_t (tb_5 (List.mem_of_getElem? (i := 98) rfl)) rfl
theorem mm_X11_is : gMi yX11_is cX11_is 4 (some .int) 1 := ⟨mt_X11_is, mi_X11_is, gTs_t (tb_5 (List.mem_of_getElem? (i := 99) rfl)) rfl⟩
theorem mt_X11_next : gMth yX11_next cX11_next 9 (some .int) 1 := ⟨gTs_t (tb_5 (List.mem_of_getElem? (i := 104) rfl)) rfl, wI_X11, by decide +kernel, by decide +kernel, by decide +kernel⟩
theorem mi_X11_next : Cond.instanceMethod yX11_next ∈ gTs := gTs_t (tb_5 (List.mem_of_getElem? (i := 102) rfl)) rfl
theorem mm_X11_next : gMi yX11_next cX11_next 9 (some .int) 1 := ⟨mt_X11_next, mi_X11_next, gTs_t (tb_5 (List.mem_of_getElem? (i := 103) rfl)) rfl⟩
theorem mt_X11_tips : gMth yX11_tips cX11_tips 4 (some .int) 2 := ⟨gTs_t (tb_5 (List.mem_of_getElem? (i := 108) rfl)) rfl, wI_X11, by decide +kernel, by decide +kernel, by decide +kernel⟩
theorem mi_X11_tips : Cond.instanceMethod yX11_tips ∈ gTs := gTs_t (tb_5 (List.mem_of_getElem? (i := 106) rfl)) rfl
theorem mm_X11_tips : gMi yX11_tips cX11_tips 4 (some .int) 2 := ⟨mt_X11_tips, mi_X11_tips, gTs_t (tb_5 (List.mem_of_getElem? (i := 107) rfl)) rfl⟩
theorem mt_X11_putAside : gMth yX11_putAside cX11_putAside 2 none 0 := ⟨gTs_t (tb_5 (List.mem_of_getElem? (i := 112) rfl)) rfl, wI_X11, by decide +kernel, by decide +kernel, by decide +kernel⟩
theorem mi_X11_putAside : Cond.instanceMethod yX11_putAside ∈ gTs := gTs_t (tb_5 (List.mem_of_getElem? (i := 111) rfl)) rfl
theorem mm_X11_putAside : gMi yX11_putAside cX11_putAside 2 none 0 := ⟨mt_X11_putAside, mi_X11_putAside, gTs_p (q := (yX11_putAside, 28)) (List.mem_of_getElem? (i := 54) (by decide +kernel)) (by decide +kernel)⟩
theorem mt_X11_takeBack : gMth yX11_takeBack cX11_takeBack 2 none 0 := ⟨gTs_t (tb_5 (List.mem_of_getElem? (i := 116) rfl)) rfl, wI_X11, by decide +kernel, by decide +kernel, by decide +kernel⟩
theorem mi_X11_takeBack : Cond.instanceMethod yX11_takeBack ∈ gTs := gTs_t (tb_5 (List.mem_of_getElem? (i := 115) rfl)) rfl
theorem mm_X11_takeBack : gMi yX11_takeBack cX11_takeBack 2 none 0 := ⟨mt_X11_takeBack, mi_X11_takeBack, gTs_p (q := (yX11_takeBack, 28)) (List.mem_of_getElem? (i := 55) (by decide +kernel)) (by decide +kernel)⟩
theorem mt_X11_moods : gMth yX11_moods cX11_moods 12 (some .int) 1 := ⟨gTs_t (tb_5 (List.mem_of_getElem? (i := 120) rfl)) rfl, wI_X11, by decide +kernel, by decide +kernel, by decide +kernel⟩
theorem mi_X11_moods : Cond.instanceMethod yX11_moods ∈ gTs := gTs_t (tb_5 (List.mem_of_getElem? (i := 118) rfl)) rfl
theorem mm_X11_moods : gMi yX11_moods cX11_moods 12 (some .int) 1 := ⟨mt_X11_moods, mi_X11_moods, gTs_t (tb_5 (List.mem_of_getElem? (i := 119) rfl)) rfl⟩
theorem mt_X11_servedMany : gMth yX11_servedMany cX11_servedMany 3 (some .int) 0 := ⟨gTs_t (tb_5 (List.mem_of_getElem? (i := 125) rfl)) rfl, wI_X11, by decide +kernel, by decide +kernel, by decide +kernel⟩
theorem mi_X11_servedMany : Cond.instanceMethod yX11_servedMany ∈ gTs := gTs_t (tb_5 (List.mem_of_getElem? (i := 124) rfl)) rfl
theorem mm_X11_servedMany : gMi yX11_servedMany cX11_servedMany 3 (some .int) 0 := ⟨mt_X11_servedMany, mi_X11_servedMany, gTs_p (q := (yX11_servedMany, 28)) (List.mem_of_getElem? (i := 56) (by decide +kernel)) (by decide +kernel)⟩
theorem mt_X11_hours : gMth yX11_hours cX11_hours 8 (some .int) 2 := ⟨gTs_t (tb_5 (List.mem_of_getElem? (i := 129) rfl)) rfl, wI_X11, by decide +kernel, by decide +kernel, by decide +kernel⟩
theorem mi_X11_hours : Cond.instanceMethod yX11_hours ∈ gTs := gTs_t (tb_5 (List.mem_of_getElem? (i := 127) rfl)) rfl
theorem mm_X11_hours : gMi yX11_hours cX11_hours 8 (some .int) 2 := ⟨mt_X11_hours, mi_X11_hours, gTs_t (tb_5 (List.mem_of_getElem? (i := 128) rfl)) rfl⟩
theorem mt_X11_part : gMth yX11_part cX11_part 2 (some .long) 1 := ⟨gTs_t (tb_5 (List.mem_of_getElem? (i := 139) rfl)) rfl, wI_X11, by decide +kernel, by decide +kernel, by decide +kernel⟩
theorem mi_X11_part : Cond.instanceMethod yX11_part ∈ gTs := gTs_t (tb_5 (List.mem_of_getElem? (i := 137) rfl)) rfl
theorem mm_X11_part : gMi yX11_part cX11_part 2 (some .long) 1 := ⟨mt_X11_part, mi_X11_part, gTs_t (tb_5 (List.mem_of_getElem? (i := 138) rfl)) rfl⟩
theorem mt_X11_image : gMth yX11_image cX11_image 3 (some .int) 1 := ⟨gTs_t (tb_5 (List.mem_of_getElem? (i := 143) rfl)) rfl, wI_X11, by decide +kernel, by decide +kernel, by decide +kernel⟩
theorem mi_X11_image : Cond.instanceMethod yX11_image ∈ gTs := gTs_t (tb_5 (List.mem_of_getElem? (i := 141) rfl)) rfl
theorem mm_X11_image : gMi yX11_image cX11_image 3 (some .int) 1 := ⟨mt_X11_image, mi_X11_image, gTs_t (tb_5 (List.mem_of_getElem? (i := 142) rfl)) rfl⟩
theorem mt_X11_from : gMth yX11_from cX11_from 3 (some .int) 1 := ⟨gTs_t (tb_5 (List.mem_of_getElem? (i := 147) rfl)) rfl, wI_X11, by decide +kernel, by decide +kernel, by decide +kernel⟩
theorem mi_X11_from : Cond.instanceMethod yX11_from ∈ gTs := gTs_t (tb_5 (List.mem_of_getElem? (i := 145) rfl)) rfl
theorem mm_X11_from : gMi yX11_from cX11_from 3 (some .int) 1 := ⟨mt_X11_from, mi_X11_from, gTs_t (tb_5 (List.mem_of_getElem? (i := 146) rfl)) rfl⟩
theorem mt_X11_status : gMth yX11_status cX11_status 2 (some .int) 1 := ⟨gTs_t (tb_5 (List.mem_of_getElem? (i := 151) rfl)) rfl, wI_X11, by decide +kernel, by decide +kernel, by decide +kernel⟩
theorem mi_X11_status : Cond.instanceMethod yX11_status ∈ gTs := gTs_t (tb_5 (List.mem_of_getElem? (i := 149) rfl)) rfl
theorem mm_X11_status : gMi yX11_status cX11_status 2 (some .int) 1 := ⟨mt_X11_status, mi_X11_status, gTs_t (tb_5 (List.mem_of_getElem? (i := 150) rfl)) rfl⟩
theorem mt_X11_count : gMth yX11_count cX11_count 2 (some .int) 1 := ⟨gTs_t (tb_5 (List.mem_of_getElem? (i := 156) rfl)) rfl, wI_X11, by decide +kernel, by decide +kernel, by decide +kernel⟩
theorem mi_X11_count : Cond.instanceMethod yX11_count ∈ gTs := gTs_t (tb_5 (List.mem_of_getElem? (i := 154) rfl)) rfl
theorem mm_X11_count : gMi yX11_count cX11_count 2 (some .int) 1 := ⟨mt_X11_count, mi_X11_count, gTs_t (tb_5 (List.mem_of_getElem? (i := 155) rfl)) rfl⟩
theorem mt_X11_countOf : gMth yX11_countOf cX11_countOf 2 (some .int) 1 := ⟨gTs_t (tb_5 (List.mem_of_getElem? (i := 160) rfl)) rfl, wI_X11, by decide +kernel, by decide +kernel, by decide +kernel⟩
theorem mi_X11_countOf : Cond.instanceMethod yX11_countOf ∈ gTs := gTs_t (tb_5 (List.mem_of_getElem? (i := 159) rfl)) rfl
theorem mm_X11_countOf : gMi yX11_countOf cX11_countOf 2 (some .int) 1 := ⟨mt_X11_countOf, mi_X11_countOf, gTs_p (q := (yX11_countOf, 28)) (List.mem_of_getElem? (i := 57) (by decide +kernel)) (by decide +kernel)⟩
theorem mt_X11_digest : gMth yX11_digest cX11_digest 4 (some .long) 0 := ⟨gTs_t (tb_5 (List.mem_of_getElem? (i := 164) rfl)) rfl, wI_X11, by decide +kernel, by decide +kernel, by decide +kernel⟩
theorem mi_X11_digest : Cond.instanceMethod yX11_digest ∈ gTs := gTs_t (tb_5 (List.mem_of_getElem? (i := 162) rfl)) rfl
theorem mm_X11_digest : gMi yX11_digest cX11_digest 4 (some .long) 0 := ⟨mt_X11_digest, mi_X11_digest, gTs_t (tb_5 (List.mem_of_getElem? (i := 163) rfl)) rfl⟩
theorem in_X0 : ∀ w ∈ u_ws RX0 TX0 0, w ∈ gTs := by decide +kernel
theorem in_X1 : ∀ w ∈ u_ws RX1 TX1 16, w ∈ gTs := by decide +kernel
theorem in_X2 : ∀ w ∈ u_ws RX2 TX2 0, w ∈ gTs := by decide +kernel
theorem in_X3 : ∀ w ∈ u_ws RX3 TX3 2, w ∈ gTs := by decide +kernel
theorem in_X4 : ∀ w ∈ u_ws RX4 TX4 0, w ∈ gTs := by decide +kernel
theorem in_X5 : ∀ w ∈ u_ws RX5 TX5 0, w ∈ gTs := by decide +kernel
theorem in_X6 : ∀ w ∈ u_ws RX6 TX6 0, w ∈ gTs := by decide +kernel
theorem in_X7 : ∀ w ∈ u_ws RX7 TX7 5, w ∈ gTs := by decide +kernel
theorem in_X8 : ∀ w ∈ u_ws RX8 TX8 0, w ∈ gTs := by decide +kernel
theorem in_X9 : ∀ w ∈ u_ws RX9 TX9 6, w ∈ gTs := by decide +kernel
theorem in_X10 : ∀ w ∈ u_ws RX10 TX10 9, w ∈ gTs := by decide +kernel
theorem in_X11 : ∀ w ∈ u_ws RX11 TX11 28, w ∈ gTs := by decide +kernel
theorem wcopy : Cond.native arraycopyName ∈ gTs ∧ Cond.static arraycopyName ∈ gTs ∧ Cond.initialized "java/lang/System" ∈ gTs := ⟨gTs_t (tb_2 (List.mem_of_getElem? (i := 43) rfl)) rfl, gTs_t (tb_2 (List.mem_of_getElem? (i := 42) rfl)) rfl, wI_J10⟩
end
section
section GFL
variable {X : gX} {Y : gY} {cc : ByteArray} {nL fr lo pc : Nat} {lv : List (Nat × Value)} {st : List Value} {M : gMem}
theorem gf_X10_9 (hC : gC X Y cc "GuestStaff" nL fr lo) (hd : decode cc pc = .ok (.getfield 9, 3)) (kk : gWW X Y nL (pc + 3) lv (.ref (gad Y 0 35) :: st) M) : gWW X Y nL pc lv (.ref (gad Y 0 34) :: st) M := q_get (k := 3) hC (gV_t (by decide) (by decide)) rfl rfl in_X10 (by decide) wF_X10_9 rfl hd kk
theorem gf_X10_16 (hC : gC X Y cc "GuestStaff" nL fr lo) (hd : decode cc pc = .ok (.getfield 16, 3)) (kk : gWW X Y nL (pc + 3) lv (.ref (gad Y 0 36) :: st) M) : gWW X Y nL pc lv (.ref (gad Y 0 34) :: st) M := q_get (k := 4) hC (gV_t (by decide) (by decide)) rfl rfl in_X10 (by decide) wF_X10_16 rfl hd kk
theorem gf_X10_23 (hC : gC X Y cc "GuestStaff" nL fr lo) (hd : decode cc pc = .ok (.getfield 23, 3)) (kk : gWW X Y nL (pc + 3) lv (.ref (gad Y 0 38) :: st) M) : gWW X Y nL pc lv (.ref (gad Y 0 34) :: st) M := q_get (k := 5) hC (gV_t (by decide) (by decide)) rfl rfl in_X10 (by decide) wF_X10_23 rfl hd kk
theorem gf_X10_27 (hC : gC X Y cc "GuestStaff" nL fr lo) (hd : decode cc pc = .ok (.getfield 27, 3)) (kk : gWW X Y nL (pc + 3) lv (.ref (gad Y 0 50) :: st) M) : gWW X Y nL pc lv (.ref (gad Y 0 34) :: st) M := q_get (k := 6) hC (gV_t (by decide) (by decide)) rfl rfl in_X10 (by decide) wF_X10_27 rfl hd kk
theorem gf_X10_31 (hC : gC X Y cc "GuestStaff" nL fr lo) (hd : decode cc pc = .ok (.getfield 31, 3)) (kk : gWW X Y nL (pc + 3) lv (.long (M.2 34 7) :: st) M) : gWW X Y nL pc lv (.ref (gad Y 0 34) :: st) M := q_get (k := 7) hC (gV_t (by decide) (by decide)) rfl rfl in_X10 (by decide) wF_X10_31 rfl hd kk
theorem pf_X10_31 (hC : gC X Y cc "GuestStaff" nL fr lo) {x : Int64} (hd : decode cc pc = .ok (.putfield 31, 3)) (kk : gWW X Y nL (pc + 3) lv st (gwl M 34 7 x)) : gWW X Y nL pc lv (.long x :: .ref (gad Y 0 34) :: st) M := q_put (k := 7) hC (gwl M 34 7 x) (gV_t (by decide) (by decide)) rfl rfl in_X10 tyX10_ok nmX10 (by decide) wF_X10_31 rfl (tyX10_ok 7 (by decide)) rfl rfl (Nat.le_of_ble_eq_true rfl) rfl (gwl_ne (by decide)) hd kk
theorem gf_X10_35 (hC : gC X Y cc "GuestStaff" nL fr lo) (hd : decode cc pc = .ok (.getfield 35, 3)) (kk : gWW X Y nL (pc + 3) lv (.long (M.2 34 8) :: st) M) : gWW X Y nL pc lv (.ref (gad Y 0 34) :: st) M := q_get (k := 8) hC (gV_t (by decide) (by decide)) rfl rfl in_X10 (by decide) wF_X10_35 rfl hd kk
theorem pf_X10_35 (hC : gC X Y cc "GuestStaff" nL fr lo) {x : Int64} (hd : decode cc pc = .ok (.putfield 35, 3)) (kk : gWW X Y nL (pc + 3) lv st (gwl M 34 8 x)) : gWW X Y nL pc lv (.long x :: .ref (gad Y 0 34) :: st) M := q_put (k := 8) hC (gwl M 34 8 x) (gV_t (by decide) (by decide)) rfl rfl in_X10 tyX10_ok nmX10 (by decide) wF_X10_35 rfl (tyX10_ok 8 (by decide)) rfl rfl (Nat.le_of_ble_eq_true rfl) rfl (gwl_ne (by decide)) hd kk
theorem gf_X10_61 (hC : gC X Y cc "GuestStaff" nL fr lo) (hd : decode cc pc = .ok (.getfield 61, 3)) (kk : gWW X Y nL (pc + 3) lv (.ref (gad Y 0 0) :: st) M) : gWW X Y nL pc lv (.ref (gad Y 0 34) :: st) M := q_get (k := 0) hC (gV_t (by decide) (by decide)) rfl rfl in_X10 (by decide) wF_X10_61 rfl hd kk
theorem gf_X10_65 (hC : gC X Y cc "GuestStaff" nL fr lo) (hd : decode cc pc = .ok (.getfield 65, 3)) (kk : gWW X Y nL (pc + 3) lv (.ref (gad Y 1 0) :: st) M) : gWW X Y nL pc lv (.ref (gad Y 0 34) :: st) M := q_get (k := 1) hC (gV_t (by decide) (by decide)) rfl rfl in_X10 (by decide) wF_X10_65 rfl hd kk
theorem gf_X10_68 (hC : gC X Y cc "GuestStaff" nL fr lo) (hd : decode cc pc = .ok (.getfield 68, 3)) (kk : gWW X Y nL (pc + 3) lv (.ref (gad Y 0 58) :: st) M) : gWW X Y nL pc lv (.ref (gad Y 0 34) :: st) M := q_get (k := 2) hC (gV_t (by decide) (by decide)) rfl rfl in_X10 (by decide) wF_X10_68 rfl hd kk
theorem gf_X10_72 (hC : gC X Y cc "GuestStaff" nL fr lo) {c : Nat} (hc : c < 4) (hd : decode cc pc = .ok (.getfield 72, 3)) (kk : gWW X Y nL (pc + 3) lv (.int (M.1 c 0 13) :: st) M) : gWW X Y nL pc lv (.ref (gad Y c 0) :: st) M := q_getN (k := 13) hC (gV_h hc (by decide)) rfl rfl in_X1 (by decide) wN_X10_72 rfl hd kk
theorem gf_X10_99 (hC : gC X Y cc "GuestStaff" nL fr lo) {c : Nat} (hc : c < 4) (hd : decode cc pc = .ok (.getfield 99, 3)) (kk : gWW X Y nL (pc + 3) lv (.ref (gad Y c 4) :: st) M) : gWW X Y nL pc lv (.ref (gad Y c 0) :: st) M := q_getN (k := 4) hC (gV_h hc (by decide)) rfl rfl in_X1 (by decide) wN_X10_99 rfl hd kk
theorem gf_X10_105 (hC : gC X Y cc "GuestStaff" nL fr lo) (hd : decode cc pc = .ok (.getfield 105, 3)) (kk : gWW X Y nL (pc + 3) lv (.int (M.1 0 36 1) :: st) M) : gWW X Y nL pc lv (.ref (gad Y 0 36) :: st) M := q_getN (k := 1) hC (gV_t (by decide) (by decide)) rfl rfl in_X9 (by decide) wN_X10_105 rfl hd kk
theorem pf_X10_105 (hC : gC X Y cc "GuestStaff" nL fr lo) {x : Int32} (hd : decode cc pc = .ok (.putfield 105, 3)) (kk : gWW X Y nL (pc + 3) lv st (gwr M 0 36 1 x)) : gWW X Y nL pc lv (.int x :: .ref (gad Y 0 36) :: st) M := q_putN (k := 1) hC (gwr M 0 36 1 x) (gV_t (by decide) (by decide)) rfl rfl in_X9 tyX9_ok nmX9 (by decide) wN_X10_105 rfl (tyX9_ok 1 (by decide)) rfl rfl (Nat.le_of_ble_eq_true rfl) (by show gce Y ((gup M 0 36 _).1 0 36) _ 0 36 = _; rw [gup_at]; rfl) gup_ne hd kk
theorem gf_X10_115 (hC : gC X Y cc "GuestStaff" nL fr lo) (hd : decode cc pc = .ok (.getfield 115, 3)) (kk : gWW X Y nL (pc + 3) lv (.int (M.1 0 36 2) :: st) M) : gWW X Y nL pc lv (.ref (gad Y 0 36) :: st) M := q_getN (k := 2) hC (gV_t (by decide) (by decide)) rfl rfl in_X9 (by decide) wN_X10_115 rfl hd kk
theorem gf_X10_125 (hC : gC X Y cc "GuestStaff" nL fr lo) {c : Nat} (hc : c < 4) (hd : decode cc pc = .ok (.getfield 125, 3)) (kk : gWW X Y nL (pc + 3) lv (.int (M.1 c 0 15) :: st) M) : gWW X Y nL pc lv (.ref (gad Y c 0) :: st) M := q_getN (k := 15) hC (gV_h hc (by decide)) rfl rfl in_X1 (by decide) wN_X10_125 rfl hd kk
theorem gf_X10_128 (hC : gC X Y cc "GuestStaff" nL fr lo) {c : Nat} (hc : c < 4) (hd : decode cc pc = .ok (.getfield 128, 3)) (kk : gWW X Y nL (pc + 3) lv (.int (M.1 c 0 12) :: st) M) : gWW X Y nL pc lv (.ref (gad Y c 0) :: st) M := q_getN (k := 12) hC (gV_h hc (by decide)) rfl rfl in_X1 (by decide) wN_X10_128 rfl hd kk
theorem gf_X10_137 (hC : gC X Y cc "GuestStaff" nL fr lo) {c : Nat} (hc : c < 4) (hd : decode cc pc = .ok (.getfield 137, 3)) (kk : gWW X Y nL (pc + 3) lv (.int (M.1 c 0 14) :: st) M) : gWW X Y nL pc lv (.ref (gad Y c 0) :: st) M := q_getN (k := 14) hC (gV_h hc (by decide)) rfl rfl in_X1 (by decide) wN_X10_137 rfl hd kk
theorem gf_X10_140 (hC : gC X Y cc "GuestStaff" nL fr lo) {c : Nat} (hc : c < 4) (hd : decode cc pc = .ok (.getfield 140, 3)) (kk : gWW X Y nL (pc + 3) lv (.ref (gad Y c 1) :: st) M) : gWW X Y nL pc lv (.ref (gad Y c 0) :: st) M := q_getN (k := 1) hC (gV_h hc (by decide)) rfl rfl in_X1 (by decide) wN_X10_140 rfl hd kk
theorem gf_X10_143 (hC : gC X Y cc "GuestStaff" nL fr lo) {c : Nat} (hc : c < 4) (hd : decode cc pc = .ok (.getfield 143, 3)) (kk : gWW X Y nL (pc + 3) lv (.ref (gad Y c 2) :: st) M) : gWW X Y nL pc lv (.ref (gad Y c 0) :: st) M := q_getN (k := 2) hC (gV_h hc (by decide)) rfl rfl in_X1 (by decide) wN_X10_143 rfl hd kk
theorem gf_X10_146 (hC : gC X Y cc "GuestStaff" nL fr lo) {c : Nat} (hc : c < 4) (hd : decode cc pc = .ok (.getfield 146, 3)) (kk : gWW X Y nL (pc + 3) lv (.ref (gad Y c 3) :: st) M) : gWW X Y nL pc lv (.ref (gad Y c 0) :: st) M := q_getN (k := 3) hC (gV_h hc (by decide)) rfl rfl in_X1 (by decide) wN_X10_146 rfl hd kk
theorem gf_X10_149 (hC : gC X Y cc "GuestStaff" nL fr lo) {c : Nat} (hc : c < 4) (hd : decode cc pc = .ok (.getfield 149, 3)) (kk : gWW X Y nL (pc + 3) lv (.ref (gad Y c 5) :: st) M) : gWW X Y nL pc lv (.ref (gad Y c 0) :: st) M := q_getN (k := 5) hC (gV_h hc (by decide)) rfl rfl in_X1 (by decide) wN_X10_149 rfl hd kk
theorem gf_X10_197 (hC : gC X Y cc "GuestStaff" nL fr lo) {c : Nat} (hc : c < 4) (hd : decode cc pc = .ok (.getfield 197, 3)) (kk : gWW X Y nL (pc + 3) lv (.ref (gad Y c 6) :: st) M) : gWW X Y nL pc lv (.ref (gad Y c 0) :: st) M := q_getN (k := 6) hC (gV_h hc (by decide)) rfl rfl in_X1 (by decide) wN_X10_197 rfl hd kk
theorem gf_X10_201 (hC : gC X Y cc "GuestStaff" nL fr lo) {c : Nat} (hc : c < 4) (hd : decode cc pc = .ok (.getfield 201, 3)) (kk : gWW X Y nL (pc + 3) lv (.int (M.1 c 6 1) :: st) M) : gWW X Y nL pc lv (.ref (gad Y c 6) :: st) M := q_getN (k := 1) hC (gV_h hc (by decide)) rfl rfl in_X3 (by decide) wN_X10_201 rfl hd kk
theorem pf_X10_201 (hC : gC X Y cc "GuestStaff" nL fr lo) {c : Nat} (hc : c < 4) {x : Int32} (hd : decode cc pc = .ok (.putfield 201, 3)) (kk : gWW X Y nL (pc + 3) lv st (gwr M c 6 1 x)) : gWW X Y nL pc lv (.int x :: .ref (gad Y c 6) :: st) M := q_putN (k := 1) hC (gwr M c 6 1 x) (gV_h hc (by decide)) rfl rfl in_X3 tyX3_ok nmX3 (by decide) wN_X10_201 rfl (tyX3_ok 1 (by decide)) rfl rfl (Nat.le_of_ble_eq_true rfl) (by show gce Y ((gup M c 6 _).1 c 6) _ c 6 = _; rw [gup_at]; rfl) gup_ne hd kk
theorem gf_X1_9 (hC : gC X Y cc "GuestStaff$House" nL fr lo) {c : Nat} (hc : c < 4) (hd : decode cc pc = .ok (.getfield 9, 3)) (kk : gWW X Y nL (pc + 3) lv (.ref (gad Y c 1) :: st) M) : gWW X Y nL pc lv (.ref (gad Y c 0) :: st) M := q_get (k := 1) hC (gV_h hc (by decide)) rfl rfl in_X1 (by decide) wF_X1_9 rfl hd kk
theorem gf_X1_15 (hC : gC X Y cc "GuestStaff$House" nL fr lo) {c : Nat} (hc : c < 4) (hd : decode cc pc = .ok (.getfield 15, 3)) (kk : gWW X Y nL (pc + 3) lv (.ref (gad Y c 2) :: st) M) : gWW X Y nL pc lv (.ref (gad Y c 0) :: st) M := q_get (k := 2) hC (gV_h hc (by decide)) rfl rfl in_X1 (by decide) wF_X1_15 rfl hd kk
theorem gf_X1_18 (hC : gC X Y cc "GuestStaff$House" nL fr lo) {c : Nat} (hc : c < 4) (hd : decode cc pc = .ok (.getfield 18, 3)) (kk : gWW X Y nL (pc + 3) lv (.ref (gad Y c 3) :: st) M) : gWW X Y nL pc lv (.ref (gad Y c 0) :: st) M := q_get (k := 3) hC (gV_h hc (by decide)) rfl rfl in_X1 (by decide) wF_X1_18 rfl hd kk
theorem gf_X1_21 (hC : gC X Y cc "GuestStaff$House" nL fr lo) {c : Nat} (hc : c < 4) (hd : decode cc pc = .ok (.getfield 21, 3)) (kk : gWW X Y nL (pc + 3) lv (.ref (gad Y c 4) :: st) M) : gWW X Y nL pc lv (.ref (gad Y c 0) :: st) M := q_get (k := 4) hC (gV_h hc (by decide)) rfl rfl in_X1 (by decide) wF_X1_21 rfl hd kk
theorem gf_X1_24 (hC : gC X Y cc "GuestStaff$House" nL fr lo) {c : Nat} (hc : c < 4) (hd : decode cc pc = .ok (.getfield 24, 3)) (kk : gWW X Y nL (pc + 3) lv (.ref (gad Y c 5) :: st) M) : gWW X Y nL pc lv (.ref (gad Y c 0) :: st) M := q_get (k := 5) hC (gV_h hc (by decide)) rfl rfl in_X1 (by decide) wF_X1_24 rfl hd kk
theorem gf_X1_30 (hC : gC X Y cc "GuestStaff$House" nL fr lo) {c : Nat} (hc : c < 4) (hd : decode cc pc = .ok (.getfield 30, 3)) (kk : gWW X Y nL (pc + 3) lv (.ref (gad Y c 6) :: st) M) : gWW X Y nL pc lv (.ref (gad Y c 0) :: st) M := q_get (k := 6) hC (gV_h hc (by decide)) rfl rfl in_X1 (by decide) wF_X1_30 rfl hd kk
theorem gf_X1_36 (hC : gC X Y cc "GuestStaff$House" nL fr lo) {c : Nat} (hc : c < 4) (hd : decode cc pc = .ok (.getfield 36, 3)) (kk : gWW X Y nL (pc + 3) lv (.ref (gad Y c 14) :: st) M) : gWW X Y nL pc lv (.ref (gad Y c 0) :: st) M := q_get (k := 7) hC (gV_h hc (by decide)) rfl rfl in_X1 (by decide) wF_X1_36 rfl hd kk
theorem gf_X1_39 (hC : gC X Y cc "GuestStaff$House" nL fr lo) {c : Nat} (hc : c < 4) (hd : decode cc pc = .ok (.getfield 39, 3)) (kk : gWW X Y nL (pc + 3) lv (.ref (gad Y c 23) :: st) M) : gWW X Y nL pc lv (.ref (gad Y c 0) :: st) M := q_get (k := 8) hC (gV_h hc (by decide)) rfl rfl in_X1 (by decide) wF_X1_39 rfl hd kk
theorem gf_X1_42 (hC : gC X Y cc "GuestStaff$House" nL fr lo) {c : Nat} (hc : c < 4) (hd : decode cc pc = .ok (.getfield 42, 3)) (kk : gWW X Y nL (pc + 3) lv (.ref (gad Y c 32) :: st) M) : gWW X Y nL pc lv (.ref (gad Y c 0) :: st) M := q_get (k := 9) hC (gV_h hc (by decide)) rfl rfl in_X1 (by decide) wF_X1_42 rfl hd kk
theorem gf_X1_45 (hC : gC X Y cc "GuestStaff$House" nL fr lo) {c : Nat} (hc : c < 4) (hd : decode cc pc = .ok (.getfield 45, 3)) (kk : gWW X Y nL (pc + 3) lv (.ref (gad Y c 33) :: st) M) : gWW X Y nL pc lv (.ref (gad Y c 0) :: st) M := q_get (k := 10) hC (gV_h hc (by decide)) rfl rfl in_X1 (by decide) wF_X1_45 rfl hd kk
theorem gf_X1_48 (hC : gC X Y cc "GuestStaff$House" nL fr lo) {c : Nat} (hc : c < 4) (hd : decode cc pc = .ok (.getfield 48, 3)) (kk : gWW X Y nL (pc + 3) lv (.int (M.1 c 0 11) :: st) M) : gWW X Y nL pc lv (.ref (gad Y c 0) :: st) M := q_get (k := 11) hC (gV_h hc (by decide)) rfl rfl in_X1 (by decide) wF_X1_48 rfl hd kk
theorem pf_X1_48 (hC : gC X Y cc "GuestStaff$House" nL fr lo) {c : Nat} (hc : c < 4) {x : Int32} (hd : decode cc pc = .ok (.putfield 48, 3)) (kk : gWW X Y nL (pc + 3) lv st (gwr M c 0 11 x)) : gWW X Y nL pc lv (.int x :: .ref (gad Y c 0) :: st) M := q_put (k := 11) hC (gwr M c 0 11 x) (gV_h hc (by decide)) rfl rfl in_X1 tyX1_ok nmX1 (by decide) wF_X1_48 rfl (tyX1_ok 11 (by decide)) rfl rfl (Nat.le_of_ble_eq_true rfl) (by show gce Y ((gup M c 0 _).1 c 0) _ c 0 = _; rw [gup_at]; rfl) gup_ne hd kk
theorem gf_X1_52 (hC : gC X Y cc "GuestStaff$House" nL fr lo) {c : Nat} (hc : c < 4) (hd : decode cc pc = .ok (.getfield 52, 3)) (kk : gWW X Y nL (pc + 3) lv (.int (M.1 c 0 12) :: st) M) : gWW X Y nL pc lv (.ref (gad Y c 0) :: st) M := q_get (k := 12) hC (gV_h hc (by decide)) rfl rfl in_X1 (by decide) wF_X1_52 rfl hd kk
theorem pf_X1_52 (hC : gC X Y cc "GuestStaff$House" nL fr lo) {c : Nat} (hc : c < 4) {x : Int32} (hd : decode cc pc = .ok (.putfield 52, 3)) (kk : gWW X Y nL (pc + 3) lv st (gwr M c 0 12 x)) : gWW X Y nL pc lv (.int x :: .ref (gad Y c 0) :: st) M := q_put (k := 12) hC (gwr M c 0 12 x) (gV_h hc (by decide)) rfl rfl in_X1 tyX1_ok nmX1 (by decide) wF_X1_52 rfl (tyX1_ok 12 (by decide)) rfl rfl (Nat.le_of_ble_eq_true rfl) (by show gce Y ((gup M c 0 _).1 c 0) _ c 0 = _; rw [gup_at]; rfl) gup_ne hd kk
theorem gf_X1_55 (hC : gC X Y cc "GuestStaff$House" nL fr lo) {c : Nat} (hc : c < 4) (hd : decode cc pc = .ok (.getfield 55, 3)) (kk : gWW X Y nL (pc + 3) lv (.int (M.1 c 0 13) :: st) M) : gWW X Y nL pc lv (.ref (gad Y c 0) :: st) M := q_get (k := 13) hC (gV_h hc (by decide)) rfl rfl in_X1 (by decide) wF_X1_55 rfl hd kk
theorem pf_X1_55 (hC : gC X Y cc "GuestStaff$House" nL fr lo) {c : Nat} (hc : c < 4) {x : Int32} (hd : decode cc pc = .ok (.putfield 55, 3)) (kk : gWW X Y nL (pc + 3) lv st (gwr M c 0 13 x)) : gWW X Y nL pc lv (.int x :: .ref (gad Y c 0) :: st) M := q_put (k := 13) hC (gwr M c 0 13 x) (gV_h hc (by decide)) rfl rfl in_X1 tyX1_ok nmX1 (by decide) wF_X1_55 rfl (tyX1_ok 13 (by decide)) rfl rfl (Nat.le_of_ble_eq_true rfl) (by show gce Y ((gup M c 0 _).1 c 0) _ c 0 = _; rw [gup_at]; rfl) gup_ne hd kk
theorem gf_X1_58 (hC : gC X Y cc "GuestStaff$House" nL fr lo) {c : Nat} (hc : c < 4) (hd : decode cc pc = .ok (.getfield 58, 3)) (kk : gWW X Y nL (pc + 3) lv (.int (M.1 c 0 14) :: st) M) : gWW X Y nL pc lv (.ref (gad Y c 0) :: st) M := q_get (k := 14) hC (gV_h hc (by decide)) rfl rfl in_X1 (by decide) wF_X1_58 rfl hd kk
theorem pf_X1_58 (hC : gC X Y cc "GuestStaff$House" nL fr lo) {c : Nat} (hc : c < 4) {x : Int32} (hd : decode cc pc = .ok (.putfield 58, 3)) (kk : gWW X Y nL (pc + 3) lv st (gwr M c 0 14 x)) : gWW X Y nL pc lv (.int x :: .ref (gad Y c 0) :: st) M := q_put (k := 14) hC (gwr M c 0 14 x) (gV_h hc (by decide)) rfl rfl in_X1 tyX1_ok nmX1 (by decide) wF_X1_58 rfl (tyX1_ok 14 (by decide)) rfl rfl (Nat.le_of_ble_eq_true rfl) (by show gce Y ((gup M c 0 _).1 c 0) _ c 0 = _; rw [gup_at]; rfl) gup_ne hd kk
theorem gf_X1_61 (hC : gC X Y cc "GuestStaff$House" nL fr lo) {c : Nat} (hc : c < 4) (hd : decode cc pc = .ok (.getfield 61, 3)) (kk : gWW X Y nL (pc + 3) lv (.int (M.1 c 0 15) :: st) M) : gWW X Y nL pc lv (.ref (gad Y c 0) :: st) M := q_get (k := 15) hC (gV_h hc (by decide)) rfl rfl in_X1 (by decide) wF_X1_61 rfl hd kk
theorem pf_X1_61 (hC : gC X Y cc "GuestStaff$House" nL fr lo) {c : Nat} (hc : c < 4) {x : Int32} (hd : decode cc pc = .ok (.putfield 61, 3)) (kk : gWW X Y nL (pc + 3) lv st (gwr M c 0 15 x)) : gWW X Y nL pc lv (.int x :: .ref (gad Y c 0) :: st) M := q_put (k := 15) hC (gwr M c 0 15 x) (gV_h hc (by decide)) rfl rfl in_X1 tyX1_ok nmX1 (by decide) wF_X1_61 rfl (tyX1_ok 15 (by decide)) rfl rfl (Nat.le_of_ble_eq_true rfl) (by show gce Y ((gup M c 0 _).1 c 0) _ c 0 = _; rw [gup_at]; rfl) gup_ne hd kk
theorem gf_X1_64 (hC : gC X Y cc "GuestStaff$House" nL fr lo) {c : Nat} (hc : c < 4) (hd : decode cc pc = .ok (.getfield 64, 3)) (kk : gWW X Y nL (pc + 3) lv (.ref (gad Y 0 51) :: st) M) : gWW X Y nL pc lv (.ref (gad Y c 0) :: st) M := q_get (k := 0) hC (gV_h hc (by decide)) rfl rfl in_X1 (by decide) wF_X1_64 rfl hd kk
theorem pf_X1_68 (hC : gC X Y cc "GuestStaff$House" nL fr lo) {c : Nat} (hc : c < 4) {x : Int32} (hd : decode cc pc = .ok (.putfield 68, 3)) (kk : gWW X Y nL (pc + 3) lv st (gwr M c 6 1 x)) : gWW X Y nL pc lv (.int x :: .ref (gad Y c 6) :: st) M := q_putN (k := 1) hC (gwr M c 6 1 x) (gV_h hc (by decide)) rfl rfl in_X3 tyX3_ok nmX3 (by decide) wN_X1_68 rfl (tyX3_ok 1 (by decide)) rfl rfl (Nat.le_of_ble_eq_true rfl) (by show gce Y ((gup M c 6 _).1 c 6) _ c 6 = _; rw [gup_at]; rfl) gup_ne hd kk
theorem gf_X3_13 (hC : gC X Y cc "GuestStaff$Notes" nL fr lo) {c : Nat} (hc : c < 4) (hd : decode cc pc = .ok (.getfield 13, 3)) (kk : gWW X Y nL (pc + 3) lv (.ref (gad Y c 7) :: st) M) : gWW X Y nL pc lv (.ref (gad Y c 6) :: st) M := q_get (k := 0) hC (gV_h hc (by decide)) rfl rfl in_X3 (by decide) wF_X3_13 rfl hd kk
theorem gf_X3_16 (hC : gC X Y cc "GuestStaff$Notes" nL fr lo) {c : Nat} (hc : c < 4) (hd : decode cc pc = .ok (.getfield 16, 3)) (kk : gWW X Y nL (pc + 3) lv (.int (M.1 c 6 1) :: st) M) : gWW X Y nL pc lv (.ref (gad Y c 6) :: st) M := q_get (k := 1) hC (gV_h hc (by decide)) rfl rfl in_X3 (by decide) wF_X3_16 rfl hd kk
theorem pf_X3_16 (hC : gC X Y cc "GuestStaff$Notes" nL fr lo) {c : Nat} (hc : c < 4) {x : Int32} (hd : decode cc pc = .ok (.putfield 16, 3)) (kk : gWW X Y nL (pc + 3) lv st (gwr M c 6 1 x)) : gWW X Y nL pc lv (.int x :: .ref (gad Y c 6) :: st) M := q_put (k := 1) hC (gwr M c 6 1 x) (gV_h hc (by decide)) rfl rfl in_X3 tyX3_ok nmX3 (by decide) wF_X3_16 rfl (tyX3_ok 1 (by decide)) rfl rfl (Nat.le_of_ble_eq_true rfl) (by show gce Y ((gup M c 6 _).1 c 6) _ c 6 = _; rw [gup_at]; rfl) gup_ne hd kk
theorem gf_X7_9 (hC : gC X Y cc "GuestStaff$Rows" nL fr lo) (hd : decode cc pc = .ok (.getfield 9, 3)) (kk : gWW X Y nL (pc + 3) lv (.ref (gad Y 0 39) :: st) M) : gWW X Y nL pc lv (.ref (gad Y 0 38) :: st) M := q_get (k := 0) hC (gV_t (by decide) (by decide)) rfl rfl in_X7 (by decide) wF_X7_9 rfl hd kk
theorem gf_X7_15 (hC : gC X Y cc "GuestStaff$Rows" nL fr lo) (hd : decode cc pc = .ok (.getfield 15, 3)) (kk : gWW X Y nL (pc + 3) lv (.ref (gad Y 0 40) :: st) M) : gWW X Y nL pc lv (.ref (gad Y 0 38) :: st) M := q_get (k := 1) hC (gV_t (by decide) (by decide)) rfl rfl in_X7 (by decide) wF_X7_15 rfl hd kk
theorem gf_X7_20 (hC : gC X Y cc "GuestStaff$Rows" nL fr lo) (hd : decode cc pc = .ok (.getfield 20, 3)) (kk : gWW X Y nL (pc + 3) lv (.ref (gad Y 0 41) :: st) M) : gWW X Y nL pc lv (.ref (gad Y 0 38) :: st) M := q_get (k := 2) hC (gV_t (by decide) (by decide)) rfl rfl in_X7 (by decide) wF_X7_20 rfl hd kk
theorem gf_X7_23 (hC : gC X Y cc "GuestStaff$Rows" nL fr lo) (hd : decode cc pc = .ok (.getfield 23, 3)) (kk : gWW X Y nL (pc + 3) lv (.ref (gad Y 0 49) :: st) M) : gWW X Y nL pc lv (.ref (gad Y 0 38) :: st) M := q_get (k := 3) hC (gV_t (by decide) (by decide)) rfl rfl in_X7 (by decide) wF_X7_23 rfl hd kk
theorem gf_X7_26 (hC : gC X Y cc "GuestStaff$Rows" nL fr lo) (hd : decode cc pc = .ok (.getfield 26, 3)) (kk : gWW X Y nL (pc + 3) lv (.int (M.1 0 38 4) :: st) M) : gWW X Y nL pc lv (.ref (gad Y 0 38) :: st) M := q_get (k := 4) hC (gV_t (by decide) (by decide)) rfl rfl in_X7 (by decide) wF_X7_26 rfl hd kk
theorem pf_X7_26 (hC : gC X Y cc "GuestStaff$Rows" nL fr lo) {x : Int32} (hd : decode cc pc = .ok (.putfield 26, 3)) (kk : gWW X Y nL (pc + 3) lv st (gwr M 0 38 4 x)) : gWW X Y nL pc lv (.int x :: .ref (gad Y 0 38) :: st) M := q_put (k := 4) hC (gwr M 0 38 4 x) (gV_t (by decide) (by decide)) rfl rfl in_X7 tyX7_ok nmX7 (by decide) wF_X7_26 rfl (tyX7_ok 4 (by decide)) rfl rfl (Nat.le_of_ble_eq_true rfl) (by show gce Y ((gup M 0 38 _).1 0 38) _ 0 38 = _; rw [gup_at]; rfl) gup_ne hd kk
theorem gf_X7_30 (hC : gC X Y cc "GuestStaff$Rows" nL fr lo) {c : Nat} (hc : c < 4) (hd : decode cc pc = .ok (.getfield 30, 3)) (kk : gWW X Y nL (pc + 3) lv (.int (M.1 c 0 13) :: st) M) : gWW X Y nL pc lv (.ref (gad Y c 0) :: st) M := q_getN (k := 13) hC (gV_h hc (by decide)) rfl rfl in_X1 (by decide) wN_X7_30 rfl hd kk
theorem gf_X7_43 (hC : gC X Y cc "GuestStaff$Rows" nL fr lo) {c : Nat} (hc : c < 4) (hd : decode cc pc = .ok (.getfield 43, 3)) (kk : gWW X Y nL (pc + 3) lv (.ref (gad Y c 2) :: st) M) : gWW X Y nL pc lv (.ref (gad Y c 0) :: st) M := q_getN (k := 2) hC (gV_h hc (by decide)) rfl rfl in_X1 (by decide) wN_X7_43 rfl hd kk
theorem gf_X9_9 (hC : gC X Y cc "GuestStaff$Text" nL fr lo) (hd : decode cc pc = .ok (.getfield 9, 3)) (kk : gWW X Y nL (pc + 3) lv (.ref (gad Y 0 37) :: st) M) : gWW X Y nL pc lv (.ref (gad Y 0 36) :: st) M := q_get (k := 0) hC (gV_t (by decide) (by decide)) rfl rfl in_X9 (by decide) wF_X9_9 rfl hd kk
theorem gf_X9_15 (hC : gC X Y cc "GuestStaff$Text" nL fr lo) (hd : decode cc pc = .ok (.getfield 15, 3)) (kk : gWW X Y nL (pc + 3) lv (.int (M.1 0 36 1) :: st) M) : gWW X Y nL pc lv (.ref (gad Y 0 36) :: st) M := q_get (k := 1) hC (gV_t (by decide) (by decide)) rfl rfl in_X9 (by decide) wF_X9_15 rfl hd kk
theorem pf_X9_15 (hC : gC X Y cc "GuestStaff$Text" nL fr lo) {x : Int32} (hd : decode cc pc = .ok (.putfield 15, 3)) (kk : gWW X Y nL (pc + 3) lv st (gwr M 0 36 1 x)) : gWW X Y nL pc lv (.int x :: .ref (gad Y 0 36) :: st) M := q_put (k := 1) hC (gwr M 0 36 1 x) (gV_t (by decide) (by decide)) rfl rfl in_X9 tyX9_ok nmX9 (by decide) wF_X9_15 rfl (tyX9_ok 1 (by decide)) rfl rfl (Nat.le_of_ble_eq_true rfl) (by show gce Y ((gup M 0 36 _).1 0 36) _ 0 36 = _; rw [gup_at]; rfl) gup_ne hd kk
theorem gf_X9_19 (hC : gC X Y cc "GuestStaff$Text" nL fr lo) (hd : decode cc pc = .ok (.getfield 19, 3)) (kk : gWW X Y nL (pc + 3) lv (.int (M.1 0 36 2) :: st) M) : gWW X Y nL pc lv (.ref (gad Y 0 36) :: st) M := q_get (k := 2) hC (gV_t (by decide) (by decide)) rfl rfl in_X9 (by decide) wF_X9_19 rfl hd kk
theorem pf_X9_19 (hC : gC X Y cc "GuestStaff$Text" nL fr lo) {x : Int32} (hd : decode cc pc = .ok (.putfield 19, 3)) (kk : gWW X Y nL (pc + 3) lv st (gwr M 0 36 2 x)) : gWW X Y nL pc lv (.int x :: .ref (gad Y 0 36) :: st) M := q_put (k := 2) hC (gwr M 0 36 2 x) (gV_t (by decide) (by decide)) rfl rfl in_X9 tyX9_ok nmX9 (by decide) wF_X9_19 rfl (tyX9_ok 2 (by decide)) rfl rfl (Nat.le_of_ble_eq_true rfl) (by show gce Y ((gup M 0 36 _).1 0 36) _ 0 36 = _; rw [gup_at]; rfl) gup_ne hd kk
theorem gf_X9_22 (hC : gC X Y cc "GuestStaff$Text" nL fr lo) (hd : decode cc pc = .ok (.getfield 22, 3)) (kk : gWW X Y nL (pc + 3) lv (.int (M.1 0 36 3) :: st) M) : gWW X Y nL pc lv (.ref (gad Y 0 36) :: st) M := q_get (k := 3) hC (gV_t (by decide) (by decide)) rfl rfl in_X9 (by decide) wF_X9_22 rfl hd kk
theorem pf_X9_22 (hC : gC X Y cc "GuestStaff$Text" nL fr lo) {x : Int32} (hd : decode cc pc = .ok (.putfield 22, 3)) (kk : gWW X Y nL (pc + 3) lv st (gwr M 0 36 3 x)) : gWW X Y nL pc lv (.int x :: .ref (gad Y 0 36) :: st) M := q_put (k := 3) hC (gwr M 0 36 3 x) (gV_t (by decide) (by decide)) rfl rfl in_X9 tyX9_ok nmX9 (by decide) wF_X9_22 rfl (tyX9_ok 3 (by decide)) rfl rfl (Nat.le_of_ble_eq_true rfl) (by show gce Y ((gup M 0 36 _).1 0 36) _ 0 36 = _; rw [gup_at]; rfl) gup_ne hd kk
theorem gf_X9_25 (hC : gC X Y cc "GuestStaff$Text" nL fr lo) (hd : decode cc pc = .ok (.getfield 25, 3)) (kk : gWW X Y nL (pc + 3) lv (.int (M.1 0 36 4) :: st) M) : gWW X Y nL pc lv (.ref (gad Y 0 36) :: st) M := q_get (k := 4) hC (gV_t (by decide) (by decide)) rfl rfl in_X9 (by decide) wF_X9_25 rfl hd kk
theorem pf_X9_25 (hC : gC X Y cc "GuestStaff$Text" nL fr lo) {x : Int32} (hd : decode cc pc = .ok (.putfield 25, 3)) (kk : gWW X Y nL (pc + 3) lv st (gwr M 0 36 4 x)) : gWW X Y nL pc lv (.int x :: .ref (gad Y 0 36) :: st) M := q_put (k := 4) hC (gwr M 0 36 4 x) (gV_t (by decide) (by decide)) rfl rfl in_X9 tyX9_ok nmX9 (by decide) wF_X9_25 rfl (tyX9_ok 4 (by decide)) rfl rfl (Nat.le_of_ble_eq_true rfl) (by show gce Y ((gup M 0 36 _).1 0 36) _ 0 36 = _; rw [gup_at]; rfl) gup_ne hd kk
theorem gf_X9_28 (hC : gC X Y cc "GuestStaff$Text" nL fr lo) (hd : decode cc pc = .ok (.getfield 28, 3)) (kk : gWW X Y nL (pc + 3) lv (.int (M.1 0 36 5) :: st) M) : gWW X Y nL pc lv (.ref (gad Y 0 36) :: st) M := q_get (k := 5) hC (gV_t (by decide) (by decide)) rfl rfl in_X9 (by decide) wF_X9_28 rfl hd kk
theorem pf_X9_28 (hC : gC X Y cc "GuestStaff$Text" nL fr lo) {x : Int32} (hd : decode cc pc = .ok (.putfield 28, 3)) (kk : gWW X Y nL (pc + 3) lv st (gwr M 0 36 5 x)) : gWW X Y nL pc lv (.int x :: .ref (gad Y 0 36) :: st) M := q_put (k := 5) hC (gwr M 0 36 5 x) (gV_t (by decide) (by decide)) rfl rfl in_X9 tyX9_ok nmX9 (by decide) wF_X9_28 rfl (tyX9_ok 5 (by decide)) rfl rfl (Nat.le_of_ble_eq_true rfl) (by show gce Y ((gup M 0 36 _).1 0 36) _ 0 36 = _; rw [gup_at]; rfl) gup_ne hd kk
theorem gf_X9_55 (hC : gC X Y cc "GuestStaff$Text" nL fr lo) {c : Nat} (hc : c < 4) (hd : decode cc pc = .ok (.getfield 55, 3)) (kk : gWW X Y nL (pc + 3) lv (.int (M.1 c 0 13) :: st) M) : gWW X Y nL pc lv (.ref (gad Y c 0) :: st) M := q_getN (k := 13) hC (gV_h hc (by decide)) rfl rfl in_X1 (by decide) wN_X9_55 rfl hd kk
theorem gf_X9_77 (hC : gC X Y cc "GuestStaff$Text" nL fr lo) {c : Nat} (hc : c < 4) (hd : decode cc pc = .ok (.getfield 77, 3)) (kk : gWW X Y nL (pc + 3) lv (.ref (gad Y c 4) :: st) M) : gWW X Y nL pc lv (.ref (gad Y c 0) :: st) M := q_getN (k := 4) hC (gV_h hc (by decide)) rfl rfl in_X1 (by decide) wN_X9_77 rfl hd kk
theorem gf_X11_7 (hC : gC X Y cc "GuestStaffModel" nL fr lo) (hd : decode cc pc = .ok (.getfield 7, 3)) (kk : gWW X Y nL (pc + 3) lv (.ref (gad Y 0 60) :: st) M) : gWW X Y nL pc lv (.ref (gad Y 0 59) :: st) M := q_get (k := 0) hC (gV_t (by decide) (by decide)) rfl rfl in_X11 (by decide) wF_X11_7 rfl hd kk
theorem gf_X11_13 (hC : gC X Y cc "GuestStaffModel" nL fr lo) (hd : decode cc pc = .ok (.getfield 13, 3)) (kk : gWW X Y nL (pc + 3) lv (.long (M.2 59 2) :: st) M) : gWW X Y nL pc lv (.ref (gad Y 0 59) :: st) M := q_get (k := 2) hC (gV_t (by decide) (by decide)) rfl rfl in_X11 (by decide) wF_X11_13 rfl hd kk
theorem pf_X11_13 (hC : gC X Y cc "GuestStaffModel" nL fr lo) {x : Int64} (hd : decode cc pc = .ok (.putfield 13, 3)) (kk : gWW X Y nL (pc + 3) lv st (gwl M 59 2 x)) : gWW X Y nL pc lv (.long x :: .ref (gad Y 0 59) :: st) M := q_put (k := 2) hC (gwl M 59 2 x) (gV_t (by decide) (by decide)) rfl rfl in_X11 tyX11_ok nmX11 (by decide) wF_X11_13 rfl (tyX11_ok 2 (by decide)) rfl rfl (Nat.le_of_ble_eq_true rfl) rfl (gwl_ne (by decide)) hd kk
theorem gf_X11_17 (hC : gC X Y cc "GuestStaffModel" nL fr lo) (hd : decode cc pc = .ok (.getfield 17, 3)) (kk : gWW X Y nL (pc + 3) lv (.ref (gad Y 0 61) :: st) M) : gWW X Y nL pc lv (.ref (gad Y 0 59) :: st) M := q_get (k := 3) hC (gV_t (by decide) (by decide)) rfl rfl in_X11 (by decide) wF_X11_17 rfl hd kk
theorem gf_X11_20 (hC : gC X Y cc "GuestStaffModel" nL fr lo) (hd : decode cc pc = .ok (.getfield 20, 3)) (kk : gWW X Y nL (pc + 3) lv (.ref (gad Y 0 62) :: st) M) : gWW X Y nL pc lv (.ref (gad Y 0 59) :: st) M := q_get (k := 4) hC (gV_t (by decide) (by decide)) rfl rfl in_X11 (by decide) wF_X11_20 rfl hd kk
theorem gf_X11_23 (hC : gC X Y cc "GuestStaffModel" nL fr lo) (hd : decode cc pc = .ok (.getfield 23, 3)) (kk : gWW X Y nL (pc + 3) lv (.ref (gad Y 0 63) :: st) M) : gWW X Y nL pc lv (.ref (gad Y 0 59) :: st) M := q_get (k := 10) hC (gV_t (by decide) (by decide)) rfl rfl in_X11 (by decide) wF_X11_23 rfl hd kk
theorem gf_X11_26 (hC : gC X Y cc "GuestStaffModel" nL fr lo) (hd : decode cc pc = .ok (.getfield 26, 3)) (kk : gWW X Y nL (pc + 3) lv (.ref (gad Y 0 64) :: st) M) : gWW X Y nL pc lv (.ref (gad Y 0 59) :: st) M := q_get (k := 13) hC (gV_t (by decide) (by decide)) rfl rfl in_X11 (by decide) wF_X11_26 rfl hd kk
theorem gf_X11_29 (hC : gC X Y cc "GuestStaffModel" nL fr lo) (hd : decode cc pc = .ok (.getfield 29, 3)) (kk : gWW X Y nL (pc + 3) lv (.ref (gad Y 0 65) :: st) M) : gWW X Y nL pc lv (.ref (gad Y 0 59) :: st) M := q_get (k := 15) hC (gV_t (by decide) (by decide)) rfl rfl in_X11 (by decide) wF_X11_29 rfl hd kk
theorem gf_X11_32 (hC : gC X Y cc "GuestStaffModel" nL fr lo) (hd : decode cc pc = .ok (.getfield 32, 3)) (kk : gWW X Y nL (pc + 3) lv (.ref (gad Y 0 66) :: st) M) : gWW X Y nL pc lv (.ref (gad Y 0 59) :: st) M := q_get (k := 17) hC (gV_t (by decide) (by decide)) rfl rfl in_X11 (by decide) wF_X11_32 rfl hd kk
theorem gf_X11_35 (hC : gC X Y cc "GuestStaffModel" nL fr lo) (hd : decode cc pc = .ok (.getfield 35, 3)) (kk : gWW X Y nL (pc + 3) lv (.ref (gad Y 0 67) :: st) M) : gWW X Y nL pc lv (.ref (gad Y 0 59) :: st) M := q_get (k := 18) hC (gV_t (by decide) (by decide)) rfl rfl in_X11 (by decide) wF_X11_35 rfl hd kk
theorem gf_X11_38 (hC : gC X Y cc "GuestStaffModel" nL fr lo) (hd : decode cc pc = .ok (.getfield 38, 3)) (kk : gWW X Y nL (pc + 3) lv (.ref (gad Y 0 68) :: st) M) : gWW X Y nL pc lv (.ref (gad Y 0 59) :: st) M := q_get (k := 22) hC (gV_t (by decide) (by decide)) rfl rfl in_X11 (by decide) wF_X11_38 rfl hd kk
theorem gf_X11_41 (hC : gC X Y cc "GuestStaffModel" nL fr lo) (hd : decode cc pc = .ok (.getfield 41, 3)) (kk : gWW X Y nL (pc + 3) lv (.ref (gad Y 0 69) :: st) M) : gWW X Y nL pc lv (.ref (gad Y 0 59) :: st) M := q_get (k := 23) hC (gV_t (by decide) (by decide)) rfl rfl in_X11 (by decide) wF_X11_41 rfl hd kk
theorem gf_X11_44 (hC : gC X Y cc "GuestStaffModel" nL fr lo) (hd : decode cc pc = .ok (.getfield 44, 3)) (kk : gWW X Y nL (pc + 3) lv (.ref (gad Y 0 70) :: st) M) : gWW X Y nL pc lv (.ref (gad Y 0 59) :: st) M := q_get (k := 24) hC (gV_t (by decide) (by decide)) rfl rfl in_X11 (by decide) wF_X11_44 rfl hd kk
theorem gf_X11_48 (hC : gC X Y cc "GuestStaffModel" nL fr lo) (hd : decode cc pc = .ok (.getfield 48, 3)) (kk : gWW X Y nL (pc + 3) lv (.ref (gad Y 0 71) :: st) M) : gWW X Y nL pc lv (.ref (gad Y 0 59) :: st) M := q_get (k := 25) hC (gV_t (by decide) (by decide)) rfl rfl in_X11 (by decide) wF_X11_48 rfl hd kk
theorem gf_X11_51 (hC : gC X Y cc "GuestStaffModel" nL fr lo) (hd : decode cc pc = .ok (.getfield 51, 3)) (kk : gWW X Y nL (pc + 3) lv (.ref (gad Y 0 72) :: st) M) : gWW X Y nL pc lv (.ref (gad Y 0 59) :: st) M := q_get (k := 26) hC (gV_t (by decide) (by decide)) rfl rfl in_X11 (by decide) wF_X11_51 rfl hd kk
theorem gf_X11_54 (hC : gC X Y cc "GuestStaffModel" nL fr lo) (hd : decode cc pc = .ok (.getfield 54, 3)) (kk : gWW X Y nL (pc + 3) lv (.ref (gad Y 0 73) :: st) M) : gWW X Y nL pc lv (.ref (gad Y 0 59) :: st) M := q_get (k := 27) hC (gV_t (by decide) (by decide)) rfl rfl in_X11 (by decide) wF_X11_54 rfl hd kk
theorem gf_X11_61 (hC : gC X Y cc "GuestStaffModel" nL fr lo) (hd : decode cc pc = .ok (.getfield 61, 3)) (kk : gWW X Y nL (pc + 3) lv (.int (M.1 0 59 14) :: st) M) : gWW X Y nL pc lv (.ref (gad Y 0 59) :: st) M := q_get (k := 14) hC (gV_t (by decide) (by decide)) rfl rfl in_X11 (by decide) wF_X11_61 rfl hd kk
theorem pf_X11_61 (hC : gC X Y cc "GuestStaffModel" nL fr lo) {x : Int32} (hd : decode cc pc = .ok (.putfield 61, 3)) (kk : gWW X Y nL (pc + 3) lv st (gwr M 0 59 14 x)) : gWW X Y nL pc lv (.int x :: .ref (gad Y 0 59) :: st) M := q_put (k := 14) hC (gwr M 0 59 14 x) (gV_t (by decide) (by decide)) rfl rfl in_X11 tyX11_ok nmX11 (by decide) wF_X11_61 rfl (tyX11_ok 14 (by decide)) rfl rfl (Nat.le_of_ble_eq_true rfl) (by show gce Y ((gup M 0 59 _).1 0 59) _ 0 59 = _; rw [gup_at]; rfl) gup_ne hd kk
theorem gf_X11_97 (hC : gC X Y cc "GuestStaffModel" nL fr lo) (hd : decode cc pc = .ok (.getfield 97, 3)) (kk : gWW X Y nL (pc + 3) lv (.int (M.1 0 59 5) :: st) M) : gWW X Y nL pc lv (.ref (gad Y 0 59) :: st) M := q_get (k := 5) hC (gV_t (by decide) (by decide)) rfl rfl in_X11 (by decide) wF_X11_97 rfl hd kk
theorem pf_X11_97 (hC : gC X Y cc "GuestStaffModel" nL fr lo) {x : Int32} (hd : decode cc pc = .ok (.putfield 97, 3)) (kk : gWW X Y nL (pc + 3) lv st (gwr M 0 59 5 x)) : gWW X Y nL pc lv (.int x :: .ref (gad Y 0 59) :: st) M := q_put (k := 5) hC (gwr M 0 59 5 x) (gV_t (by decide) (by decide)) rfl rfl in_X11 tyX11_ok nmX11 (by decide) wF_X11_97 rfl (tyX11_ok 5 (by decide)) rfl rfl (Nat.le_of_ble_eq_true rfl) (by show gce Y ((gup M 0 59 _).1 0 59) _ 0 59 = _; rw [gup_at]; rfl) gup_ne hd kk
theorem gf_X11_100 (hC : gC X Y cc "GuestStaffModel" nL fr lo) (hd : decode cc pc = .ok (.getfield 100, 3)) (kk : gWW X Y nL (pc + 3) lv (.int (M.1 0 59 6) :: st) M) : gWW X Y nL pc lv (.ref (gad Y 0 59) :: st) M := q_get (k := 6) hC (gV_t (by decide) (by decide)) rfl rfl in_X11 (by decide) wF_X11_100 rfl hd kk
theorem pf_X11_100 (hC : gC X Y cc "GuestStaffModel" nL fr lo) {x : Int32} (hd : decode cc pc = .ok (.putfield 100, 3)) (kk : gWW X Y nL (pc + 3) lv st (gwr M 0 59 6 x)) : gWW X Y nL pc lv (.int x :: .ref (gad Y 0 59) :: st) M := q_put (k := 6) hC (gwr M 0 59 6 x) (gV_t (by decide) (by decide)) rfl rfl in_X11 tyX11_ok nmX11 (by decide) wF_X11_100 rfl (tyX11_ok 6 (by decide)) rfl rfl (Nat.le_of_ble_eq_true rfl) (by show gce Y ((gup M 0 59 _).1 0 59) _ 0 59 = _; rw [gup_at]; rfl) gup_ne hd kk
theorem gf_X11_107 (hC : gC X Y cc "GuestStaffModel" nL fr lo) (hd : decode cc pc = .ok (.getfield 107, 3)) (kk : gWW X Y nL (pc + 3) lv (.int (M.1 0 59 9) :: st) M) : gWW X Y nL pc lv (.ref (gad Y 0 59) :: st) M := q_get (k := 9) hC (gV_t (by decide) (by decide)) rfl rfl in_X11 (by decide) wF_X11_107 rfl hd kk
theorem pf_X11_107 (hC : gC X Y cc "GuestStaffModel" nL fr lo) {x : Int32} (hd : decode cc pc = .ok (.putfield 107, 3)) (kk : gWW X Y nL (pc + 3) lv st (gwr M 0 59 9 x)) : gWW X Y nL pc lv (.int x :: .ref (gad Y 0 59) :: st) M := q_put (k := 9) hC (gwr M 0 59 9 x) (gV_t (by decide) (by decide)) rfl rfl in_X11 tyX11_ok nmX11 (by decide) wF_X11_107 rfl (tyX11_ok 9 (by decide)) rfl rfl (Nat.le_of_ble_eq_true rfl) (by show gce Y ((gup M 0 59 _).1 0 59) _ 0 59 = _; rw [gup_at]; rfl) gup_ne hd kk
theorem gf_X11_110 (hC : gC X Y cc "GuestStaffModel" nL fr lo) (hd : decode cc pc = .ok (.getfield 110, 3)) (kk : gWW X Y nL (pc + 3) lv (.int (M.1 0 59 8) :: st) M) : gWW X Y nL pc lv (.ref (gad Y 0 59) :: st) M := q_get (k := 8) hC (gV_t (by decide) (by decide)) rfl rfl in_X11 (by decide) wF_X11_110 rfl hd kk
theorem pf_X11_110 (hC : gC X Y cc "GuestStaffModel" nL fr lo) {x : Int32} (hd : decode cc pc = .ok (.putfield 110, 3)) (kk : gWW X Y nL (pc + 3) lv st (gwr M 0 59 8 x)) : gWW X Y nL pc lv (.int x :: .ref (gad Y 0 59) :: st) M := q_put (k := 8) hC (gwr M 0 59 8 x) (gV_t (by decide) (by decide)) rfl rfl in_X11 tyX11_ok nmX11 (by decide) wF_X11_110 rfl (tyX11_ok 8 (by decide)) rfl rfl (Nat.le_of_ble_eq_true rfl) (by show gce Y ((gup M 0 59 _).1 0 59) _ 0 59 = _; rw [gup_at]; rfl) gup_ne hd kk
theorem gf_X11_113 (hC : gC X Y cc "GuestStaffModel" nL fr lo) (hd : decode cc pc = .ok (.getfield 113, 3)) (kk : gWW X Y nL (pc + 3) lv (.int (M.1 0 59 7) :: st) M) : gWW X Y nL pc lv (.ref (gad Y 0 59) :: st) M := q_get (k := 7) hC (gV_t (by decide) (by decide)) rfl rfl in_X11 (by decide) wF_X11_113 rfl hd kk
theorem pf_X11_113 (hC : gC X Y cc "GuestStaffModel" nL fr lo) {x : Int32} (hd : decode cc pc = .ok (.putfield 113, 3)) (kk : gWW X Y nL (pc + 3) lv st (gwr M 0 59 7 x)) : gWW X Y nL pc lv (.int x :: .ref (gad Y 0 59) :: st) M := q_put (k := 7) hC (gwr M 0 59 7 x) (gV_t (by decide) (by decide)) rfl rfl in_X11 tyX11_ok nmX11 (by decide) wF_X11_113 rfl (tyX11_ok 7 (by decide)) rfl rfl (Nat.le_of_ble_eq_true rfl) (by show gce Y ((gup M 0 59 _).1 0 59) _ 0 59 = _; rw [gup_at]; rfl) gup_ne hd kk
theorem gf_X11_127 (hC : gC X Y cc "GuestStaffModel" nL fr lo) (hd : decode cc pc = .ok (.getfield 127, 3)) (kk : gWW X Y nL (pc + 3) lv (.int (M.1 0 59 11) :: st) M) : gWW X Y nL pc lv (.ref (gad Y 0 59) :: st) M := q_get (k := 11) hC (gV_t (by decide) (by decide)) rfl rfl in_X11 (by decide) wF_X11_127 rfl hd kk
theorem pf_X11_127 (hC : gC X Y cc "GuestStaffModel" nL fr lo) {x : Int32} (hd : decode cc pc = .ok (.putfield 127, 3)) (kk : gWW X Y nL (pc + 3) lv st (gwr M 0 59 11 x)) : gWW X Y nL pc lv (.int x :: .ref (gad Y 0 59) :: st) M := q_put (k := 11) hC (gwr M 0 59 11 x) (gV_t (by decide) (by decide)) rfl rfl in_X11 tyX11_ok nmX11 (by decide) wF_X11_127 rfl (tyX11_ok 11 (by decide)) rfl rfl (Nat.le_of_ble_eq_true rfl) (by show gce Y ((gup M 0 59 _).1 0 59) _ 0 59 = _; rw [gup_at]; rfl) gup_ne hd kk
theorem gf_X11_134 (hC : gC X Y cc "GuestStaffModel" nL fr lo) (hd : decode cc pc = .ok (.getfield 134, 3)) (kk : gWW X Y nL (pc + 3) lv (.int (M.1 0 59 12) :: st) M) : gWW X Y nL pc lv (.ref (gad Y 0 59) :: st) M := q_get (k := 12) hC (gV_t (by decide) (by decide)) rfl rfl in_X11 (by decide) wF_X11_134 rfl hd kk
theorem pf_X11_134 (hC : gC X Y cc "GuestStaffModel" nL fr lo) {x : Int32} (hd : decode cc pc = .ok (.putfield 134, 3)) (kk : gWW X Y nL (pc + 3) lv st (gwr M 0 59 12 x)) : gWW X Y nL pc lv (.int x :: .ref (gad Y 0 59) :: st) M := q_put (k := 12) hC (gwr M 0 59 12 x) (gV_t (by decide) (by decide)) rfl rfl in_X11 tyX11_ok nmX11 (by decide) wF_X11_134 rfl (tyX11_ok 12 (by decide)) rfl rfl (Nat.le_of_ble_eq_true rfl) (by show gce Y ((gup M 0 59 _).1 0 59) _ 0 59 = _; rw [gup_at]; rfl) gup_ne hd kk
theorem gf_X11_183 (hC : gC X Y cc "GuestStaffModel" nL fr lo) (hd : decode cc pc = .ok (.getfield 183, 3)) (kk : gWW X Y nL (pc + 3) lv (.int (M.1 0 59 16) :: st) M) : gWW X Y nL pc lv (.ref (gad Y 0 59) :: st) M := q_get (k := 16) hC (gV_t (by decide) (by decide)) rfl rfl in_X11 (by decide) wF_X11_183 rfl hd kk
theorem pf_X11_183 (hC : gC X Y cc "GuestStaffModel" nL fr lo) {x : Int32} (hd : decode cc pc = .ok (.putfield 183, 3)) (kk : gWW X Y nL (pc + 3) lv st (gwr M 0 59 16 x)) : gWW X Y nL pc lv (.int x :: .ref (gad Y 0 59) :: st) M := q_put (k := 16) hC (gwr M 0 59 16 x) (gV_t (by decide) (by decide)) rfl rfl in_X11 tyX11_ok nmX11 (by decide) wF_X11_183 rfl (tyX11_ok 16 (by decide)) rfl rfl (Nat.le_of_ble_eq_true rfl) (by show gce Y ((gup M 0 59 _).1 0 59) _ 0 59 = _; rw [gup_at]; rfl) gup_ne hd kk
theorem gf_X11_196 (hC : gC X Y cc "GuestStaffModel" nL fr lo) (hd : decode cc pc = .ok (.getfield 196, 3)) (kk : gWW X Y nL (pc + 3) lv (.int (M.1 0 59 19) :: st) M) : gWW X Y nL pc lv (.ref (gad Y 0 59) :: st) M := q_get (k := 19) hC (gV_t (by decide) (by decide)) rfl rfl in_X11 (by decide) wF_X11_196 rfl hd kk
theorem pf_X11_196 (hC : gC X Y cc "GuestStaffModel" nL fr lo) {x : Int32} (hd : decode cc pc = .ok (.putfield 196, 3)) (kk : gWW X Y nL (pc + 3) lv st (gwr M 0 59 19 x)) : gWW X Y nL pc lv (.int x :: .ref (gad Y 0 59) :: st) M := q_put (k := 19) hC (gwr M 0 59 19 x) (gV_t (by decide) (by decide)) rfl rfl in_X11 tyX11_ok nmX11 (by decide) wF_X11_196 rfl (tyX11_ok 19 (by decide)) rfl rfl (Nat.le_of_ble_eq_true rfl) (by show gce Y ((gup M 0 59 _).1 0 59) _ 0 59 = _; rw [gup_at]; rfl) gup_ne hd kk
theorem gf_X11_199 (hC : gC X Y cc "GuestStaffModel" nL fr lo) (hd : decode cc pc = .ok (.getfield 199, 3)) (kk : gWW X Y nL (pc + 3) lv (.int (M.1 0 59 20) :: st) M) : gWW X Y nL pc lv (.ref (gad Y 0 59) :: st) M := q_get (k := 20) hC (gV_t (by decide) (by decide)) rfl rfl in_X11 (by decide) wF_X11_199 rfl hd kk
theorem pf_X11_199 (hC : gC X Y cc "GuestStaffModel" nL fr lo) {x : Int32} (hd : decode cc pc = .ok (.putfield 199, 3)) (kk : gWW X Y nL (pc + 3) lv st (gwr M 0 59 20 x)) : gWW X Y nL pc lv (.int x :: .ref (gad Y 0 59) :: st) M := q_put (k := 20) hC (gwr M 0 59 20 x) (gV_t (by decide) (by decide)) rfl rfl in_X11 tyX11_ok nmX11 (by decide) wF_X11_199 rfl (tyX11_ok 20 (by decide)) rfl rfl (Nat.le_of_ble_eq_true rfl) (by show gce Y ((gup M 0 59 _).1 0 59) _ 0 59 = _; rw [gup_at]; rfl) gup_ne hd kk
theorem gf_X11_202 (hC : gC X Y cc "GuestStaffModel" nL fr lo) (hd : decode cc pc = .ok (.getfield 202, 3)) (kk : gWW X Y nL (pc + 3) lv (.int (M.1 0 59 21) :: st) M) : gWW X Y nL pc lv (.ref (gad Y 0 59) :: st) M := q_get (k := 21) hC (gV_t (by decide) (by decide)) rfl rfl in_X11 (by decide) wF_X11_202 rfl hd kk
theorem pf_X11_202 (hC : gC X Y cc "GuestStaffModel" nL fr lo) {x : Int32} (hd : decode cc pc = .ok (.putfield 202, 3)) (kk : gWW X Y nL (pc + 3) lv st (gwr M 0 59 21 x)) : gWW X Y nL pc lv (.int x :: .ref (gad Y 0 59) :: st) M := q_put (k := 21) hC (gwr M 0 59 21 x) (gV_t (by decide) (by decide)) rfl rfl in_X11 tyX11_ok nmX11 (by decide) wF_X11_202 rfl (tyX11_ok 21 (by decide)) rfl rfl (Nat.le_of_ble_eq_true rfl) (by show gce Y ((gup M 0 59 _).1 0 59) _ 0 59 = _; rw [gup_at]; rfl) gup_ne hd kk
theorem gf_X11_250 (hC : gC X Y cc "GuestStaffModel" nL fr lo) (hd : decode cc pc = .ok (.getfield 250, 3)) (kk : gWW X Y nL (pc + 3) lv (.long (M.2 59 1) :: st) M) : gWW X Y nL pc lv (.ref (gad Y 0 59) :: st) M := q_get (k := 1) hC (gV_t (by decide) (by decide)) rfl rfl in_X11 (by decide) wF_X11_250 rfl hd kk
theorem pf_X11_250 (hC : gC X Y cc "GuestStaffModel" nL fr lo) {x : Int64} (hd : decode cc pc = .ok (.putfield 250, 3)) (kk : gWW X Y nL (pc + 3) lv st (gwl M 59 1 x)) : gWW X Y nL pc lv (.long x :: .ref (gad Y 0 59) :: st) M := q_put (k := 1) hC (gwl M 59 1 x) (gV_t (by decide) (by decide)) rfl rfl in_X11 tyX11_ok nmX11 (by decide) wF_X11_250 rfl (tyX11_ok 1 (by decide)) rfl rfl (Nat.le_of_ble_eq_true rfl) rfl (gwl_ne (by decide)) hd kk
end GFL
abbrev gin (i : Int32) (n : Nat) : Prop := ¬ (i < 0 ∨ n ≤ i.toNatClampNeg)
theorem gin_lt {i : Int32} {n : Nat} (h : gin i n) : i.toNatClampNeg < n := Nat.not_le.mp fun q => h (Or.inr q)
theorem gl_of {b n m : Nat} {i : Int32} (hall : ∀ j, j < n → glen (b + j) = m) (h : gin i n) : glen (b + i.toNatClampNeg) = m := hall _ (gin_lt h)
theorem gV_hr {c b : Nat} {i : Int32} (n : Nat) (hc : c < 4) (h : gin i n) (hb : b + n ≤ 34) : gV c (b + i.toNatClampNeg) := gV_h hc (by have := gin_lt h; omega)
theorem gV_tr {b : Nat} {i : Int32} (n : Nat) (h : gin i n) (h1 : 34 ≤ b) (hb : b + n ≤ 74) : gV 0 (b + i.toNatClampNeg) := gV_t (by omega) (by have := gin_lt h; omega)
theorem gc_img {i : Int32} (h : gin i 2) : 2 + i.toNatClampNeg < 4 := by have := gin_lt h; omega
theorem grow_i {Y : gY} {c b n : Nat} {i : Int32} (h : gin i n) : grow Y c b n i.toNatClampNeg = some (gad Y c (b + i.toNatClampNeg)) := if_pos (gin_lt h)
theorem gimg_i {Y : gY} {i : Int32} (h : gin i 2) : gimg Y i.toNatClampNeg = some (gad Y (2 + i.toNatClampNeg) 0) := if_pos (gin_lt h)
section GSW
variable {X : gX} {Y : gY} {cc : ByteArray} {own : String} {nL fr lo pc : Nat} {lv : List (Nat × Value)} {st : List Value} {M : gMem}
theorem q_tin (hC : gC X Y cc own nL fr lo) {dflt a b : Int} {offs : Array Int} {len : Nat} {x : Int32} (k : Int32) {off : Int} (tgt : Nat) (hx : x = k) (hd : decode cc pc = .ok (.tableswitch dflt a b offs, len)) (h1 : ¬ k.toInt < a) (h2 : ¬ b < k.toInt) (ho : offs[(k.toInt - a).toNat]? = some off) (ht : (pc : Int) + off = (tgt : Int)) (kk : gWW X Y nL tgt lv st M) : gWW X Y nL pc lv (.int x :: st) M := by
  subst hx
  exact fun H locs ls hS h => lv_tableIn hC.1 hC.2.1 hd h1 h2 ho ht (kk H locs ls hS h)
theorem q_tout (hC : gC X Y cc own nL fr lo) {dflt a b : Int} {offs : Array Int} {len : Nat} {x : Int32} (tgt : Nat) (hx : x.toInt < a ∨ b < x.toInt) (hd : decode cc pc = .ok (.tableswitch dflt a b offs, len)) (ht : (pc : Int) + dflt = (tgt : Int)) (kk : gWW X Y nL tgt lv st M) : gWW X Y nL pc lv (.int x :: st) M :=
  fun H locs ls hS h => lv_tableOut hC.1 hC.2.1 hd hx ht (kk H locs ls hS h)
theorem q_lsw (hC : gC X Y cc own nL fr lo) {dflt : Int} {ps : Array (Int × Int)} {len : Nat} {x : Int32} {off : Int} (tgt : Nat) (hd : decode cc pc = .ok (.lookupswitch dflt ps, len)) (hp : (ps.toList.zip (ps.toList.drop 1)).all (fun (a, next) => a.1 < next.1) = true) (ho : Op.lookupswitch.offset ps.toList dflt x.toInt = off) (ht : (pc : Int) + off = (tgt : Int)) (kk : gWW X Y nL tgt lv st M) : gWW X Y nL pc lv (.int x :: st) M :=
  fun H locs ls hS h => lv_lookup hC.1 hC.2.1 hd hp ho ht (kk H locs ls hS h)
theorem q_max (hC : gC X Y cc own nL fr lo) {idx : Nat} {x y : Int32} (hl : Cond.methodLink own idx Lib.Math.max.name ∈ gTs) (hfr : 1 ≤ fr) (hlo : (st.map fun v => v.category).sum + 13 ≤ lo) (hd : decode cc pc = .ok (.invokestatic idx, 3)) (kk : gWW X Y nL (pc + 3) lv (.int (if x < y then y else x) :: st) M) : gWW X Y nL pc lv (.int y :: .int x :: st) M := by
  intro H locs ls hS h
  have hts := hC.2.2.2.2.1
  have hR := hC.2.2.2.2.2.2.2.2
  exact va_mmax hC.1 hC.2.1 (hC.2.2.1.trans h.1.symm) hC.2.2.2.1 (hts _ hl) (hts _ mm_J9_max_7cf53.2) (hts _ wI_J9) (hts _ mm_J9_max_7cf53.1.1) (by rw [hR.1]; exact hfr) (by rw [hR.2.1]; exact hlo) hC.2.2.2.2.2.2.2.2.2.2.2.1 hC.2.2.2.2.2.2.2.2.2.2.2.2 hd (kk H locs ls hS h)
theorem q_min (hC : gC X Y cc own nL fr lo) {idx : Nat} {x y : Int32} (hl : Cond.methodLink own idx Lib.Math.min.name ∈ gTs) (hfr : 1 ≤ fr) (hlo : (st.map fun v => v.category).sum + 13 ≤ lo) (hd : decode cc pc = .ok (.invokestatic idx, 3)) (kk : gWW X Y nL (pc + 3) lv (.int (if y < x then y else x) :: st) M) : gWW X Y nL pc lv (.int y :: .int x :: st) M := by
  intro H locs ls hS h
  have hts := hC.2.2.2.2.1
  have hR := hC.2.2.2.2.2.2.2.2
  exact va_mmin hC.1 hC.2.1 (hC.2.2.1.trans h.1.symm) hC.2.2.2.1 (hts _ hl) (hts _ mm_J9_min_7cf53.2) (hts _ wI_J9) (hts _ mm_J9_min_7cf53.1.1) (by rw [hR.1]; exact hfr) (by rw [hR.2.1]; exact hlo) hC.2.2.2.2.2.2.2.2.2.2.2.1 hC.2.2.2.2.2.2.2.2.2.2.2.2 hd (kk H locs ls hS h)
end GSW
end
section
section GK2
variable {X : gX} {Y : gY} {cc : ByteArray} {own : String} {nL fr lo pc : Nat} {lv : List (Nat × Value)} {st : List Value} {M : gMem}
theorem q_kip {rest : List Value} {v : Int32} {M' : gMem} {a : Array Value} (hr : gRun X Y nL pc lv st rest M (gQi Y (v, M') a)) (kk : gWW X Y nL (pc + 3) lv (.int v :: rest) M') : gWW X Y nL pc lv st M := q_ki hr kk
theorem q_kzp {rest : List Value} {v : Int32} {M' : gMem} {a : Array Value} (hr : gRun X Y nL pc lv st rest M (gQz Y (v, M') a)) (kk : (v = 0 ∨ v = 1) → gWW X Y nL (pc + 3) lv (.int v :: rest) M') : gWW X Y nL pc lv st M := q_kz hr kk
theorem q_klp {rest : List Value} {v : Int64} {M' : gMem} {a : Array Value} (hr : gRun X Y nL pc lv st rest M (gQl Y (v, M') a)) (kk : gWW X Y nL (pc + 3) lv (.long v :: rest) M') : gWW X Y nL pc lv st M := q_kl hr kk
theorem q_ialdk (hC : gC X Y cc own nL fr lo) {c o : Nat} {i : Int32} (j n : Nat) (hV : gV c o) (hn : glen o = n + 1) (hi : gin i (n + 1)) (hj : i.toNatClampNeg = j) (hd : decode cc pc = .ok (.iaload, 1)) (kk : gWW X Y nL (pc + 1) lv (.int (M.1 c o j) :: st) M) : gWW X Y nL pc lv (.int i :: .ref (gad Y c o) :: st) M := by
  subst hj
  exact q_iald hC n hV hn hi hd kk
theorem q_iastk (hC : gC X Y cc own nL fr lo) {c o : Nat} {i x : Int32} (j n : Nat) (hV : gV c o) (hn : glen o = n + 1) (hi : gin i (n + 1)) (hj : i.toNatClampNeg = j) (hd : decode cc pc = .ok (.iastore, 1)) (kk : gWW X Y nL (pc + 1) lv st (gwr M c o j x)) : gWW X Y nL pc lv (.int x :: .int i :: .ref (gad Y c o) :: st) M := by
  subst hj
  exact q_iast hC n hV hn hi hd kk
end GK2
theorem gkind (Y : gY) (M : gMem) {kd : Nat} (h : kd < 6) : ∃ (ci : Nat) (C : String) (T : u_T) (N : Nat), gcel Y M 0 (52 + kd) = .inr (ci, []) ∧ vwCl[ci]? = some (C, T, N) := by
  match kd, h with
  | 0, _ => exact ⟨4, _, _, _, rfl, rfl⟩
  | 1, _ => exact ⟨6, _, _, _, rfl, rfl⟩
  | 2, _ => exact ⟨0, _, _, _, rfl, rfl⟩
  | 3, _ => exact ⟨8, _, _, _, rfl, rfl⟩
  | 4, _ => exact ⟨2, _, _, _, rfl, rfl⟩
  | 5, _ => exact ⟨5, _, _, _, rfl, rfl⟩
end
section
/-! the constructors' world: cells ws0 ++ l, with ws0 any; all lie from z on -/
def gAz (z : Nat) : Nat → Prop := fun q => z ≤ q
def gAOA (U : State) : Prop := (Cond.arrayOver (.array .int)).before #[] U = true
theorem gAOA.moved {u U : State} (hvm : u.vm.Alike U.vm) (h : gAOA u) : gAOA U := by
  obtain ⟨comp, c, k, h1, h2, h3, h4, h5⟩ := arrayOverA_spec h
  obtain ⟨k', hk', he⟩ := hvm.2.2 _ _ h3
  have hi : (U.vm.classes.findIdx? fun (x : Class) => match x.kind with | .array component _ => component == comp | _ => false) = some c := by
    rw [hvm.findIdx?_eq _ (fun _ => rfl)]
    exact h2
  have hkind : k'.kind = .array comp (.array .int) := by rw [he]; exact h4
  have f1 : U.vm.findClass (FieldType.array .int).toString = some comp := by rw [hvm.findClass]; exact h1
  have f2 : U.vm.findClass ("[" ++ (FieldType.array .int).toString) = some c := by rw [hvm.findClass]; exact h5
  unfold gAOA Cond.before Cond.holds
  simp only [Cond.value]
  rw [f1, Option.bind_some]
  refine (congrArg (fun o : Option Nat => (o.bind (fun c => (U.vm.classes[c]?).map fun (k : Class) => match k.kind with | .array _ ty => decide (ty = FieldType.array .int) && decide (U.vm.findClass ("[" ++ (FieldType.array .int).toString) = some c) | _ => false) == some true)) hi).trans ?_
  simp [hk', hkind, f2]
def gCas : List String := ["GuestStaff$Quiet", "GuestStaff$Banker", "GuestStaff$Shouter", "GuestStaff$Late", "GuestStaff$Polisher"]
def gZ (Y : gY) (U : State) : Prop := va_K Y.1 vwCl (gTys Y) U ∧ (∀ w ∈ gNW, va_Nw w U) ∧ va_AO "GuestStaff$Plain" U ∧ va_AO "GuestStaff$House" U ∧ gAOA U ∧ (∀ C ∈ gCas, va_Nw (.castable C "GuestStaff$Plain") U)
theorem gZ.warm {Y : gY} {s U : State} (h : gZ Y s) (hW : s.WarmedH U.vm) : gZ Y U := ⟨va_K.moved hW.alike h.1, gNW.kept h.2.1 hW, va_AO.moved hW.alike h.2.2.1, va_AO.moved hW.alike h.2.2.2.1, gAOA.moved hW.alike h.2.2.2.2.1, fun C hC => (h.2.2.2.2.2 C hC).warmC hW⟩
theorem gZ.same {Y : gY} {s U : State} (h : gZ Y s) (hv : s.vm = U.vm) : gZ Y U := by
  have ha : s.vm.Alike U.vm := hv ▸ Vm.Alike.refl s.vm
  refine ⟨va_K.moved ha h.1, fun w hw => va_Nw.same (u := s) (by
    have h2 := (List.mem_filter.mp hw).2
    cases w <;> first | (cases h2; done) | rfl) hv (h.2.1 w hw), va_AO.moved ha h.2.2.1, va_AO.moved ha h.2.2.2.1, gAOA.moved ha h.2.2.2.2.1, fun C hC => va_Nw.same (u := s) rfl hv (h.2.2.2.2.2 C hC)⟩
/-- a constructor's start -/
def gPn (Y : gY) (z : Nat) (ws : va_W) (U : State) : Prop := z ≤ U.heap.size ∧ va_P Y.1 vwCl ws U.heap ∧ va_D (gAz z) ws ∧ gZ Y U
theorem gPn.blind {Y : gY} {z : Nat} {ws : va_W} (av : List Value) : FrameBlind (va_Pc av (gPn Y z ws)) := by
  intro a U g mk q
  obtain ⟨q0, q1, q2, q3, q4⟩ := q
  exact ⟨q0, q1, q2, q3, q4.same rfl⟩
def gQn {S : Type} (Y : gY) (z : Nat) (fin : S → va_W) : Array Value → State → Outcome → State → Prop := va_Qv (fun (_ : S) => True) (fun u t => va_P Y.1 vwCl (fin u) t.heap ∧ va_D (gAz z) (fin u)) (gAz z)
def gCW (X : gX) (Y : gY) (z nL pc : Nat) (lv : List (Nat × Value)) (st : List Value) (ws : va_W) (k n : Nat) : Prop :=
  ∀ (H : Heap) (locs : List Loc) (ls : Array Slot), va_P Y.1 vwCl ws H → va_D (gAz z) ws → va_S (gAz z) (gxs X).heap H locs → lv_has ls nL lv → W X.1 X.2.1 X.2.2.1 (gxR X) (gxs X) (gxm X) (gxa X) (gxb X) (gxM X) (gxc X) H locs k n (gxQ X) (F0 (gxm X) pc ls st)
def gD (X : gX) (Y : gY) (cc : ByteArray) (own : String) (z nL fr lo K N : Nat) : Prop :=
  X.1.tables.exec = Jvm.exec ∧ (gxc X).code = cc ∧ (gxc X).maxLocals = nL ∧ (gxs X).vm.findClass own = some (gxm X).cls ∧ (∀ w ∈ gTs, w.before (gxa X) (gxs X) = true) ∧ gZ Y (gxs X) ∧ z ≤ (gxs X).heap.size ∧ (gxR X).frames = fr ∧ (gxR X).locals = lo ∧ (gxR X).cells = K ∧ (gxR X).slots = N ∧ (gxM X).locks = false
theorem ga_at {α : Type} {a l : List α} {k : Nat} : (a ++ l)[a.length + k]? = l[k]? := by
  rw [List.getElem?_append_right (Nat.le_add_right _ _), Nat.add_sub_cancel_left]
theorem ga_set {α : Type} {a l : List α} {k : Nat} {x : α} : (a ++ l).set (a.length + k) x = a ++ l.set k x := by
  rw [List.set_append_right _ _ (Nat.le_add_right _ _), Nat.add_sub_cancel_left]
section GN
variable {X : gX} {Y : gY} {cc : ByteArray} {own : String} {z nL fr lo K N pc k n : Nat} {lv : List (Nat × Value)} {st : List Value} {ws0 l : va_W}
theorem n_iconst (hC : gD X Y cc own z nL fr lo K N) {i : Int} (v : Int32) (hd : decode cc pc = .ok (.iconst i, 1)) (hv : Int32.ofInt i = v) (kk : gCW X Y z nL (pc + 1) lv (.int v :: st) l k n) : gCW X Y z nL pc lv st l k n := fun H locs ls h1 h2 h3 h => lv_iconst hC.1 hC.2.1 hd hv (kk H locs ls h1 h2 h3 h)
theorem n_bipush (hC : gD X Y cc own z nL fr lo K N) {i : Int} (v : Int32) (hd : decode cc pc = .ok (.bipush i, 2)) (hv : (Int8.ofInt i).toInt32 = v) (kk : gCW X Y z nL (pc + 2) lv (.int v :: st) l k n) : gCW X Y z nL pc lv st l k n := fun H locs ls h1 h2 h3 h => lv_bipush hC.1 hC.2.1 hd hv (kk H locs ls h1 h2 h3 h)
theorem n_sipush (hC : gD X Y cc own z nL fr lo K N) {i : Int} (v : Int32) (hd : decode cc pc = .ok (.sipush i, 3)) (hv : (Int16.ofInt i).toInt32 = v) (kk : gCW X Y z nL (pc + 3) lv (.int v :: st) l k n) : gCW X Y z nL pc lv st l k n := fun H locs ls h1 h2 h3 h => lv_sipush hC.1 hC.2.1 hd hv (kk H locs ls h1 h2 h3 h)
theorem n_lconst (hC : gD X Y cc own z nL fr lo K N) {i : Fin 2} (v : Int64) (hd : decode cc pc = .ok (.lconst i, 1)) (hv : Int64.ofNat (i : Nat) = v) (kk : gCW X Y z nL (pc + 1) lv (.long v :: st) l k n) : gCW X Y z nL pc lv st l k n := fun H locs ls h1 h2 h3 h => lv_lconst hC.1 hC.2.1 hd hv (kk H locs ls h1 h2 h3 h)
theorem n_aload_n (hC : gD X Y cc own z nL fr lo K N) {j : Fin 4} {i : Nat} (q : Nat) {x : Nat} (hd : decode cc pc = .ok (.aload_n j, 1)) (hi : (j : Nat) = i) (hq : lv[q]? = some (i, .ref x)) (kk : gCW X Y z nL (pc + 1) lv (.ref x :: st) l k n) : gCW X Y z nL pc lv st l k n := fun H locs ls h1 h2 h3 h => lv_aload_n hC.1 hC.2.1 hd hi (lv_at h q hq) (kk H locs ls h1 h2 h3 h)
theorem n_astore_n (hC : gD X Y cc own z nL fr lo K N) {j : Fin 4} {i : Nat} {x : Nat} (lv' : List (Nat × Value)) (hd : decode cc pc = .ok (.astore_n j, 1)) (hi : (j : Nat) = i) (hn : i < nL) (hl : (i, Value.ref x) :: lv.filter (fun q => !(q.1 == i) && !(q.1 + 1 == i && q.2.category == 2)) = lv') (kk : gCW X Y z nL (pc + 1) lv' st l k n) : gCW X Y z nL pc lv (.ref x :: st) l k n := fun H locs ls h1 h2 h3 h => lv_astore_n hC.1 hC.2.1 hd hi h hn hl (fun ls h => kk H locs ls h1 h2 h3 h)
theorem n_dup (hC : gD X Y cc own z nL fr lo K N) {v : Value} (hd : decode cc pc = .ok (.dup, 1)) (hv : v.category = 1) (kk : gCW X Y z nL (pc + 1) lv (v :: v :: st) l k n) : gCW X Y z nL pc lv (v :: st) l k n := fun H locs ls h1 h2 h3 h => lv_dup hC.1 hC.2.1 hd hv (kk H locs ls h1 h2 h3 h)
theorem n_wid (k' n' : Nat) (h1 : k ≤ k') (h2 : n ≤ n') (kk : gCW X Y z nL pc lv st l k' n') : gCW X Y z nL pc lv st l k n := fun H locs ls a1 a2 a3 h => W.widen h1 h2 (kk H locs ls a1 a2 a3 h)
theorem n_obj (hC : gD X Y cc own z nL fr lo K N) {idx x : Nat} (hl : Cond.methodLink own idx objectInit ∈ gTs) (ho : Cond.instanceMethod objectInit ∈ gTs ∧ Cond.code objectInit ⟨#[0xb1]⟩ 1 none ∈ gTs) (hd : decode cc pc = .ok (.invokespecial idx, 3)) (hfr : 1 ≤ fr) (hlo : (st.map fun v => v.category).sum + 12 ≤ lo) (kk : gCW X Y z nL (pc + 3) lv st l k n) : gCW X Y z nL pc lv (.ref x :: st) l k n := by
  intro H locs ls h1 h2 h3 h
  have hts := hC.2.2.2.2.1
  have hR := hC.2.2.2.2.2.2.2
  exact W.objInit hC.1 hC.2.1 hC.2.2.2.1 (hts _ hl) (hts _ ho.1) (hts _ ho.2) rfl (by rw [hC.2.2.1]; exact h.1) rfl hd (by rw [hR.1]; exact hfr) (by rw [hR.2.1]; show 2 * 0 + _ + 12 ≤ _; omega) (kk H locs ls h1 h2 h3 h)
theorem n_newa (hC : gD X Y cc own z nL fr lo K N) {at_ : ArrayType} {ty : FieldType} {i : Int32} {t0 : Nat} {cA : ClassId} (m : Nat) (hty : newarray.typeOf at_ = ty) (hw : Cond.arrayClass ty ∈ gTs) (ht : (gTys Y)[t0]? = some (cA, ty)) (hRA : ∀ (U : State) (c : ClassId), va_RA U c ty → U.vm.findClass ("[" ++ ty.toString) = some c) (hdv : defaultValue ty = .int 0) (hi : ¬ i < 0) (hm : i.toNatClampNeg = m) (hb : m * componentBytes ty ≤ 536870912) (hk : k + 1 ≤ K) (hn : n + m ≤ N) (hd : decode cc pc = .ok (.newarray at_, 2))
    (kk : ∀ q : Nat, gCW X Y z nL (pc + 2) lv (.ref q :: st) (ws0 ++ (l ++ [(q, .inl (cA, m, .inl (fun _ => 0)))])) (k + 1) (n + m)) : gCW X Y z nL pc lv (.int i :: st) (ws0 ++ l) k n := by
  intro H locs ls h1 h2 h3 h
  have hts := hC.2.2.2.2.1
  have hR := hC.2.2.2.2.2.2.2
  subst hty
  refine va_newa (D := Y.1) (a0 := (m, .inl (fun _ => 0))) hC.1 hC.2.1 (hts _ hw) rfl hC.2.2.2.2.2.1.1 h1 h2 h3 (fun q hq => Nat.le_trans hC.2.2.2.2.2.2.1 hq) (fun c => by rw [vp_cell_i, hdv]) hi hm hb (by rw [hR.2.2.1]; exact hk) (by rw [hR.2.2.2.1]; exact hn) hd (fun q cA' H1 g1 g2 g3 g4 => ?_)
  have e : cA' = cA := by
    have a1 := hRA _ _ (hC.2.2.2.2.2.1.1.2 t0 _ ht).2
    have a2 := hRA _ _ (g1.2 (gTys Y).length (cA', newarray.typeOf at_) (by rw [List.getElem?_append_right (Nat.le_refl _), Nat.sub_self]; rfl)).2
    exact Option.some.inj (a2.symm.trans a1)
  subst e
  rw [List.append_assoc] at g2 g3
  exact kk q H1 locs ls g2 g3 g4 h
theorem n_new (hC : gD X Y cc own z nL fr lo K N) {C : String} {T : u_T} {M ci idx : Nat} {ty : Nat → FieldType} (fs : List Value) (hc : vwCl[ci]? = some (C, T, M)) (hin : ∀ w ∈ u_ws C T M, w ∈ gTs) (hty : ∀ k, k < M → parseFieldDescriptor (T k).2.2.1 = some (ty k)) (hcl : Cond.classLink own idx C ∈ gTs) (hinst : Cond.instantiable C M ∈ gTs) (hini : Cond.initialized C ∈ gTs) (hfs : ∀ j, j < M → defaultValue (ty j) = vp_V fs j) (hk : k + 1 ≤ K) (hn : n + M ≤ N) (hd : decode cc pc = .ok (.new idx, 3))
    (kk : ∀ q : Nat, gCW X Y z nL (pc + 3) lv (.ref q :: st) (ws0 ++ (l ++ [(q, .inr (ci, fs))])) (k + 1) (n + M)) : gCW X Y z nL pc lv st (ws0 ++ l) k n := by
  intro H locs ls h1 h2 h3 h
  have hts := hC.2.2.2.2.1
  have hR := hC.2.2.2.2.2.2.2
  refine va_new (D := Y.1) hC.1 hC.2.1 hts hin ty hty hC.2.2.2.1 (hts _ hcl) (hts _ hinst) (hts _ hini) hC.2.2.2.2.2.1.1 h1 h2 h3 (fun q hq => Nat.le_trans hC.2.2.2.2.2.2.1 hq) hc hfs (by rw [hR.2.2.1]; exact hk) (by rw [hR.2.2.2.1]; exact hn) hd (fun q H1 g2 g3 g4 => ?_)
  rw [List.append_assoc] at g2 g3
  exact kk q H1 locs ls g2 g3 g4 h
theorem n_anew (hC : gD X Y cc own z nL fr lo K N) {C : String} {idx t0 : Nat} {i : Int32} {cA : ClassId} (m : Nat) (hcl : Cond.classLink own idx C ∈ gTs) (hao : va_AO C (gxs X)) (ht : (gTys Y)[t0]? = some (cA, .object C)) (hi : ¬ i < 0) (hm : i.toNatClampNeg = m) (hb : m * 4 ≤ 536870912) (hk : k + 1 ≤ K) (hn : n + m ≤ N) (hd : decode cc pc = .ok (.anewarray idx, 3))
    (kk : ∀ q : Nat, gCW X Y z nL (pc + 3) lv (.ref q :: st) (ws0 ++ (l ++ [(q, .inl (cA, m, .inr (.inr (.inr (.inr (fun _ => none))))))])) (k + 1) (n + m)) : gCW X Y z nL pc lv (.int i :: st) (ws0 ++ l) k n := by
  intro H locs ls h1 h2 h3 h
  have hts := hC.2.2.2.2.1
  have hR := hC.2.2.2.2.2.2.2
  refine va_newq (D := Y.1) hC.1 hC.2.1 hC.2.2.2.1 (hts _ hcl) hao hC.2.2.2.2.2.1.1 h1 h2 h3 (fun q hq => Nat.le_trans hC.2.2.2.2.2.2.1 hq) hi hm hb (by rw [hR.2.2.1]; exact hk) (by rw [hR.2.2.2.1]; exact hn) hd (fun q cA' H1 g1 g2 g3 g4 => ?_)
  have e : cA' = cA := by
    obtain ⟨-, -, -, -, -, a1⟩ := (hC.2.2.2.2.2.1.1.2 t0 _ ht).2
    obtain ⟨-, -, -, -, -, a2⟩ := (g1.2 (gTys Y).length (cA', .object C) (by rw [List.getElem?_append_right (Nat.le_refl _), Nat.sub_self]; rfl)).2
    exact Option.some.inj (a2.symm.trans a1)
  subst e
  rw [List.append_assoc] at g2 g3
  exact kk q H1 locs ls g2 g3 g4 h
theorem n_put (hC : gD X Y cc own z nL fr lo K N) {a j p idx ci M : Nat} {C : String} {T : u_T} {fs : List Value} {v : Value} {ty : FieldType} {ty0 : Nat → FieldType} (l' : va_W) (he : l[p]? = some (a, .inr (ci, fs))) (hc : vwCl[ci]? = some (C, T, M)) (hin : ∀ w ∈ u_ws C T M, w ∈ gTs) (hty : ∀ k, k < M → parseFieldDescriptor (T k).2.2.1 = some (ty0 k)) (hnm : ∀ a, a < M → ∀ b, b < M → a ≠ b → (T a).2.1 ≠ (T b).2.1) (hj : j < M) (hl : Cond.fieldLink own idx (T j).1 (T j).2.1 (T j).2.2.1 ∈ gTs) (hfin : (T j).2.2.2 = false) (hdd : parseFieldDescriptor (T j).2.2.1 = some ty) (hn : narrow ty v = v) (hf : fits ty v = true) (hlen : j < fs.length) (hl' : l.set p (a, .inr (ci, fs.set j v)) = l') (hd : decode cc pc = .ok (.putfield idx, 3)) (kk : gCW X Y z nL (pc + 3) lv st (ws0 ++ l') k n) : gCW X Y z nL pc lv (v :: .ref a :: st) (ws0 ++ l) k n := by
  intro H locs ls h1 h2 h3 h
  have hts := hC.2.2.2.2.1
  refine va_put (D := Y.1) (ref := (T j).1) (A := gAz z) hC.1 hC.2.1 hts hin ty0 hty hnm hC.2.2.2.1 hC.2.2.2.2.2.1.1 h1 h2 h3 (ws0.length + p) (by rw [ga_at]; exact he) hc j hj (hts _ hl) (fun _ h9 => h9) hfin hdd hn hf hlen hd (fun H1 locs1 g1 g2 g3 => ?_)
  rw [ga_set, hl'] at g1 g2
  exact kk H1 locs1 ls g1 g2 g3 h
theorem n_putF (hC : gD X Y cc own z nL fr lo K N) {a j p idx ci M : Nat} {C : String} {T : u_T} {fs : List Value} {v : Value} {ty : FieldType} {ty0 : Nat → FieldType} (l' : va_W) (hmn : (gxM X).name = "<init>") (he : l[p]? = some (a, .inr (ci, fs))) (hc : vwCl[ci]? = some (C, T, M)) (hin : ∀ w ∈ u_ws C T M, w ∈ gTs) (hty : ∀ k, k < M → parseFieldDescriptor (T k).2.2.1 = some (ty0 k)) (hnm : ∀ a, a < M → ∀ b, b < M → a ≠ b → (T a).2.1 ≠ (T b).2.1) (hj : j < M) (hl : Cond.fieldLink own idx (T j).1 (T j).2.1 (T j).2.2.1 ∈ gTs) (hfin : (T j).2.2.2 = true) (hdec : (T j).1 = own) (hdd : parseFieldDescriptor (T j).2.2.1 = some ty) (hn : narrow ty v = v) (hf : fits ty v = true) (hlen : j < fs.length) (hl' : l.set p (a, .inr (ci, fs.set j v)) = l') (hd : decode cc pc = .ok (.putfield idx, 3)) (kk : gCW X Y z nL (pc + 3) lv st (ws0 ++ l') k n) : gCW X Y z nL pc lv (v :: .ref a :: st) (ws0 ++ l) k n := by
  intro H locs ls h1 h2 h3 h
  have hts := hC.2.2.2.2.1
  refine va_putF (D := Y.1) (ref := (T j).1) (A := gAz z) hC.1 hC.2.1 hts hin ty0 hty hnm hC.2.2.2.1 hC.2.2.2.2.2.1.1 h1 h2 h3 (ws0.length + p) (by rw [ga_at]; exact he) hc j hj (hts _ hl) (fun _ h9 => h9) hfin hmn hdec hdd hn hf hlen hd (fun H1 locs1 g1 g2 g3 => ?_)
  rw [ga_set, hl'] at g1 g2
  exact kk H1 locs1 ls g1 g2 g3 h
/-- aastore of an object of class r into a row of E -/
theorem n_ast (hC : gD X Y cc own z nL fr lo K N) {a v p pk t0 ci m : Nat} {i : Int32} {E : String} {cA : ClassId} {r : vw_C} {vs : List Value} {f : Nat → Option Nat} (l' : va_W) (ha : l[p]? = some (a, .inl (cA, m, .inr (.inr (.inr (.inr f)))))) (ht : (gTys Y)[t0]? = some (cA, .object E)) (hca : r.1 = E ∨ va_Nw (.castable r.1 E) (gxs X)) (hv : l[pk]? = some (v, .inr (ci, vs))) (hc : vwCl[ci]? = some r) (hi : vp_in i m) (hl' : l.set p (a, .inl (cA, m, .inr (.inr (.inr (.inr (va_up f i.toNatClampNeg (some v))))))) = l') (hd : decode cc pc = .ok (.aastore, 1)) (kk : gCW X Y z nL (pc + 1) lv st (ws0 ++ l') k n) : gCW X Y z nL pc lv (.ref v :: .int i :: .ref a :: st) (ws0 ++ l) k n := by
  intro H locs ls h1 h2 h3 h
  rcases hca with rfl | hca
  · refine va_astq (D := Y.1) (A := gAz z) hC.1 hC.2.1 hC.2.2.2.2.2.1.1 h1 h2 h3 (ws0.length + p) t0 (ws0.length + pk) ci (by rw [ga_at]; exact ha) ht (by rw [ga_at]; exact hv) hc hi hd (fun H1 locs1 g1 g2 g3 => ?_)
    rw [ga_set, hl'] at g1 g2
    exact kk H1 locs1 ls g1 g2 g3 h
  · refine va_astqO (D := Y.1) (A := gAz z) hC.1 hC.2.1 hC.2.2.2.2.2.1.1 h1 h2 h3 (ws0.length + p) t0 (ws0.length + pk) ci (by rw [ga_at]; exact ha) ht hca (by rw [ga_at]; exact hv) hc hi hd (fun H1 locs1 g1 g2 g3 => ?_)
    rw [ga_set, hl'] at g1 g2
    exact kk H1 locs1 ls g1 g2 g3 h
/-- a constructor's end -/
theorem n_ret (hC : gD X Y cc own z nL fr lo K N) {S : Type} {fin : S → va_W} (u : S) (hr : (gxM X).sig.returnType = none) (hQ : gxQ X = MQ (gxb X) (gQn Y z fin) (gxa X) (gxs X) k n (gAz z)) (hu : fin u = ws0 ++ l) (hd : decode cc pc = .ok (.return_, 1)) : gCW X Y z nL pc lv [] (ws0 ++ l) k n := by
  intro H locs ls h1 h2 h3 h
  rw [hQ]
  exact W.vret hC.1 hC.2.1 hr (fun t ht hW => ⟨⟨u, rfl, trivial, by rw [hu, ht]; exact h1, by rw [hu]; exact h2⟩, h3.F ht⟩) h3.2.2 hd hC.2.2.2.2.2.2.2.2.2.2.2
end GN
end
section
/-! new int[a][b], and a constructor's call -/
theorem vr_outer (c : ClassId) (N h0 : Nat) : ∀ i : Nat, Jvm.Free.Multi.outerC c N h0 i = arrV c N (fun j => va_rf (if j < i then some (h0 + 1 + j) else none))
  | 0 => by
    show ({ cls := c, slots := Array.replicate N .null, vm := .none } : Cell) = _
    rw [arrV_new]
    refine congrArg (arrV c N) (funext fun j => ?_)
    simp [va_rf]
  | i + 1 => by
    show (Jvm.Free.Multi.outerC c N h0 i).setSlot i (.ref (h0 + 1 + i)) = _
    rw [vr_outer c N h0 i, arrV_store]
    refine congrArg (arrV c N) (funext fun j => ?_)
    by_cases e : j = i
    · subst e
      simp [updV, va_rf]
    · by_cases h : j < i
      · simp [updV, e, h, Nat.lt_succ_of_lt h]
      · simp [updV, e, h, show ¬ j < i + 1 by omega]
section GN2
variable {X : gX} {Y : gY} {cc : ByteArray} {own : String} {z nL fr lo K N pc k n : Nat} {lv : List (Nat × Value)} {st : List Value} {ws0 l : va_W}
def gOut (Y : gY) (q a : Nat) : va_E := .inl (gca Y 4, a, .inr (.inr (.inr (.inr (fun i => if i < a then some (q + 1 + i) else none)))))
def gInn (Y : gY) (b : Nat) : va_E := .inl (gca Y 0, b, .inl (fun _ => 0))
def gGrid (Y : gY) (q a b : Nat) : va_W := (q, gOut Y q a) :: (List.range a).map (fun i => (q + 1 + i, gInn Y b))
theorem n_mna (hC : gD X Y cc own z nL fr lo K N) {idx : Nat} {i j : Int32} (a b : Nat) (hcl : Cond.classLink own idx "[[I" ∈ gTs) (hw : Cond.arrayClass .int ∈ gTs) (hi : ¬ i < 0) (hj : ¬ j < 0) (ha : i.toNatClampNeg = a) (hb : j.toNatClampNeg = b) (hb1 : a * 4 ≤ 536870912) (hb2 : b * componentBytes .int ≤ 536870912) (hb3 : b ≤ 536870912) (hk : k + (1 + a) ≤ K) (hn : n + (a + a * b) ≤ N) (hd : decode cc pc = .ok (.multianewarray idx 2, 4))
    (kk : ∀ q : Nat, gCW X Y z nL (pc + 4) lv (.ref q :: st) (ws0 ++ (l ++ gGrid Y q a b)) (k + 1 + a) (n + a + a * b)) : gCW X Y z nL pc lv (.int j :: .int i :: st) (ws0 ++ l) k n := by
  intro H locs ls h1 h2 h3 h T hT Xs
  subst ha
  subst hb
  have hts := hC.2.2.2.2.1
  have hR := hC.2.2.2.2.2.2.2
  obtain ⟨vm₁, cA, comp, -, fA, fC, hO, -, X', step⟩ := Jvm.Stand.multianewarray2F Xs hC.1 hC.2.2.2.1 (hts _ hcl) hC.2.2.2.2.2.1.2.2.2.2.1 (hts _ hw) (g := F0 (gxm X) pc ls (.int j :: .int i :: st)) rfl (by rw [hC.2.1]; exact hd) rfl hi hj hb1 hb2 hb3 rfl rfl (by rw [hR.2.2.1]; exact hk) (by rw [hR.2.2.2.1]; exact hn)
  have eC : comp = gca Y 0 := by
    have a1 : (gxs X).vm.findClass ("[" ++ FieldType.int.toString) = some (gca Y 0) := (hC.2.2.2.2.2.1.1.2 0 _ rfl).2
    exact Option.some.inj (fC.symm.trans a1)
  have eA : cA = gca Y 4 := by
    have a1 : (gxs X).vm.findClass ("[" ++ (FieldType.array .int).toString) = some (gca Y 4) := (hC.2.2.2.2.2.1.1.2 4 _ rfl).2
    exact Option.some.inj (fA.symm.trans a1)
  subst eC
  subst eA
  generalize hF : Jvm.Free.Multi.fill (T.setVm vm₁) (gca Y 4) (gca Y 0) i.toNatClampNeg j.toNatClampNeg (defaultValue .int) i.toNatClampNeg = F at X' step
  have hTh : (T.setVm vm₁).heap = H := hT
  obtain ⟨f1, f2, -, -⟩ := Jvm.Free.Multi.fill_facts (T.setVm vm₁) (gca Y 4) (gca Y 0) i.toNatClampNeg j.toNatClampNeg (defaultValue .int) i.toNatClampNeg
  rw [hF, hTh] at f1 f2
  have hold : ∀ x : Nat, x < H.size → F.heap[x]? = H[x]? := fun x hx => by
    have := Jvm.Free.Multi.fill_old (T.setVm vm₁) (gca Y 4) (gca Y 0) i.toNatClampNeg j.toNatClampNeg (defaultValue .int) (a := x) (by rw [hTh]; exact hx) i.toNatClampNeg
    rw [hF, hTh] at this
    exact this
  have hrow : ∀ r : Nat, r < i.toNatClampNeg → F.heap[H.size + 1 + r]? = some (vp_cell (gca Y 0) (j.toNatClampNeg, .inl (fun _ => 0))) := fun r hr => by
    have := Jvm.Free.Multi.fill_inner (T.setVm vm₁) (gca Y 4) (gca Y 0) i.toNatClampNeg j.toNatClampNeg (defaultValue .int) i.toNatClampNeg r hr
    rw [hF, hTh] at this
    rw [this, vp_cell_i, ← arrV_new]
    rfl
  have hout : Jvm.Free.Multi.outerC (gca Y 4) i.toNatClampNeg H.size i.toNatClampNeg = vp_cell (gca Y 4) (i.toNatClampNeg, .inr (.inr (.inr (.inr (fun r => if r < i.toNatClampNeg then some (H.size + 1 + r) else none))))) := by
    rw [vp_cell_q]
    exact vr_outer (gca Y 4) i.toNatClampNeg H.size i.toNatClampNeg
  rw [hout] at f2
  have hzs : z ≤ H.size := Nat.le_trans hC.2.2.2.2.2.2.1 h3.1
  have hP0 : va_P Y.1 vwCl (ws0 ++ l) F.heap := h1.kept (fun k9 x hx => hold x.1 ((h1 k9 x hx).lt))
  have hG : ∀ (k9 : Nat) (x : Nat × va_E), (gGrid Y H.size i.toNatClampNeg j.toNatClampNeg)[k9]? = some x → va_at Y.1 vwCl x F.heap ∧ x.1 = H.size + k9 := by
    intro k9 x hx
    cases k9 with
    | zero =>
      cases hx
      exact ⟨f2, rfl⟩
    | succ k9 =>
      unfold gGrid at hx
      rw [List.getElem?_cons_succ, List.getElem?_map] at hx
      by_cases h9 : k9 < i.toNatClampNeg
      · rw [List.getElem?_range h9] at hx
        cases hx
        exact ⟨hrow k9 h9, by show H.size + 1 + k9 = H.size + (k9 + 1); omega⟩
      · have hn0 : (List.range i.toNatClampNeg)[k9]? = none := List.getElem?_eq_none (by rw [List.length_range]; omega)
        rw [hn0] at hx
        cases hx
  have hP2 : va_P Y.1 vwCl ((ws0 ++ l) ++ gGrid Y H.size i.toNatClampNeg j.toNatClampNeg) F.heap := hP0.app (fun k9 x hx => (hG k9 x hx).1)
  have hD2 : va_D (gAz z) ((ws0 ++ l) ++ gGrid Y H.size i.toNatClampNeg j.toNatClampNeg) := by
    refine va_D.app h2 ⟨fun a b x y hx hy hxy => ?_, fun k9 x hx => ?_⟩ (fun a b x y hx hy hxy => ?_)
    · have e1 := (hG a x hx).2
      have e2 := (hG b y hy).2
      omega
    · have e1 := (hG k9 x hx).2
      show z ≤ x.1
      omega
    · have e1 := (h1 a x hx).lt
      have e2 := (hG b y hy).2
      omega
  rw [List.append_assoc] at hP2 hD2
  obtain ⟨t, a1, b1⟩ := kk H.size F.heap locs ls hP2 hD2 ⟨by rw [f1]; have := h3.1; omega, fun x g1 g2 => (hold x (Nat.lt_of_lt_of_le g1 h3.1)).trans (h3.2.1 x g1 g2), h3.2.2⟩ h F rfl X'
  refine ⟨t, step t ?_, b1⟩
  have e : T.heap.size = H.size := by rw [hT]
  rw [e]
  exact a1
theorem gmetn {L : Launch} {y : MethodName} {av : List Value} {rm : Room} {Qc : Array Value → State → Outcome → State → Prop} {ws : va_W} (own : String) (hy : plainName y.cls = true) (hyn : y.name = "<init>") (hown : y.cls = own) (hlen : (lg_sl av).length ≤ nL) (hlv : lv_args 0 av = lv)
    (body : ∀ X : gX, gD X Y cc own z nL rm.frames rm.locals rm.cells rm.slots → (gxM X).name = "<init>" → (gxM X).sig.returnType = none → gxQ X = MQ (gxb X) Qc (gxa X) (gxs X) rm.cells rm.slots (gAz z) → gCW X Y z nL 0 lv [] ws 0 0) : Met L y (gws y cc nL none) rm (va_Pc av (gPn Y z ws)) Qc rm.cells rm.slots (gAz z) := by
  refine Met.ofW (cc := cc) (maxL := nL) (ret := none) hy rfl ?_
  intro p e s m args below meth c s₁ B hml hv
  obtain ⟨rfl, hz, hP, hD, hZ⟩ := hv
  have hts := atoms_spec (ws := gws y cc nL none) B.pre
  have ho : s.vm.findClass y.cls = some m.cls := findClass_of_methodNamed B.named
  have hin : meth.name = y.name := (name_of_methodNamed B.named B.method).1
  have hl := lv_entry av (n := nL) hlen
  rw [lg_entry_eq]
  rw [hlv] at hl
  exact body (p, L, e, rm, s, m, av.toArray, below, meth, c, MQ below Qc av.toArray s rm.cells rm.slots (gAz z), 0, 0) ⟨B.exec, B.bytes, hml, by rw [← hown]; exact ho, fun w hw => hts w (List.mem_cons_of_mem _ hw), hZ, hz, rfl, rfl, rfl, rfl, B.notSynchronized⟩ (hin.trans hyn) B.returns rfl s.heap [] _ hP hD va_S.rf hl
/-- a constructor's call: its object is the last cell -/
theorem n_call (hC : gD X Y cc own z nL fr lo K N) {y : MethodName} {bytes : ByteArray} {maxL m idx b : Nat} {rm : Room} {As rest : List Value} {S : Type} {fin : S → va_W} {e0 : va_E} (hm : gMth y bytes maxL none m) (hyn : y.name = "<init>") (hi : Cond.instanceMethod y ∈ gTs) (hl : Cond.methodLink own idx y ∈ gTs ∨ ∃ host, Cond.methodLinkNest own idx y host ∈ gNW)
    (hM : Met X.2.1 y (gws y bytes maxL none) rm (va_Pc (.ref b :: As) (gPn Y z ((ws0 ++ l) ++ [(b, e0)]))) (gQn Y z fin) rm.cells rm.slots (gAz z)) (hR : rm.frames + 1 ≤ fr ∧ 8 + (maxL + 11) + rm.locals ≤ lo ∧ k + rm.cells ≤ K ∧ n + rm.slots ≤ N) (hn : As.length = m) (hst : st = As.reverse ++ .ref b :: rest) (hrest : (rest.map fun v => v.category).sum ≤ 8) (hd : decode cc pc = .ok (.invokespecial idx, 3))
    (kk : ∀ u : S, gCW X Y z nL (pc + 3) lv rest (fin u) (k + rm.cells) (n + rm.slots)) : gCW X Y z nL pc lv st (ws0 ++ (l ++ [(b, e0)])) k n := by
  intro H locs ls h1 h2 h3 h
  subst hst
  rw [← List.append_assoc] at h1 h2
  have hts := hC.2.2.2.2.1
  have h9 := hC.2.2.2.2.2.2.2
  have hG := gws_good hm.1
  have hp : PreS (gxs X) H (va_Pc (.ref b :: As) (gPn Y z ((ws0 ++ l) ++ [(b, e0)]))) (.ref b :: As) := ⟨gPn.blind _, fun U hU hW => ⟨rfl, by rw [hU]; exact Nat.le_trans hC.2.2.2.2.2.2.1 h3.1, by rw [hU]; exact h1, h2, hC.2.2.2.2.2.1.warm hW⟩⟩
  have run : va_Run X.1 X.2.1 X.2.2.1 (gxR X) (gxs X) (gxm X) (gxa X) (gxb X) (gxM X) (gxc X) H locs k n rm.cells rm.slots (F0 (gxm X) pc ls (As.reverse ++ .ref b :: rest)) rest (gQn Y z fin (Value.ref b :: As).toArray) (gAz z) := by
    rcases hl with hl | ⟨host, hl⟩
    · exact va_runI ⟨hC.1, hC.2.1, hC.2.2.1, hC.2.2.2.1, hts⟩ hM ⟨callB_of m hts hG rfl rfl rfl (hts _ hm.2.1) (hts _ hl) hm.2.2 ⟨by rw [h9.1]; exact hR.1, by rw [h9.2.1]; exact hR.2.1⟩, hyn, hts _ hi⟩ hp rfl hn h.1 rfl (lv_room hrest) hd ⟨by rw [h9.2.2.1]; exact hR.2.2.1, by rw [h9.2.2.2.1]; exact hR.2.2.2⟩
    · exact va_runIN ⟨hC.1, hC.2.1, hC.2.2.1, hC.2.2.2.1, hts⟩ hM ⟨va_cnB m hts hG rfl rfl rfl (hC.2.2.2.2.2.1.2.1 _ hl) (hts _ hm.2.1) hm.2.2 ⟨by rw [h9.1]; exact hR.1, by rw [h9.2.1]; exact hR.2.1⟩, hyn, hts _ hi⟩ hp rfl hn h.1 rfl (lv_room hrest) hd ⟨by rw [h9.2.2.1]; exact hR.2.2.1, by rw [h9.2.2.2.1]; exact hR.2.2.2⟩
  refine va_callv run h3 (fun q _ h => h) (fun q h => h) (fun u t H1 locs1 ht hvm hw hB _ _ hS1 => ?_)
  exact kk u H1 locs1 ls (by rw [← ht]; exact hB.1) hB.2 hS1 h
end GN2
end
section
theorem n_eq {X : gX} {Y : gY} {z nL pc k n : Nat} {lv : List (Nat × Value)} {st : List Value} {ws ws' : va_W} (k' n' : Nat) (h : ws = ws') (hk : k = k') (hn : n = n') (kk : gCW X Y z nL pc lv st ws' k' n') : gCW X Y z nL pc lv st ws k n := by
  subst h; subst hk; subst hn; exact kk

theorem dX4_init_0 : decode cX4_init 0 = .ok (.aload_n 0, 1) := by decide +kernel
theorem dX4_init_1 : decode cX4_init 1 = .ok (.invokespecial 1, 3) := by decide +kernel
theorem dX4_init_4 : decode cX4_init 4 = .ok (.return_, 1) := by decide +kernel
set_option maxRecDepth 100000 in
set_option maxHeartbeats 4000000 in
theorem c_X4_init {L : Launch} {Y : gY} {z b : Nat} {ws0 : va_W} {e0 : va_E} : Met L yX4_init (gws yX4_init cX4_init 1 none) { frames := 1, cells := 0, slots := 0, locals := 12 } (va_Pc [.ref b] (gPn Y z (ws0 ++ [(b, e0)]))) (gQn Y z (fun (_ : Unit) => ws0 ++ [(b, e0)])) 0 0 (gAz z) := by
  refine gmetn (lv := [(0, .ref b)]) (rm := { frames := 1, cells := 0, slots := 0, locals := 12 }) "GuestStaff$Plain" (by decide) rfl rfl (Nat.le_of_ble_eq_true rfl) rfl (fun X hC hmn hr hQ => ?_)
  refine n_aload_n hC 0 dX4_init_0 rfl rfl ?_
  refine n_obj hC wM_X4_1 wobj dX4_init_1 (by decide) (Nat.le_of_ble_eq_true rfl) ?_
  exact n_ret hC () hr hQ (by first | rfl | simp) dX4_init_4

theorem dX6_init_0 : decode cX6_init 0 = .ok (.aload_n 0, 1) := by decide +kernel
theorem dX6_init_1 : decode cX6_init 1 = .ok (.invokespecial 3, 3) := by decide +kernel
theorem dX6_init_4 : decode cX6_init 4 = .ok (.return_, 1) := by decide +kernel
set_option maxRecDepth 100000 in
set_option maxHeartbeats 4000000 in
theorem c_X6_init {L : Launch} {Y : gY} {z b : Nat} {ws0 : va_W} {e0 : va_E} : Met L yX6_init (gws yX6_init cX6_init 1 none) { frames := 2, cells := 0, slots := 0, locals := 32 } (va_Pc [.ref b] (gPn Y z (ws0 ++ [(b, e0)]))) (gQn Y z (fun (_ : Unit) => ws0 ++ [(b, e0)])) 0 0 (gAz z) := by
  refine gmetn (lv := [(0, .ref b)]) (rm := { frames := 2, cells := 0, slots := 0, locals := 32 }) "GuestStaff$Quiet" (by decide) rfl rfl (Nat.le_of_ble_eq_true rfl) rfl (fun X hC hmn hr hQ => ?_)
  refine n_aload_n hC 0 dX6_init_0 rfl rfl ?_
  refine n_eq (ws' := ws0 ++ (([] : va_W) ++ [(b, e0)])) 0 0 rfl rfl rfl ?_
  refine n_call (k := 0) (n := 0) (l := ([] : va_W)) (As := []) (rest := []) hC mt_X4_init rfl mi_X4_init (Or.inr ⟨_, wG_X6_3⟩) c_X4_init ⟨by decide, by decide, by decide, by decide⟩ rfl rfl (Nat.le_of_ble_eq_true rfl) dX6_init_1 (fun r1 => ?_)
  refine n_eq (ws' := ws0 ++ [(b, e0)]) 0 0 (by rw [List.append_nil]) rfl rfl ?_
  exact n_ret hC () hr hQ (by first | rfl | simp) dX6_init_4

theorem dX0_init_0 : decode cX0_init 0 = .ok (.aload_n 0, 1) := by decide +kernel
theorem dX0_init_1 : decode cX0_init 1 = .ok (.invokespecial 1, 3) := by decide +kernel
theorem dX0_init_4 : decode cX0_init 4 = .ok (.return_, 1) := by decide +kernel
set_option maxRecDepth 100000 in
set_option maxHeartbeats 4000000 in
theorem c_X0_init {L : Launch} {Y : gY} {z b : Nat} {ws0 : va_W} {e0 : va_E} : Met L yX0_init (gws yX0_init cX0_init 1 none) { frames := 2, cells := 0, slots := 0, locals := 32 } (va_Pc [.ref b] (gPn Y z (ws0 ++ [(b, e0)]))) (gQn Y z (fun (_ : Unit) => ws0 ++ [(b, e0)])) 0 0 (gAz z) := by
  refine gmetn (lv := [(0, .ref b)]) (rm := { frames := 2, cells := 0, slots := 0, locals := 32 }) "GuestStaff$Banker" (by decide) rfl rfl (Nat.le_of_ble_eq_true rfl) rfl (fun X hC hmn hr hQ => ?_)
  refine n_aload_n hC 0 dX0_init_0 rfl rfl ?_
  refine n_eq (ws' := ws0 ++ (([] : va_W) ++ [(b, e0)])) 0 0 rfl rfl rfl ?_
  refine n_call (k := 0) (n := 0) (l := ([] : va_W)) (As := []) (rest := []) hC mt_X4_init rfl mi_X4_init (Or.inr ⟨_, wG_X0_1⟩) c_X4_init ⟨by decide, by decide, by decide, by decide⟩ rfl rfl (Nat.le_of_ble_eq_true rfl) dX0_init_1 (fun r1 => ?_)
  refine n_eq (ws' := ws0 ++ [(b, e0)]) 0 0 (by rw [List.append_nil]) rfl rfl ?_
  exact n_ret hC () hr hQ (by first | rfl | simp) dX0_init_4

theorem dX8_init_0 : decode cX8_init 0 = .ok (.aload_n 0, 1) := by decide +kernel
theorem dX8_init_1 : decode cX8_init 1 = .ok (.invokespecial 1, 3) := by decide +kernel
theorem dX8_init_4 : decode cX8_init 4 = .ok (.return_, 1) := by decide +kernel
set_option maxRecDepth 100000 in
set_option maxHeartbeats 4000000 in
theorem c_X8_init {L : Launch} {Y : gY} {z b : Nat} {ws0 : va_W} {e0 : va_E} : Met L yX8_init (gws yX8_init cX8_init 1 none) { frames := 2, cells := 0, slots := 0, locals := 32 } (va_Pc [.ref b] (gPn Y z (ws0 ++ [(b, e0)]))) (gQn Y z (fun (_ : Unit) => ws0 ++ [(b, e0)])) 0 0 (gAz z) := by
  refine gmetn (lv := [(0, .ref b)]) (rm := { frames := 2, cells := 0, slots := 0, locals := 32 }) "GuestStaff$Shouter" (by decide) rfl rfl (Nat.le_of_ble_eq_true rfl) rfl (fun X hC hmn hr hQ => ?_)
  refine n_aload_n hC 0 dX8_init_0 rfl rfl ?_
  refine n_eq (ws' := ws0 ++ (([] : va_W) ++ [(b, e0)])) 0 0 rfl rfl rfl ?_
  refine n_call (k := 0) (n := 0) (l := ([] : va_W)) (As := []) (rest := []) hC mt_X4_init rfl mi_X4_init (Or.inr ⟨_, wG_X8_1⟩) c_X4_init ⟨by decide, by decide, by decide, by decide⟩ rfl rfl (Nat.le_of_ble_eq_true rfl) dX8_init_1 (fun r1 => ?_)
  refine n_eq (ws' := ws0 ++ [(b, e0)]) 0 0 (by rw [List.append_nil]) rfl rfl ?_
  exact n_ret hC () hr hQ (by first | rfl | simp) dX8_init_4

theorem dX2_init_0 : decode cX2_init 0 = .ok (.aload_n 0, 1) := by decide +kernel
theorem dX2_init_1 : decode cX2_init 1 = .ok (.invokespecial 1, 3) := by decide +kernel
theorem dX2_init_4 : decode cX2_init 4 = .ok (.return_, 1) := by decide +kernel
set_option maxRecDepth 100000 in
set_option maxHeartbeats 4000000 in
theorem c_X2_init {L : Launch} {Y : gY} {z b : Nat} {ws0 : va_W} {e0 : va_E} : Met L yX2_init (gws yX2_init cX2_init 1 none) { frames := 3, cells := 0, slots := 0, locals := 52 } (va_Pc [.ref b] (gPn Y z (ws0 ++ [(b, e0)]))) (gQn Y z (fun (_ : Unit) => ws0 ++ [(b, e0)])) 0 0 (gAz z) := by
  refine gmetn (lv := [(0, .ref b)]) (rm := { frames := 3, cells := 0, slots := 0, locals := 52 }) "GuestStaff$Late" (by decide) rfl rfl (Nat.le_of_ble_eq_true rfl) rfl (fun X hC hmn hr hQ => ?_)
  refine n_aload_n hC 0 dX2_init_0 rfl rfl ?_
  refine n_eq (ws' := ws0 ++ (([] : va_W) ++ [(b, e0)])) 0 0 rfl rfl rfl ?_
  refine n_call (k := 0) (n := 0) (l := ([] : va_W)) (As := []) (rest := []) hC mt_X6_init rfl mi_X6_init (Or.inr ⟨_, wG_X2_1⟩) c_X6_init ⟨by decide, by decide, by decide, by decide⟩ rfl rfl (Nat.le_of_ble_eq_true rfl) dX2_init_1 (fun r1 => ?_)
  refine n_eq (ws' := ws0 ++ [(b, e0)]) 0 0 (by rw [List.append_nil]) rfl rfl ?_
  exact n_ret hC () hr hQ (by first | rfl | simp) dX2_init_4

theorem dX5_init_0 : decode cX5_init 0 = .ok (.aload_n 0, 1) := by decide +kernel
theorem dX5_init_1 : decode cX5_init 1 = .ok (.invokespecial 1, 3) := by decide +kernel
theorem dX5_init_4 : decode cX5_init 4 = .ok (.return_, 1) := by decide +kernel
set_option maxRecDepth 100000 in
set_option maxHeartbeats 4000000 in
theorem c_X5_init {L : Launch} {Y : gY} {z b : Nat} {ws0 : va_W} {e0 : va_E} : Met L yX5_init (gws yX5_init cX5_init 1 none) { frames := 3, cells := 0, slots := 0, locals := 52 } (va_Pc [.ref b] (gPn Y z (ws0 ++ [(b, e0)]))) (gQn Y z (fun (_ : Unit) => ws0 ++ [(b, e0)])) 0 0 (gAz z) := by
  refine gmetn (lv := [(0, .ref b)]) (rm := { frames := 3, cells := 0, slots := 0, locals := 52 }) "GuestStaff$Polisher" (by decide) rfl rfl (Nat.le_of_ble_eq_true rfl) rfl (fun X hC hmn hr hQ => ?_)
  refine n_aload_n hC 0 dX5_init_0 rfl rfl ?_
  refine n_eq (ws' := ws0 ++ (([] : va_W) ++ [(b, e0)])) 0 0 rfl rfl rfl ?_
  refine n_call (k := 0) (n := 0) (l := ([] : va_W)) (As := []) (rest := []) hC mt_X0_init rfl mi_X0_init (Or.inr ⟨_, wG_X5_1⟩) c_X0_init ⟨by decide, by decide, by decide, by decide⟩ rfl rfl (Nat.le_of_ble_eq_true rfl) dX5_init_1 (fun r1 => ?_)
  refine n_eq (ws' := ws0 ++ [(b, e0)]) 0 0 (by rw [List.append_nil]) rfl rfl ?_
  exact n_ret hC () hr hQ (by first | rfl | simp) dX5_init_4

theorem hfs_X1 : ∀ j, j < 16 → defaultValue (tyX1 j) = vp_V [.null, .null, .null, .null, .null, .null, .null, .null, .null, .null, .null, .int 0, .int 0, .int 0, .int 0, .int 0] j := by
  intro j hj
  rcases (show j = 0 ∨ j = 1 ∨ j = 2 ∨ j = 3 ∨ j = 4 ∨ j = 5 ∨ j = 6 ∨ j = 7 ∨ j = 8 ∨ j = 9 ∨ j = 10 ∨ j = 11 ∨ j = 12 ∨ j = 13 ∨ j = 14 ∨ j = 15 by omega) with rfl | rfl | rfl | rfl | rfl | rfl | rfl | rfl | rfl | rfl | rfl | rfl | rfl | rfl | rfl | rfl <;> rfl

theorem hfs_X3 : ∀ j, j < 2 → defaultValue (tyX3 j) = vp_V [.null, .int 0] j := by
  intro j hj
  rcases (show j = 0 ∨ j = 1 by omega) with rfl | rfl <;> rfl

theorem hfs_X7 : ∀ j, j < 5 → defaultValue (tyX7 j) = vp_V [.null, .null, .null, .null, .int 0] j := by
  intro j hj
  rcases (show j = 0 ∨ j = 1 ∨ j = 2 ∨ j = 3 ∨ j = 4 by omega) with rfl | rfl | rfl | rfl | rfl <;> rfl

theorem hfs_X9 : ∀ j, j < 6 → defaultValue (tyX9 j) = vp_V [.null, .int 0, .int 0, .int 0, .int 0, .int 0] j := by
  intro j hj
  rcases (show j = 0 ∨ j = 1 ∨ j = 2 ∨ j = 3 ∨ j = 4 ∨ j = 5 by omega) with rfl | rfl | rfl | rfl | rfl | rfl <;> rfl

theorem hfs_X10 : ∀ j, j < 9 → defaultValue (tyX10 j) = vp_V [.null, .null, .null, .null, .null, .null, .null, .long 0, .long 0] j := by
  intro j hj
  rcases (show j = 0 ∨ j = 1 ∨ j = 2 ∨ j = 3 ∨ j = 4 ∨ j = 5 ∨ j = 6 ∨ j = 7 ∨ j = 8 by omega) with rfl | rfl | rfl | rfl | rfl | rfl | rfl | rfl | rfl <;> rfl

theorem hfs_X11 : ∀ j, j < 28 → defaultValue (tyX11 j) = vp_V [.null, .long 0, .long 0, .null, .null, .int 0, .int 0, .int 0, .int 0, .int 0, .null, .int 0, .int 0, .null, .int 0, .null, .int 0, .null, .null, .int 0, .int 0, .int 0, .null, .null, .null, .null, .null, .null] j := by
  intro j hj
  rcases (show j = 0 ∨ j = 1 ∨ j = 2 ∨ j = 3 ∨ j = 4 ∨ j = 5 ∨ j = 6 ∨ j = 7 ∨ j = 8 ∨ j = 9 ∨ j = 10 ∨ j = 11 ∨ j = 12 ∨ j = 13 ∨ j = 14 ∨ j = 15 ∨ j = 16 ∨ j = 17 ∨ j = 18 ∨ j = 19 ∨ j = 20 ∨ j = 21 ∨ j = 22 ∨ j = 23 ∨ j = 24 ∨ j = 25 ∨ j = 26 ∨ j = 27 by omega) with rfl | rfl | rfl | rfl | rfl | rfl | rfl | rfl | rfl | rfl | rfl | rfl | rfl | rfl | rfl | rfl | rfl | rfl | rfl | rfl | rfl | rfl | rfl | rfl | rfl | rfl | rfl | rfl <;> rfl

theorem dX3_init_0 : decode cX3_init 0 = .ok (.aload_n 0, 1) := by decide +kernel
theorem dX3_init_1 : decode cX3_init 1 = .ok (.invokespecial 3, 3) := by decide +kernel
theorem dX3_init_4 : decode cX3_init 4 = .ok (.aload_n 0, 1) := by decide +kernel
theorem dX3_init_5 : decode cX3_init 5 = .ok (.bipush 6, 2) := by decide +kernel
theorem dX3_init_7 : decode cX3_init 7 = .ok (.iconst 5, 1) := by decide +kernel
theorem dX3_init_8 : decode cX3_init 8 = .ok (.multianewarray 11 2, 4) := by decide +kernel
theorem dX3_init_12 : decode cX3_init 12 = .ok (.putfield 13, 3) := by decide +kernel
theorem dX3_init_15 : decode cX3_init 15 = .ok (.aload_n 0, 1) := by decide +kernel
theorem dX3_init_16 : decode cX3_init 16 = .ok (.iconst 0, 1) := by decide +kernel
theorem dX3_init_17 : decode cX3_init 17 = .ok (.putfield 16, 3) := by decide +kernel
theorem dX3_init_20 : decode cX3_init 20 = .ok (.return_, 1) := by decide +kernel
set_option maxRecDepth 100000 in
set_option maxHeartbeats 4000000 in
theorem c_X3_init {L : Launch} {Y : gY} {z b : Nat} {ws0 : va_W} : Met L yX3_init (gws yX3_init cX3_init 1 none) { frames := 1, cells := 7, slots := 36, locals := 12 } (va_Pc [.ref b] (gPn Y z (ws0 ++ [(b, .inr (3, [.null, .int 0]))]))) (gQn Y z (fun (q : Nat) => ws0 ++ ([(b, .inr (3, [.ref q, .int 0]))] ++ gGrid Y q 6 5))) 7 36 (gAz z) := by
  refine gmetn (lv := [(0, .ref b)]) (rm := { frames := 1, cells := 7, slots := 36, locals := 12 }) "GuestStaff$Notes" (by decide) rfl rfl (Nat.le_of_ble_eq_true rfl) rfl (fun X hC hmn hr hQ => ?_)
  refine n_aload_n hC 0 dX3_init_0 rfl rfl ?_
  refine n_obj hC wM_X3_3 wobj dX3_init_1 (by decide) (Nat.le_of_ble_eq_true rfl) ?_
  refine n_aload_n hC 0 dX3_init_4 rfl rfl ?_
  refine n_bipush hC 6 dX3_init_5 rfl ?_
  refine n_iconst hC 5 dX3_init_7 rfl ?_
  refine n_mna hC 6 5 wL_X3_11 wR_int (by decide) (by decide) rfl rfl (by decide) (by decide) (by decide) (by decide) (by decide) dX3_init_8 (fun q1 => ?_)
  refine n_eq (ws' := ws0 ++ ([(b, .inr (3, [.null, .int 0]))] ++ gGrid Y q1 6 5)) 7 36 (by simp only [List.append_assoc, List.cons_append, List.nil_append]) rfl rfl ?_
  refine n_putF (j := 0) (p := 0) hC (([(b, .inr (3, [.ref q1, .int 0]))] ++ gGrid Y q1 6 5)) hmn rfl rfl in_X3 tyX3_ok nmX3 (by decide) wF_X3_13 rfl rfl (tyX3_ok 0 (by decide)) rfl rfl (Nat.le_of_ble_eq_true rfl) rfl dX3_init_12 ?_
  refine n_aload_n hC 0 dX3_init_15 rfl rfl ?_
  refine n_iconst hC 0 dX3_init_16 rfl ?_
  refine n_put (j := 1) (p := 0) hC (([(b, .inr (3, [.ref q1, .int 0]))] ++ gGrid Y q1 6 5)) rfl rfl in_X3 tyX3_ok nmX3 (by decide) wF_X3_16 rfl (tyX3_ok 1 (by decide)) rfl rfl (Nat.le_of_ble_eq_true rfl) rfl dX3_init_17 ?_
  exact n_ret hC q1 hr hQ (by first | rfl | simp) dX3_init_20

theorem dX9_init_0 : decode cX9_init 0 = .ok (.aload_n 0, 1) := by decide +kernel
theorem dX9_init_1 : decode cX9_init 1 = .ok (.invokespecial 3, 3) := by decide +kernel
theorem dX9_init_4 : decode cX9_init 4 = .ok (.aload_n 0, 1) := by decide +kernel
theorem dX9_init_5 : decode cX9_init 5 = .ok (.sipush 150, 3) := by decide +kernel
theorem dX9_init_8 : decode cX9_init 8 = .ok (.newarray .int, 2) := by decide +kernel
theorem dX9_init_10 : decode cX9_init 10 = .ok (.putfield 9, 3) := by decide +kernel
theorem dX9_init_13 : decode cX9_init 13 = .ok (.aload_n 0, 1) := by decide +kernel
theorem dX9_init_14 : decode cX9_init 14 = .ok (.iconst 0, 1) := by decide +kernel
theorem dX9_init_15 : decode cX9_init 15 = .ok (.putfield 15, 3) := by decide +kernel
theorem dX9_init_18 : decode cX9_init 18 = .ok (.aload_n 0, 1) := by decide +kernel
theorem dX9_init_19 : decode cX9_init 19 = .ok (.iconst 0, 1) := by decide +kernel
theorem dX9_init_20 : decode cX9_init 20 = .ok (.putfield 19, 3) := by decide +kernel
theorem dX9_init_23 : decode cX9_init 23 = .ok (.aload_n 0, 1) := by decide +kernel
theorem dX9_init_24 : decode cX9_init 24 = .ok (.iconst 0, 1) := by decide +kernel
theorem dX9_init_25 : decode cX9_init 25 = .ok (.putfield 22, 3) := by decide +kernel
theorem dX9_init_28 : decode cX9_init 28 = .ok (.aload_n 0, 1) := by decide +kernel
theorem dX9_init_29 : decode cX9_init 29 = .ok (.iconst 0, 1) := by decide +kernel
theorem dX9_init_30 : decode cX9_init 30 = .ok (.putfield 25, 3) := by decide +kernel
theorem dX9_init_33 : decode cX9_init 33 = .ok (.aload_n 0, 1) := by decide +kernel
theorem dX9_init_34 : decode cX9_init 34 = .ok (.iconst (-1), 1) := by decide +kernel
theorem dX9_init_35 : decode cX9_init 35 = .ok (.putfield 28, 3) := by decide +kernel
theorem dX9_init_38 : decode cX9_init 38 = .ok (.return_, 1) := by decide +kernel
set_option maxRecDepth 100000 in
set_option maxHeartbeats 4000000 in
theorem c_X9_init {L : Launch} {Y : gY} {z b : Nat} {ws0 : va_W} : Met L yX9_init (gws yX9_init cX9_init 1 none) { frames := 1, cells := 1, slots := 150, locals := 12 } (va_Pc [.ref b] (gPn Y z (ws0 ++ [(b, .inr (9, [.null, .int 0, .int 0, .int 0, .int 0, .int 0]))]))) (gQn Y z (fun (q : Nat) => ws0 ++ ([(b, .inr (9, [.ref q, .int 0, .int 0, .int 0, .int 0, .int (-1)]))] ++ [(q, .inl (gca Y 0, 150, .inl (fun _ => 0)))]))) 1 150 (gAz z) := by
  refine gmetn (lv := [(0, .ref b)]) (rm := { frames := 1, cells := 1, slots := 150, locals := 12 }) "GuestStaff$Text" (by decide) rfl rfl (Nat.le_of_ble_eq_true rfl) rfl (fun X hC hmn hr hQ => ?_)
  refine n_aload_n hC 0 dX9_init_0 rfl rfl ?_
  refine n_obj hC wM_X9_3 wobj dX9_init_1 (by decide) (Nat.le_of_ble_eq_true rfl) ?_
  refine n_aload_n hC 0 dX9_init_4 rfl rfl ?_
  refine n_sipush hC 150 dX9_init_5 rfl ?_
  refine n_newa (at_ := .int) (ty := .int) (t0 := 0) hC 150 rfl wR_int rfl (fun _ _ h => h) rfl (by decide) rfl (by decide) (by decide) (by decide) dX9_init_8 (fun q1 => ?_)
  refine n_eq (ws' := ws0 ++ [(b, .inr (9, [.null, .int 0, .int 0, .int 0, .int 0, .int 0])), (q1, .inl (gca Y 0, 150, .inl (fun _ => 0)))]) 1 150 (by simp only [List.append_assoc, List.cons_append, List.nil_append]) rfl rfl ?_
  refine n_putF (j := 0) (p := 0) hC ([(b, .inr (9, [.ref q1, .int 0, .int 0, .int 0, .int 0, .int 0])), (q1, .inl (gca Y 0, 150, .inl (fun _ => 0)))]) hmn rfl rfl in_X9 tyX9_ok nmX9 (by decide) wF_X9_9 rfl rfl (tyX9_ok 0 (by decide)) rfl rfl (Nat.le_of_ble_eq_true rfl) rfl dX9_init_10 ?_
  refine n_aload_n hC 0 dX9_init_13 rfl rfl ?_
  refine n_iconst hC 0 dX9_init_14 rfl ?_
  refine n_put (j := 1) (p := 0) hC ([(b, .inr (9, [.ref q1, .int 0, .int 0, .int 0, .int 0, .int 0])), (q1, .inl (gca Y 0, 150, .inl (fun _ => 0)))]) rfl rfl in_X9 tyX9_ok nmX9 (by decide) wF_X9_15 rfl (tyX9_ok 1 (by decide)) rfl rfl (Nat.le_of_ble_eq_true rfl) rfl dX9_init_15 ?_
  refine n_aload_n hC 0 dX9_init_18 rfl rfl ?_
  refine n_iconst hC 0 dX9_init_19 rfl ?_
  refine n_put (j := 2) (p := 0) hC ([(b, .inr (9, [.ref q1, .int 0, .int 0, .int 0, .int 0, .int 0])), (q1, .inl (gca Y 0, 150, .inl (fun _ => 0)))]) rfl rfl in_X9 tyX9_ok nmX9 (by decide) wF_X9_19 rfl (tyX9_ok 2 (by decide)) rfl rfl (Nat.le_of_ble_eq_true rfl) rfl dX9_init_20 ?_
  refine n_aload_n hC 0 dX9_init_23 rfl rfl ?_
  refine n_iconst hC 0 dX9_init_24 rfl ?_
  refine n_put (j := 3) (p := 0) hC ([(b, .inr (9, [.ref q1, .int 0, .int 0, .int 0, .int 0, .int 0])), (q1, .inl (gca Y 0, 150, .inl (fun _ => 0)))]) rfl rfl in_X9 tyX9_ok nmX9 (by decide) wF_X9_22 rfl (tyX9_ok 3 (by decide)) rfl rfl (Nat.le_of_ble_eq_true rfl) rfl dX9_init_25 ?_
  refine n_aload_n hC 0 dX9_init_28 rfl rfl ?_
  refine n_iconst hC 0 dX9_init_29 rfl ?_
  refine n_put (j := 4) (p := 0) hC ([(b, .inr (9, [.ref q1, .int 0, .int 0, .int 0, .int 0, .int 0])), (q1, .inl (gca Y 0, 150, .inl (fun _ => 0)))]) rfl rfl in_X9 tyX9_ok nmX9 (by decide) wF_X9_25 rfl (tyX9_ok 4 (by decide)) rfl rfl (Nat.le_of_ble_eq_true rfl) rfl dX9_init_30 ?_
  refine n_aload_n hC 0 dX9_init_33 rfl rfl ?_
  refine n_iconst hC (-1) dX9_init_34 rfl ?_
  refine n_put (j := 5) (p := 0) hC ([(b, .inr (9, [.ref q1, .int 0, .int 0, .int 0, .int 0, .int (-1)])), (q1, .inl (gca Y 0, 150, .inl (fun _ => 0)))]) rfl rfl in_X9 tyX9_ok nmX9 (by decide) wF_X9_28 rfl (tyX9_ok 5 (by decide)) rfl rfl (Nat.le_of_ble_eq_true rfl) rfl dX9_init_35 ?_
  exact n_ret hC q1 hr hQ (by first | rfl | simp) dX9_init_38

def rblk (Y : gY) (b : Nat) (r : Nat → Nat) : va_W := ([(b, .inr (7, [.ref (r 0), .ref (r 1), .ref (r 2), .ref (r 3), .int 0]))] ++ ([(r 0, .inl (gca Y 0, 7, .inl (fun _ => 0))), (r 1, .inl (gca Y 0, 7, .inl (fun _ => 0)))] ++ (gGrid Y (r 2) 7 7 ++ [(r 3, .inl (gca Y 0, 128, .inl (fun _ => 0)))])))

theorem dX7_init_0 : decode cX7_init 0 = .ok (.aload_n 0, 1) := by decide +kernel
theorem dX7_init_1 : decode cX7_init 1 = .ok (.invokespecial 3, 3) := by decide +kernel
theorem dX7_init_4 : decode cX7_init 4 = .ok (.aload_n 0, 1) := by decide +kernel
theorem dX7_init_5 : decode cX7_init 5 = .ok (.bipush 7, 2) := by decide +kernel
theorem dX7_init_7 : decode cX7_init 7 = .ok (.newarray .int, 2) := by decide +kernel
theorem dX7_init_9 : decode cX7_init 9 = .ok (.putfield 9, 3) := by decide +kernel
theorem dX7_init_12 : decode cX7_init 12 = .ok (.aload_n 0, 1) := by decide +kernel
theorem dX7_init_13 : decode cX7_init 13 = .ok (.bipush 7, 2) := by decide +kernel
theorem dX7_init_15 : decode cX7_init 15 = .ok (.newarray .int, 2) := by decide +kernel
theorem dX7_init_17 : decode cX7_init 17 = .ok (.putfield 15, 3) := by decide +kernel
theorem dX7_init_20 : decode cX7_init 20 = .ok (.aload_n 0, 1) := by decide +kernel
theorem dX7_init_21 : decode cX7_init 21 = .ok (.bipush 7, 2) := by decide +kernel
theorem dX7_init_23 : decode cX7_init 23 = .ok (.bipush 7, 2) := by decide +kernel
theorem dX7_init_25 : decode cX7_init 25 = .ok (.multianewarray 18 2, 4) := by decide +kernel
theorem dX7_init_29 : decode cX7_init 29 = .ok (.putfield 20, 3) := by decide +kernel
theorem dX7_init_32 : decode cX7_init 32 = .ok (.aload_n 0, 1) := by decide +kernel
theorem dX7_init_33 : decode cX7_init 33 = .ok (.sipush 128, 3) := by decide +kernel
theorem dX7_init_36 : decode cX7_init 36 = .ok (.newarray .int, 2) := by decide +kernel
theorem dX7_init_38 : decode cX7_init 38 = .ok (.putfield 23, 3) := by decide +kernel
theorem dX7_init_41 : decode cX7_init 41 = .ok (.aload_n 0, 1) := by decide +kernel
theorem dX7_init_42 : decode cX7_init 42 = .ok (.iconst 0, 1) := by decide +kernel
theorem dX7_init_43 : decode cX7_init 43 = .ok (.putfield 26, 3) := by decide +kernel
theorem dX7_init_46 : decode cX7_init 46 = .ok (.return_, 1) := by decide +kernel
set_option maxRecDepth 100000 in
set_option maxHeartbeats 4000000 in
theorem c_X7_init {L : Launch} {Y : gY} {z b : Nat} {ws0 : va_W} : Met L yX7_init (gws yX7_init cX7_init 1 none) { frames := 1, cells := 11, slots := 198, locals := 12 } (va_Pc [.ref b] (gPn Y z (ws0 ++ [(b, .inr (7, [.null, .null, .null, .null, .int 0]))]))) (gQn Y z (fun (r : Nat → Nat) => ws0 ++ rblk Y b r)) 11 198 (gAz z) := by
  refine gmetn (lv := [(0, .ref b)]) (rm := { frames := 1, cells := 11, slots := 198, locals := 12 }) "GuestStaff$Rows" (by decide) rfl rfl (Nat.le_of_ble_eq_true rfl) rfl (fun X hC hmn hr hQ => ?_)
  refine n_aload_n hC 0 dX7_init_0 rfl rfl ?_
  refine n_obj hC wM_X7_3 wobj dX7_init_1 (by decide) (Nat.le_of_ble_eq_true rfl) ?_
  refine n_aload_n hC 0 dX7_init_4 rfl rfl ?_
  refine n_bipush hC 7 dX7_init_5 rfl ?_
  refine n_newa (at_ := .int) (ty := .int) (t0 := 0) hC 7 rfl wR_int rfl (fun _ _ h => h) rfl (by decide) rfl (by decide) (by decide) (by decide) dX7_init_7 (fun q1 => ?_)
  refine n_eq (ws' := ws0 ++ [(b, .inr (7, [.null, .null, .null, .null, .int 0])), (q1, .inl (gca Y 0, 7, .inl (fun _ => 0)))]) 1 7 (by simp only [List.append_assoc, List.cons_append, List.nil_append]) rfl rfl ?_
  refine n_putF (j := 0) (p := 0) hC ([(b, .inr (7, [.ref q1, .null, .null, .null, .int 0])), (q1, .inl (gca Y 0, 7, .inl (fun _ => 0)))]) hmn rfl rfl in_X7 tyX7_ok nmX7 (by decide) wF_X7_9 rfl rfl (tyX7_ok 0 (by decide)) rfl rfl (Nat.le_of_ble_eq_true rfl) rfl dX7_init_9 ?_
  refine n_aload_n hC 0 dX7_init_12 rfl rfl ?_
  refine n_bipush hC 7 dX7_init_13 rfl ?_
  refine n_newa (at_ := .int) (ty := .int) (t0 := 0) hC 7 rfl wR_int rfl (fun _ _ h => h) rfl (by decide) rfl (by decide) (by decide) (by decide) dX7_init_15 (fun q2 => ?_)
  refine n_eq (ws' := ws0 ++ [(b, .inr (7, [.ref q1, .null, .null, .null, .int 0])), (q1, .inl (gca Y 0, 7, .inl (fun _ => 0))), (q2, .inl (gca Y 0, 7, .inl (fun _ => 0)))]) 2 14 (by simp only [List.append_assoc, List.cons_append, List.nil_append]) rfl rfl ?_
  refine n_putF (j := 1) (p := 0) hC ([(b, .inr (7, [.ref q1, .ref q2, .null, .null, .int 0])), (q1, .inl (gca Y 0, 7, .inl (fun _ => 0))), (q2, .inl (gca Y 0, 7, .inl (fun _ => 0)))]) hmn rfl rfl in_X7 tyX7_ok nmX7 (by decide) wF_X7_15 rfl rfl (tyX7_ok 1 (by decide)) rfl rfl (Nat.le_of_ble_eq_true rfl) rfl dX7_init_17 ?_
  refine n_aload_n hC 0 dX7_init_20 rfl rfl ?_
  refine n_bipush hC 7 dX7_init_21 rfl ?_
  refine n_bipush hC 7 dX7_init_23 rfl ?_
  refine n_mna hC 7 7 wL_X7_18 wR_int (by decide) (by decide) rfl rfl (by decide) (by decide) (by decide) (by decide) (by decide) dX7_init_25 (fun q3 => ?_)
  refine n_eq (ws' := ws0 ++ ([(b, .inr (7, [.ref q1, .ref q2, .null, .null, .int 0])), (q1, .inl (gca Y 0, 7, .inl (fun _ => 0))), (q2, .inl (gca Y 0, 7, .inl (fun _ => 0)))] ++ gGrid Y q3 7 7)) 10 70 (by simp only [List.append_assoc, List.cons_append, List.nil_append]) rfl rfl ?_
  refine n_putF (j := 2) (p := 0) hC (([(b, .inr (7, [.ref q1, .ref q2, .ref q3, .null, .int 0])), (q1, .inl (gca Y 0, 7, .inl (fun _ => 0))), (q2, .inl (gca Y 0, 7, .inl (fun _ => 0)))] ++ gGrid Y q3 7 7)) hmn rfl rfl in_X7 tyX7_ok nmX7 (by decide) wF_X7_20 rfl rfl (tyX7_ok 2 (by decide)) rfl rfl (Nat.le_of_ble_eq_true rfl) rfl dX7_init_29 ?_
  refine n_aload_n hC 0 dX7_init_32 rfl rfl ?_
  refine n_sipush hC 128 dX7_init_33 rfl ?_
  refine n_newa (at_ := .int) (ty := .int) (t0 := 0) hC 128 rfl wR_int rfl (fun _ _ h => h) rfl (by decide) rfl (by decide) (by decide) (by decide) dX7_init_36 (fun q4 => ?_)
  refine n_eq (ws' := ws0 ++ ([(b, .inr (7, [.ref q1, .ref q2, .ref q3, .null, .int 0])), (q1, .inl (gca Y 0, 7, .inl (fun _ => 0))), (q2, .inl (gca Y 0, 7, .inl (fun _ => 0)))] ++ (gGrid Y q3 7 7 ++ [(q4, .inl (gca Y 0, 128, .inl (fun _ => 0)))]))) 11 198 (by simp only [List.append_assoc, List.cons_append, List.nil_append]) rfl rfl ?_
  refine n_putF (j := 3) (p := 0) hC (([(b, .inr (7, [.ref q1, .ref q2, .ref q3, .ref q4, .int 0])), (q1, .inl (gca Y 0, 7, .inl (fun _ => 0))), (q2, .inl (gca Y 0, 7, .inl (fun _ => 0)))] ++ (gGrid Y q3 7 7 ++ [(q4, .inl (gca Y 0, 128, .inl (fun _ => 0)))]))) hmn rfl rfl in_X7 tyX7_ok nmX7 (by decide) wF_X7_23 rfl rfl (tyX7_ok 3 (by decide)) rfl rfl (Nat.le_of_ble_eq_true rfl) rfl dX7_init_38 ?_
  refine n_aload_n hC 0 dX7_init_41 rfl rfl ?_
  refine n_iconst hC 0 dX7_init_42 rfl ?_
  refine n_put (j := 4) (p := 0) hC (([(b, .inr (7, [.ref q1, .ref q2, .ref q3, .ref q4, .int 0])), (q1, .inl (gca Y 0, 7, .inl (fun _ => 0))), (q2, .inl (gca Y 0, 7, .inl (fun _ => 0)))] ++ (gGrid Y q3 7 7 ++ [(q4, .inl (gca Y 0, 128, .inl (fun _ => 0)))]))) rfl rfl in_X7 tyX7_ok nmX7 (by decide) wF_X7_26 rfl (tyX7_ok 4 (by decide)) rfl rfl (Nat.le_of_ble_eq_true rfl) rfl dX7_init_43 ?_
  exact n_ret hC (fun i => [q1, q2, q3, q4].getD i 0) hr hQ (by first | rfl | simp) dX7_init_46
end
section
def hblk (Y : gY) (b kq : Nat) (r : Nat → Nat) : va_W := [(b, .inr (1, [.ref kq, .ref (r 1), .ref (r 2), .ref (r 3), .ref (r 4), .ref (r 5), .ref (r 6), .ref (r 14), .ref (r 23), .ref (r 32), .ref (r 33), .int 0, .int 0, .int 0, .int 0, .int 0])), (r 1, .inl (gca Y 0, 7, .inl (fun _ => 0))), (r 2, .inl (gca Y 0, 7, .inl (fun _ => 0))), (r 3, .inl (gca Y 0, 7, .inl (fun _ => 0))), (r 4, .inl (gca Y 0, 7, .inl (fun _ => 0))), (r 5, .inl (gca Y 0, 7, .inl (fun _ => 0))), (r 6, .inr (3, [.ref (r 7), .int 0]))] ++ (gGrid Y (r 7) 6 5 ++ (gGrid Y (r 14) 8 7 ++ (gGrid Y (r 23) 8 7 ++ [(r 32, .inl (gca Y 0, 8, .inl (fun _ => 0))), (r 33, .inl (gca Y 0, 8, .inl (fun _ => 0)))])))

theorem dX1_init_0 : decode cX1_init 0 = .ok (.aload_n 0, 1) := by decide +kernel
theorem dX1_init_1 : decode cX1_init 1 = .ok (.invokespecial 3, 3) := by decide +kernel
theorem dX1_init_4 : decode cX1_init 4 = .ok (.aload_n 0, 1) := by decide +kernel
theorem dX1_init_5 : decode cX1_init 5 = .ok (.bipush 7, 2) := by decide +kernel
theorem dX1_init_7 : decode cX1_init 7 = .ok (.newarray .int, 2) := by decide +kernel
theorem dX1_init_9 : decode cX1_init 9 = .ok (.putfield 9, 3) := by decide +kernel
theorem dX1_init_12 : decode cX1_init 12 = .ok (.aload_n 0, 1) := by decide +kernel
theorem dX1_init_13 : decode cX1_init 13 = .ok (.bipush 7, 2) := by decide +kernel
theorem dX1_init_15 : decode cX1_init 15 = .ok (.newarray .int, 2) := by decide +kernel
theorem dX1_init_17 : decode cX1_init 17 = .ok (.putfield 15, 3) := by decide +kernel
theorem dX1_init_20 : decode cX1_init 20 = .ok (.aload_n 0, 1) := by decide +kernel
theorem dX1_init_21 : decode cX1_init 21 = .ok (.bipush 7, 2) := by decide +kernel
theorem dX1_init_23 : decode cX1_init 23 = .ok (.newarray .int, 2) := by decide +kernel
theorem dX1_init_25 : decode cX1_init 25 = .ok (.putfield 18, 3) := by decide +kernel
theorem dX1_init_28 : decode cX1_init 28 = .ok (.aload_n 0, 1) := by decide +kernel
theorem dX1_init_29 : decode cX1_init 29 = .ok (.bipush 7, 2) := by decide +kernel
theorem dX1_init_31 : decode cX1_init 31 = .ok (.newarray .int, 2) := by decide +kernel
theorem dX1_init_33 : decode cX1_init 33 = .ok (.putfield 21, 3) := by decide +kernel
theorem dX1_init_36 : decode cX1_init 36 = .ok (.aload_n 0, 1) := by decide +kernel
theorem dX1_init_37 : decode cX1_init 37 = .ok (.bipush 7, 2) := by decide +kernel
theorem dX1_init_39 : decode cX1_init 39 = .ok (.newarray .int, 2) := by decide +kernel
theorem dX1_init_41 : decode cX1_init 41 = .ok (.putfield 24, 3) := by decide +kernel
theorem dX1_init_44 : decode cX1_init 44 = .ok (.aload_n 0, 1) := by decide +kernel
theorem dX1_init_45 : decode cX1_init 45 = .ok (.new 27, 3) := by decide +kernel
theorem dX1_init_48 : decode cX1_init 48 = .ok (.dup, 1) := by decide +kernel
theorem dX1_init_49 : decode cX1_init 49 = .ok (.invokespecial 29, 3) := by decide +kernel
theorem dX1_init_52 : decode cX1_init 52 = .ok (.putfield 30, 3) := by decide +kernel
theorem dX1_init_55 : decode cX1_init 55 = .ok (.aload_n 0, 1) := by decide +kernel
theorem dX1_init_56 : decode cX1_init 56 = .ok (.bipush 8, 2) := by decide +kernel
theorem dX1_init_58 : decode cX1_init 58 = .ok (.bipush 7, 2) := by decide +kernel
theorem dX1_init_60 : decode cX1_init 60 = .ok (.multianewarray 34 2, 4) := by decide +kernel
theorem dX1_init_64 : decode cX1_init 64 = .ok (.putfield 36, 3) := by decide +kernel
theorem dX1_init_67 : decode cX1_init 67 = .ok (.aload_n 0, 1) := by decide +kernel
theorem dX1_init_68 : decode cX1_init 68 = .ok (.bipush 8, 2) := by decide +kernel
theorem dX1_init_70 : decode cX1_init 70 = .ok (.bipush 7, 2) := by decide +kernel
theorem dX1_init_72 : decode cX1_init 72 = .ok (.multianewarray 34 2, 4) := by decide +kernel
theorem dX1_init_76 : decode cX1_init 76 = .ok (.putfield 39, 3) := by decide +kernel
theorem dX1_init_79 : decode cX1_init 79 = .ok (.aload_n 0, 1) := by decide +kernel
theorem dX1_init_80 : decode cX1_init 80 = .ok (.bipush 8, 2) := by decide +kernel
theorem dX1_init_82 : decode cX1_init 82 = .ok (.newarray .int, 2) := by decide +kernel
theorem dX1_init_84 : decode cX1_init 84 = .ok (.putfield 42, 3) := by decide +kernel
theorem dX1_init_87 : decode cX1_init 87 = .ok (.aload_n 0, 1) := by decide +kernel
theorem dX1_init_88 : decode cX1_init 88 = .ok (.bipush 8, 2) := by decide +kernel
theorem dX1_init_90 : decode cX1_init 90 = .ok (.newarray .int, 2) := by decide +kernel
theorem dX1_init_92 : decode cX1_init 92 = .ok (.putfield 45, 3) := by decide +kernel
theorem dX1_init_95 : decode cX1_init 95 = .ok (.aload_n 0, 1) := by decide +kernel
theorem dX1_init_96 : decode cX1_init 96 = .ok (.iconst 0, 1) := by decide +kernel
theorem dX1_init_97 : decode cX1_init 97 = .ok (.putfield 48, 3) := by decide +kernel
theorem dX1_init_100 : decode cX1_init 100 = .ok (.aload_n 0, 1) := by decide +kernel
theorem dX1_init_101 : decode cX1_init 101 = .ok (.iconst 0, 1) := by decide +kernel
theorem dX1_init_102 : decode cX1_init 102 = .ok (.putfield 52, 3) := by decide +kernel
theorem dX1_init_105 : decode cX1_init 105 = .ok (.aload_n 0, 1) := by decide +kernel
theorem dX1_init_106 : decode cX1_init 106 = .ok (.iconst 0, 1) := by decide +kernel
theorem dX1_init_107 : decode cX1_init 107 = .ok (.putfield 55, 3) := by decide +kernel
theorem dX1_init_110 : decode cX1_init 110 = .ok (.aload_n 0, 1) := by decide +kernel
theorem dX1_init_111 : decode cX1_init 111 = .ok (.iconst 0, 1) := by decide +kernel
theorem dX1_init_112 : decode cX1_init 112 = .ok (.putfield 58, 3) := by decide +kernel
theorem dX1_init_115 : decode cX1_init 115 = .ok (.aload_n 0, 1) := by decide +kernel
theorem dX1_init_116 : decode cX1_init 116 = .ok (.iconst 0, 1) := by decide +kernel
theorem dX1_init_117 : decode cX1_init 117 = .ok (.putfield 61, 3) := by decide +kernel
theorem dX1_init_120 : decode cX1_init 120 = .ok (.aload_n 0, 1) := by decide +kernel
theorem dX1_init_121 : decode cX1_init 121 = .ok (.aload_n 1, 1) := by decide +kernel
theorem dX1_init_122 : decode cX1_init 122 = .ok (.putfield 64, 3) := by decide +kernel
theorem dX1_init_125 : decode cX1_init 125 = .ok (.return_, 1) := by decide +kernel
set_option maxRecDepth 100000 in
set_option maxHeartbeats 4000000 in
theorem c_X1_init {L : Launch} {Y : gY} {z b kq : Nat} {ws0 : va_W} : Met L yX1_init (gws yX1_init cX1_init 2 none) { frames := 2, cells := 33, slots := 217, locals := 32 } (va_Pc [.ref b, .ref kq] (gPn Y z (ws0 ++ [(b, .inr (1, [.null, .null, .null, .null, .null, .null, .null, .null, .null, .null, .null, .int 0, .int 0, .int 0, .int 0, .int 0]))]))) (gQn Y z (fun (r : Nat → Nat) => ws0 ++ hblk Y b kq r)) 33 217 (gAz z) := by
  refine gmetn (lv := [(0, .ref b), (1, .ref kq)]) (rm := { frames := 2, cells := 33, slots := 217, locals := 32 }) "GuestStaff$House" (by decide) rfl rfl (Nat.le_of_ble_eq_true rfl) rfl (fun X hC hmn hr hQ => ?_)
  refine n_aload_n hC 0 dX1_init_0 rfl rfl ?_
  refine n_obj hC wM_X1_3 wobj dX1_init_1 (by decide) (Nat.le_of_ble_eq_true rfl) ?_
  refine n_aload_n hC 0 dX1_init_4 rfl rfl ?_
  refine n_bipush hC 7 dX1_init_5 rfl ?_
  refine n_newa (at_ := .int) (ty := .int) (t0 := 0) hC 7 rfl wR_int rfl (fun _ _ h => h) rfl (by decide) rfl (by decide) (by decide) (by decide) dX1_init_7 (fun q1 => ?_)
  refine n_eq (ws' := ws0 ++ [(b, .inr (1, [.null, .null, .null, .null, .null, .null, .null, .null, .null, .null, .null, .int 0, .int 0, .int 0, .int 0, .int 0])), (q1, .inl (gca Y 0, 7, .inl (fun _ => 0)))]) 1 7 (by simp only [List.append_assoc, List.cons_append, List.nil_append]) rfl rfl ?_
  refine n_putF (j := 1) (p := 0) hC ([(b, .inr (1, [.null, .ref q1, .null, .null, .null, .null, .null, .null, .null, .null, .null, .int 0, .int 0, .int 0, .int 0, .int 0])), (q1, .inl (gca Y 0, 7, .inl (fun _ => 0)))]) hmn rfl rfl in_X1 tyX1_ok nmX1 (by decide) wF_X1_9 rfl rfl (tyX1_ok 1 (by decide)) rfl rfl (Nat.le_of_ble_eq_true rfl) rfl dX1_init_9 ?_
  refine n_aload_n hC 0 dX1_init_12 rfl rfl ?_
  refine n_bipush hC 7 dX1_init_13 rfl ?_
  refine n_newa (at_ := .int) (ty := .int) (t0 := 0) hC 7 rfl wR_int rfl (fun _ _ h => h) rfl (by decide) rfl (by decide) (by decide) (by decide) dX1_init_15 (fun q2 => ?_)
  refine n_eq (ws' := ws0 ++ [(b, .inr (1, [.null, .ref q1, .null, .null, .null, .null, .null, .null, .null, .null, .null, .int 0, .int 0, .int 0, .int 0, .int 0])), (q1, .inl (gca Y 0, 7, .inl (fun _ => 0))), (q2, .inl (gca Y 0, 7, .inl (fun _ => 0)))]) 2 14 (by simp only [List.append_assoc, List.cons_append, List.nil_append]) rfl rfl ?_
  refine n_putF (j := 2) (p := 0) hC ([(b, .inr (1, [.null, .ref q1, .ref q2, .null, .null, .null, .null, .null, .null, .null, .null, .int 0, .int 0, .int 0, .int 0, .int 0])), (q1, .inl (gca Y 0, 7, .inl (fun _ => 0))), (q2, .inl (gca Y 0, 7, .inl (fun _ => 0)))]) hmn rfl rfl in_X1 tyX1_ok nmX1 (by decide) wF_X1_15 rfl rfl (tyX1_ok 2 (by decide)) rfl rfl (Nat.le_of_ble_eq_true rfl) rfl dX1_init_17 ?_
  refine n_aload_n hC 0 dX1_init_20 rfl rfl ?_
  refine n_bipush hC 7 dX1_init_21 rfl ?_
  refine n_newa (at_ := .int) (ty := .int) (t0 := 0) hC 7 rfl wR_int rfl (fun _ _ h => h) rfl (by decide) rfl (by decide) (by decide) (by decide) dX1_init_23 (fun q3 => ?_)
  refine n_eq (ws' := ws0 ++ [(b, .inr (1, [.null, .ref q1, .ref q2, .null, .null, .null, .null, .null, .null, .null, .null, .int 0, .int 0, .int 0, .int 0, .int 0])), (q1, .inl (gca Y 0, 7, .inl (fun _ => 0))), (q2, .inl (gca Y 0, 7, .inl (fun _ => 0))), (q3, .inl (gca Y 0, 7, .inl (fun _ => 0)))]) 3 21 (by simp only [List.append_assoc, List.cons_append, List.nil_append]) rfl rfl ?_
  refine n_putF (j := 3) (p := 0) hC ([(b, .inr (1, [.null, .ref q1, .ref q2, .ref q3, .null, .null, .null, .null, .null, .null, .null, .int 0, .int 0, .int 0, .int 0, .int 0])), (q1, .inl (gca Y 0, 7, .inl (fun _ => 0))), (q2, .inl (gca Y 0, 7, .inl (fun _ => 0))), (q3, .inl (gca Y 0, 7, .inl (fun _ => 0)))]) hmn rfl rfl in_X1 tyX1_ok nmX1 (by decide) wF_X1_18 rfl rfl (tyX1_ok 3 (by decide)) rfl rfl (Nat.le_of_ble_eq_true rfl) rfl dX1_init_25 ?_
  refine n_aload_n hC 0 dX1_init_28 rfl rfl ?_
  refine n_bipush hC 7 dX1_init_29 rfl ?_
  refine n_newa (at_ := .int) (ty := .int) (t0 := 0) hC 7 rfl wR_int rfl (fun _ _ h => h) rfl (by decide) rfl (by decide) (by decide) (by decide) dX1_init_31 (fun q4 => ?_)
  refine n_eq (ws' := ws0 ++ [(b, .inr (1, [.null, .ref q1, .ref q2, .ref q3, .null, .null, .null, .null, .null, .null, .null, .int 0, .int 0, .int 0, .int 0, .int 0])), (q1, .inl (gca Y 0, 7, .inl (fun _ => 0))), (q2, .inl (gca Y 0, 7, .inl (fun _ => 0))), (q3, .inl (gca Y 0, 7, .inl (fun _ => 0))), (q4, .inl (gca Y 0, 7, .inl (fun _ => 0)))]) 4 28 (by simp only [List.append_assoc, List.cons_append, List.nil_append]) rfl rfl ?_
  refine n_putF (j := 4) (p := 0) hC ([(b, .inr (1, [.null, .ref q1, .ref q2, .ref q3, .ref q4, .null, .null, .null, .null, .null, .null, .int 0, .int 0, .int 0, .int 0, .int 0])), (q1, .inl (gca Y 0, 7, .inl (fun _ => 0))), (q2, .inl (gca Y 0, 7, .inl (fun _ => 0))), (q3, .inl (gca Y 0, 7, .inl (fun _ => 0))), (q4, .inl (gca Y 0, 7, .inl (fun _ => 0)))]) hmn rfl rfl in_X1 tyX1_ok nmX1 (by decide) wF_X1_21 rfl rfl (tyX1_ok 4 (by decide)) rfl rfl (Nat.le_of_ble_eq_true rfl) rfl dX1_init_33 ?_
  refine n_aload_n hC 0 dX1_init_36 rfl rfl ?_
  refine n_bipush hC 7 dX1_init_37 rfl ?_
  refine n_newa (at_ := .int) (ty := .int) (t0 := 0) hC 7 rfl wR_int rfl (fun _ _ h => h) rfl (by decide) rfl (by decide) (by decide) (by decide) dX1_init_39 (fun q5 => ?_)
  refine n_eq (ws' := ws0 ++ [(b, .inr (1, [.null, .ref q1, .ref q2, .ref q3, .ref q4, .null, .null, .null, .null, .null, .null, .int 0, .int 0, .int 0, .int 0, .int 0])), (q1, .inl (gca Y 0, 7, .inl (fun _ => 0))), (q2, .inl (gca Y 0, 7, .inl (fun _ => 0))), (q3, .inl (gca Y 0, 7, .inl (fun _ => 0))), (q4, .inl (gca Y 0, 7, .inl (fun _ => 0))), (q5, .inl (gca Y 0, 7, .inl (fun _ => 0)))]) 5 35 (by simp only [List.append_assoc, List.cons_append, List.nil_append]) rfl rfl ?_
  refine n_putF (j := 5) (p := 0) hC ([(b, .inr (1, [.null, .ref q1, .ref q2, .ref q3, .ref q4, .ref q5, .null, .null, .null, .null, .null, .int 0, .int 0, .int 0, .int 0, .int 0])), (q1, .inl (gca Y 0, 7, .inl (fun _ => 0))), (q2, .inl (gca Y 0, 7, .inl (fun _ => 0))), (q3, .inl (gca Y 0, 7, .inl (fun _ => 0))), (q4, .inl (gca Y 0, 7, .inl (fun _ => 0))), (q5, .inl (gca Y 0, 7, .inl (fun _ => 0)))]) hmn rfl rfl in_X1 tyX1_ok nmX1 (by decide) wF_X1_24 rfl rfl (tyX1_ok 5 (by decide)) rfl rfl (Nat.le_of_ble_eq_true rfl) rfl dX1_init_41 ?_
  refine n_aload_n hC 0 dX1_init_44 rfl rfl ?_
  refine n_new (ci := 3) hC [.null, .int 0] rfl in_X3 tyX3_ok wL_X1_27 wT_X3 wI_X3 hfs_X3 (by decide) (by decide) dX1_init_45 (fun q6 => ?_)
  refine n_eq (ws' := ws0 ++ [(b, .inr (1, [.null, .ref q1, .ref q2, .ref q3, .ref q4, .ref q5, .null, .null, .null, .null, .null, .int 0, .int 0, .int 0, .int 0, .int 0])), (q1, .inl (gca Y 0, 7, .inl (fun _ => 0))), (q2, .inl (gca Y 0, 7, .inl (fun _ => 0))), (q3, .inl (gca Y 0, 7, .inl (fun _ => 0))), (q4, .inl (gca Y 0, 7, .inl (fun _ => 0))), (q5, .inl (gca Y 0, 7, .inl (fun _ => 0))), (q6, .inr (3, [.null, .int 0]))]) 6 37 (by simp only [List.append_assoc, List.cons_append, List.nil_append]) rfl rfl ?_
  refine n_dup hC dX1_init_48 rfl ?_
  refine n_eq (ws' := ws0 ++ ([(b, .inr (1, [.null, .ref q1, .ref q2, .ref q3, .ref q4, .ref q5, .null, .null, .null, .null, .null, .int 0, .int 0, .int 0, .int 0, .int 0])), (q1, .inl (gca Y 0, 7, .inl (fun _ => 0))), (q2, .inl (gca Y 0, 7, .inl (fun _ => 0))), (q3, .inl (gca Y 0, 7, .inl (fun _ => 0))), (q4, .inl (gca Y 0, 7, .inl (fun _ => 0))), (q5, .inl (gca Y 0, 7, .inl (fun _ => 0)))] ++ [(q6, .inr (3, [.null, .int 0]))])) 6 37 (by simp only [List.append_assoc, List.cons_append, List.nil_append]) rfl rfl ?_
  refine n_call (k := 6) (n := 37) (l := [(b, .inr (1, [.null, .ref q1, .ref q2, .ref q3, .ref q4, .ref q5, .null, .null, .null, .null, .null, .int 0, .int 0, .int 0, .int 0, .int 0])), (q1, .inl (gca Y 0, 7, .inl (fun _ => 0))), (q2, .inl (gca Y 0, 7, .inl (fun _ => 0))), (q3, .inl (gca Y 0, 7, .inl (fun _ => 0))), (q4, .inl (gca Y 0, 7, .inl (fun _ => 0))), (q5, .inl (gca Y 0, 7, .inl (fun _ => 0)))]) (As := []) (rest := [.ref q6, .ref b]) hC mt_X3_init rfl mi_X3_init (Or.inr ⟨_, wG_X1_29⟩) c_X3_init ⟨by decide, by decide, by decide, by decide⟩ rfl rfl (Nat.le_of_ble_eq_true rfl) dX1_init_49 (fun r7 => ?_)
  refine n_eq (ws' := ws0 ++ ([(b, .inr (1, [.null, .ref q1, .ref q2, .ref q3, .ref q4, .ref q5, .null, .null, .null, .null, .null, .int 0, .int 0, .int 0, .int 0, .int 0])), (q1, .inl (gca Y 0, 7, .inl (fun _ => 0))), (q2, .inl (gca Y 0, 7, .inl (fun _ => 0))), (q3, .inl (gca Y 0, 7, .inl (fun _ => 0))), (q4, .inl (gca Y 0, 7, .inl (fun _ => 0))), (q5, .inl (gca Y 0, 7, .inl (fun _ => 0)))] ++ ([(q6, .inr (3, [.ref r7, .int 0]))] ++ gGrid Y r7 6 5))) 13 73 (by simp only [List.append_assoc, List.cons_append, List.nil_append]) rfl rfl ?_
  refine n_putF (j := 6) (p := 0) hC (([(b, .inr (1, [.null, .ref q1, .ref q2, .ref q3, .ref q4, .ref q5, .ref q6, .null, .null, .null, .null, .int 0, .int 0, .int 0, .int 0, .int 0])), (q1, .inl (gca Y 0, 7, .inl (fun _ => 0))), (q2, .inl (gca Y 0, 7, .inl (fun _ => 0))), (q3, .inl (gca Y 0, 7, .inl (fun _ => 0))), (q4, .inl (gca Y 0, 7, .inl (fun _ => 0))), (q5, .inl (gca Y 0, 7, .inl (fun _ => 0)))] ++ ([(q6, .inr (3, [.ref r7, .int 0]))] ++ gGrid Y r7 6 5))) hmn rfl rfl in_X1 tyX1_ok nmX1 (by decide) wF_X1_30 rfl rfl (tyX1_ok 6 (by decide)) rfl rfl (Nat.le_of_ble_eq_true rfl) rfl dX1_init_52 ?_
  refine n_aload_n hC 0 dX1_init_55 rfl rfl ?_
  refine n_bipush hC 8 dX1_init_56 rfl ?_
  refine n_bipush hC 7 dX1_init_58 rfl ?_
  refine n_mna hC 8 7 wL_X1_34 wR_int (by decide) (by decide) rfl rfl (by decide) (by decide) (by decide) (by decide) (by decide) dX1_init_60 (fun q8 => ?_)
  refine n_eq (ws' := ws0 ++ ([(b, .inr (1, [.null, .ref q1, .ref q2, .ref q3, .ref q4, .ref q5, .ref q6, .null, .null, .null, .null, .int 0, .int 0, .int 0, .int 0, .int 0])), (q1, .inl (gca Y 0, 7, .inl (fun _ => 0))), (q2, .inl (gca Y 0, 7, .inl (fun _ => 0))), (q3, .inl (gca Y 0, 7, .inl (fun _ => 0))), (q4, .inl (gca Y 0, 7, .inl (fun _ => 0))), (q5, .inl (gca Y 0, 7, .inl (fun _ => 0)))] ++ (([(q6, .inr (3, [.ref r7, .int 0]))] ++ gGrid Y r7 6 5) ++ gGrid Y q8 8 7))) 22 137 (by simp only [List.append_assoc, List.cons_append, List.nil_append]) rfl rfl ?_
  refine n_putF (j := 7) (p := 0) hC (([(b, .inr (1, [.null, .ref q1, .ref q2, .ref q3, .ref q4, .ref q5, .ref q6, .ref q8, .null, .null, .null, .int 0, .int 0, .int 0, .int 0, .int 0])), (q1, .inl (gca Y 0, 7, .inl (fun _ => 0))), (q2, .inl (gca Y 0, 7, .inl (fun _ => 0))), (q3, .inl (gca Y 0, 7, .inl (fun _ => 0))), (q4, .inl (gca Y 0, 7, .inl (fun _ => 0))), (q5, .inl (gca Y 0, 7, .inl (fun _ => 0)))] ++ (([(q6, .inr (3, [.ref r7, .int 0]))] ++ gGrid Y r7 6 5) ++ gGrid Y q8 8 7))) hmn rfl rfl in_X1 tyX1_ok nmX1 (by decide) wF_X1_36 rfl rfl (tyX1_ok 7 (by decide)) rfl rfl (Nat.le_of_ble_eq_true rfl) rfl dX1_init_64 ?_
  refine n_aload_n hC 0 dX1_init_67 rfl rfl ?_
  refine n_bipush hC 8 dX1_init_68 rfl ?_
  refine n_bipush hC 7 dX1_init_70 rfl ?_
  refine n_mna hC 8 7 wL_X1_34 wR_int (by decide) (by decide) rfl rfl (by decide) (by decide) (by decide) (by decide) (by decide) dX1_init_72 (fun q9 => ?_)
  refine n_eq (ws' := ws0 ++ ([(b, .inr (1, [.null, .ref q1, .ref q2, .ref q3, .ref q4, .ref q5, .ref q6, .ref q8, .null, .null, .null, .int 0, .int 0, .int 0, .int 0, .int 0])), (q1, .inl (gca Y 0, 7, .inl (fun _ => 0))), (q2, .inl (gca Y 0, 7, .inl (fun _ => 0))), (q3, .inl (gca Y 0, 7, .inl (fun _ => 0))), (q4, .inl (gca Y 0, 7, .inl (fun _ => 0))), (q5, .inl (gca Y 0, 7, .inl (fun _ => 0)))] ++ (([(q6, .inr (3, [.ref r7, .int 0]))] ++ gGrid Y r7 6 5) ++ (gGrid Y q8 8 7 ++ gGrid Y q9 8 7)))) 31 201 (by simp only [List.append_assoc, List.cons_append, List.nil_append]) rfl rfl ?_
  refine n_putF (j := 8) (p := 0) hC (([(b, .inr (1, [.null, .ref q1, .ref q2, .ref q3, .ref q4, .ref q5, .ref q6, .ref q8, .ref q9, .null, .null, .int 0, .int 0, .int 0, .int 0, .int 0])), (q1, .inl (gca Y 0, 7, .inl (fun _ => 0))), (q2, .inl (gca Y 0, 7, .inl (fun _ => 0))), (q3, .inl (gca Y 0, 7, .inl (fun _ => 0))), (q4, .inl (gca Y 0, 7, .inl (fun _ => 0))), (q5, .inl (gca Y 0, 7, .inl (fun _ => 0)))] ++ (([(q6, .inr (3, [.ref r7, .int 0]))] ++ gGrid Y r7 6 5) ++ (gGrid Y q8 8 7 ++ gGrid Y q9 8 7)))) hmn rfl rfl in_X1 tyX1_ok nmX1 (by decide) wF_X1_39 rfl rfl (tyX1_ok 8 (by decide)) rfl rfl (Nat.le_of_ble_eq_true rfl) rfl dX1_init_76 ?_
  refine n_aload_n hC 0 dX1_init_79 rfl rfl ?_
  refine n_bipush hC 8 dX1_init_80 rfl ?_
  refine n_newa (at_ := .int) (ty := .int) (t0 := 0) hC 8 rfl wR_int rfl (fun _ _ h => h) rfl (by decide) rfl (by decide) (by decide) (by decide) dX1_init_82 (fun q10 => ?_)
  refine n_eq (ws' := ws0 ++ ([(b, .inr (1, [.null, .ref q1, .ref q2, .ref q3, .ref q4, .ref q5, .ref q6, .ref q8, .ref q9, .null, .null, .int 0, .int 0, .int 0, .int 0, .int 0])), (q1, .inl (gca Y 0, 7, .inl (fun _ => 0))), (q2, .inl (gca Y 0, 7, .inl (fun _ => 0))), (q3, .inl (gca Y 0, 7, .inl (fun _ => 0))), (q4, .inl (gca Y 0, 7, .inl (fun _ => 0))), (q5, .inl (gca Y 0, 7, .inl (fun _ => 0)))] ++ (([(q6, .inr (3, [.ref r7, .int 0]))] ++ gGrid Y r7 6 5) ++ (gGrid Y q8 8 7 ++ (gGrid Y q9 8 7 ++ [(q10, .inl (gca Y 0, 8, .inl (fun _ => 0)))]))))) 32 209 (by simp only [List.append_assoc, List.cons_append, List.nil_append]) rfl rfl ?_
  refine n_putF (j := 9) (p := 0) hC (([(b, .inr (1, [.null, .ref q1, .ref q2, .ref q3, .ref q4, .ref q5, .ref q6, .ref q8, .ref q9, .ref q10, .null, .int 0, .int 0, .int 0, .int 0, .int 0])), (q1, .inl (gca Y 0, 7, .inl (fun _ => 0))), (q2, .inl (gca Y 0, 7, .inl (fun _ => 0))), (q3, .inl (gca Y 0, 7, .inl (fun _ => 0))), (q4, .inl (gca Y 0, 7, .inl (fun _ => 0))), (q5, .inl (gca Y 0, 7, .inl (fun _ => 0)))] ++ (([(q6, .inr (3, [.ref r7, .int 0]))] ++ gGrid Y r7 6 5) ++ (gGrid Y q8 8 7 ++ (gGrid Y q9 8 7 ++ [(q10, .inl (gca Y 0, 8, .inl (fun _ => 0)))]))))) hmn rfl rfl in_X1 tyX1_ok nmX1 (by decide) wF_X1_42 rfl rfl (tyX1_ok 9 (by decide)) rfl rfl (Nat.le_of_ble_eq_true rfl) rfl dX1_init_84 ?_
  refine n_aload_n hC 0 dX1_init_87 rfl rfl ?_
  refine n_bipush hC 8 dX1_init_88 rfl ?_
  refine n_newa (at_ := .int) (ty := .int) (t0 := 0) hC 8 rfl wR_int rfl (fun _ _ h => h) rfl (by decide) rfl (by decide) (by decide) (by decide) dX1_init_90 (fun q11 => ?_)
  refine n_eq (ws' := ws0 ++ ([(b, .inr (1, [.null, .ref q1, .ref q2, .ref q3, .ref q4, .ref q5, .ref q6, .ref q8, .ref q9, .ref q10, .null, .int 0, .int 0, .int 0, .int 0, .int 0])), (q1, .inl (gca Y 0, 7, .inl (fun _ => 0))), (q2, .inl (gca Y 0, 7, .inl (fun _ => 0))), (q3, .inl (gca Y 0, 7, .inl (fun _ => 0))), (q4, .inl (gca Y 0, 7, .inl (fun _ => 0))), (q5, .inl (gca Y 0, 7, .inl (fun _ => 0)))] ++ (([(q6, .inr (3, [.ref r7, .int 0]))] ++ gGrid Y r7 6 5) ++ (gGrid Y q8 8 7 ++ (gGrid Y q9 8 7 ++ [(q10, .inl (gca Y 0, 8, .inl (fun _ => 0))), (q11, .inl (gca Y 0, 8, .inl (fun _ => 0)))]))))) 33 217 (by simp only [List.append_assoc, List.cons_append, List.nil_append]) rfl rfl ?_
  refine n_putF (j := 10) (p := 0) hC (([(b, .inr (1, [.null, .ref q1, .ref q2, .ref q3, .ref q4, .ref q5, .ref q6, .ref q8, .ref q9, .ref q10, .ref q11, .int 0, .int 0, .int 0, .int 0, .int 0])), (q1, .inl (gca Y 0, 7, .inl (fun _ => 0))), (q2, .inl (gca Y 0, 7, .inl (fun _ => 0))), (q3, .inl (gca Y 0, 7, .inl (fun _ => 0))), (q4, .inl (gca Y 0, 7, .inl (fun _ => 0))), (q5, .inl (gca Y 0, 7, .inl (fun _ => 0)))] ++ (([(q6, .inr (3, [.ref r7, .int 0]))] ++ gGrid Y r7 6 5) ++ (gGrid Y q8 8 7 ++ (gGrid Y q9 8 7 ++ [(q10, .inl (gca Y 0, 8, .inl (fun _ => 0))), (q11, .inl (gca Y 0, 8, .inl (fun _ => 0)))]))))) hmn rfl rfl in_X1 tyX1_ok nmX1 (by decide) wF_X1_45 rfl rfl (tyX1_ok 10 (by decide)) rfl rfl (Nat.le_of_ble_eq_true rfl) rfl dX1_init_92 ?_
  refine n_aload_n hC 0 dX1_init_95 rfl rfl ?_
  refine n_iconst hC 0 dX1_init_96 rfl ?_
  refine n_put (j := 11) (p := 0) hC (([(b, .inr (1, [.null, .ref q1, .ref q2, .ref q3, .ref q4, .ref q5, .ref q6, .ref q8, .ref q9, .ref q10, .ref q11, .int 0, .int 0, .int 0, .int 0, .int 0])), (q1, .inl (gca Y 0, 7, .inl (fun _ => 0))), (q2, .inl (gca Y 0, 7, .inl (fun _ => 0))), (q3, .inl (gca Y 0, 7, .inl (fun _ => 0))), (q4, .inl (gca Y 0, 7, .inl (fun _ => 0))), (q5, .inl (gca Y 0, 7, .inl (fun _ => 0)))] ++ (([(q6, .inr (3, [.ref r7, .int 0]))] ++ gGrid Y r7 6 5) ++ (gGrid Y q8 8 7 ++ (gGrid Y q9 8 7 ++ [(q10, .inl (gca Y 0, 8, .inl (fun _ => 0))), (q11, .inl (gca Y 0, 8, .inl (fun _ => 0)))]))))) rfl rfl in_X1 tyX1_ok nmX1 (by decide) wF_X1_48 rfl (tyX1_ok 11 (by decide)) rfl rfl (Nat.le_of_ble_eq_true rfl) rfl dX1_init_97 ?_
  refine n_aload_n hC 0 dX1_init_100 rfl rfl ?_
  refine n_iconst hC 0 dX1_init_101 rfl ?_
  refine n_put (j := 12) (p := 0) hC (([(b, .inr (1, [.null, .ref q1, .ref q2, .ref q3, .ref q4, .ref q5, .ref q6, .ref q8, .ref q9, .ref q10, .ref q11, .int 0, .int 0, .int 0, .int 0, .int 0])), (q1, .inl (gca Y 0, 7, .inl (fun _ => 0))), (q2, .inl (gca Y 0, 7, .inl (fun _ => 0))), (q3, .inl (gca Y 0, 7, .inl (fun _ => 0))), (q4, .inl (gca Y 0, 7, .inl (fun _ => 0))), (q5, .inl (gca Y 0, 7, .inl (fun _ => 0)))] ++ (([(q6, .inr (3, [.ref r7, .int 0]))] ++ gGrid Y r7 6 5) ++ (gGrid Y q8 8 7 ++ (gGrid Y q9 8 7 ++ [(q10, .inl (gca Y 0, 8, .inl (fun _ => 0))), (q11, .inl (gca Y 0, 8, .inl (fun _ => 0)))]))))) rfl rfl in_X1 tyX1_ok nmX1 (by decide) wF_X1_52 rfl (tyX1_ok 12 (by decide)) rfl rfl (Nat.le_of_ble_eq_true rfl) rfl dX1_init_102 ?_
  refine n_aload_n hC 0 dX1_init_105 rfl rfl ?_
  refine n_iconst hC 0 dX1_init_106 rfl ?_
  refine n_put (j := 13) (p := 0) hC (([(b, .inr (1, [.null, .ref q1, .ref q2, .ref q3, .ref q4, .ref q5, .ref q6, .ref q8, .ref q9, .ref q10, .ref q11, .int 0, .int 0, .int 0, .int 0, .int 0])), (q1, .inl (gca Y 0, 7, .inl (fun _ => 0))), (q2, .inl (gca Y 0, 7, .inl (fun _ => 0))), (q3, .inl (gca Y 0, 7, .inl (fun _ => 0))), (q4, .inl (gca Y 0, 7, .inl (fun _ => 0))), (q5, .inl (gca Y 0, 7, .inl (fun _ => 0)))] ++ (([(q6, .inr (3, [.ref r7, .int 0]))] ++ gGrid Y r7 6 5) ++ (gGrid Y q8 8 7 ++ (gGrid Y q9 8 7 ++ [(q10, .inl (gca Y 0, 8, .inl (fun _ => 0))), (q11, .inl (gca Y 0, 8, .inl (fun _ => 0)))]))))) rfl rfl in_X1 tyX1_ok nmX1 (by decide) wF_X1_55 rfl (tyX1_ok 13 (by decide)) rfl rfl (Nat.le_of_ble_eq_true rfl) rfl dX1_init_107 ?_
  refine n_aload_n hC 0 dX1_init_110 rfl rfl ?_
  refine n_iconst hC 0 dX1_init_111 rfl ?_
  refine n_put (j := 14) (p := 0) hC (([(b, .inr (1, [.null, .ref q1, .ref q2, .ref q3, .ref q4, .ref q5, .ref q6, .ref q8, .ref q9, .ref q10, .ref q11, .int 0, .int 0, .int 0, .int 0, .int 0])), (q1, .inl (gca Y 0, 7, .inl (fun _ => 0))), (q2, .inl (gca Y 0, 7, .inl (fun _ => 0))), (q3, .inl (gca Y 0, 7, .inl (fun _ => 0))), (q4, .inl (gca Y 0, 7, .inl (fun _ => 0))), (q5, .inl (gca Y 0, 7, .inl (fun _ => 0)))] ++ (([(q6, .inr (3, [.ref r7, .int 0]))] ++ gGrid Y r7 6 5) ++ (gGrid Y q8 8 7 ++ (gGrid Y q9 8 7 ++ [(q10, .inl (gca Y 0, 8, .inl (fun _ => 0))), (q11, .inl (gca Y 0, 8, .inl (fun _ => 0)))]))))) rfl rfl in_X1 tyX1_ok nmX1 (by decide) wF_X1_58 rfl (tyX1_ok 14 (by decide)) rfl rfl (Nat.le_of_ble_eq_true rfl) rfl dX1_init_112 ?_
  refine n_aload_n hC 0 dX1_init_115 rfl rfl ?_
  refine n_iconst hC 0 dX1_init_116 rfl ?_
  refine n_put (j := 15) (p := 0) hC (([(b, .inr (1, [.null, .ref q1, .ref q2, .ref q3, .ref q4, .ref q5, .ref q6, .ref q8, .ref q9, .ref q10, .ref q11, .int 0, .int 0, .int 0, .int 0, .int 0])), (q1, .inl (gca Y 0, 7, .inl (fun _ => 0))), (q2, .inl (gca Y 0, 7, .inl (fun _ => 0))), (q3, .inl (gca Y 0, 7, .inl (fun _ => 0))), (q4, .inl (gca Y 0, 7, .inl (fun _ => 0))), (q5, .inl (gca Y 0, 7, .inl (fun _ => 0)))] ++ (([(q6, .inr (3, [.ref r7, .int 0]))] ++ gGrid Y r7 6 5) ++ (gGrid Y q8 8 7 ++ (gGrid Y q9 8 7 ++ [(q10, .inl (gca Y 0, 8, .inl (fun _ => 0))), (q11, .inl (gca Y 0, 8, .inl (fun _ => 0)))]))))) rfl rfl in_X1 tyX1_ok nmX1 (by decide) wF_X1_61 rfl (tyX1_ok 15 (by decide)) rfl rfl (Nat.le_of_ble_eq_true rfl) rfl dX1_init_117 ?_
  refine n_aload_n hC 0 dX1_init_120 rfl rfl ?_
  refine n_aload_n hC 1 dX1_init_121 rfl rfl ?_
  refine n_putF (j := 0) (p := 0) hC (([(b, .inr (1, [.ref kq, .ref q1, .ref q2, .ref q3, .ref q4, .ref q5, .ref q6, .ref q8, .ref q9, .ref q10, .ref q11, .int 0, .int 0, .int 0, .int 0, .int 0])), (q1, .inl (gca Y 0, 7, .inl (fun _ => 0))), (q2, .inl (gca Y 0, 7, .inl (fun _ => 0))), (q3, .inl (gca Y 0, 7, .inl (fun _ => 0))), (q4, .inl (gca Y 0, 7, .inl (fun _ => 0))), (q5, .inl (gca Y 0, 7, .inl (fun _ => 0)))] ++ (([(q6, .inr (3, [.ref r7, .int 0]))] ++ gGrid Y r7 6 5) ++ (gGrid Y q8 8 7 ++ (gGrid Y q9 8 7 ++ [(q10, .inl (gca Y 0, 8, .inl (fun _ => 0))), (q11, .inl (gca Y 0, 8, .inl (fun _ => 0)))]))))) hmn rfl rfl in_X1 tyX1_ok nmX1 (by decide) wF_X1_64 rfl rfl (tyX1_ok 0 (by decide)) rfl rfl (Nat.le_of_ble_eq_true rfl) rfl dX1_init_122 ?_
  exact n_ret hC (fun o => match o with | 1 => q1 | 2 => q2 | 3 => q3 | 4 => q4 | 5 => q5 | 6 => q6 | 7 => r7 | 14 => q8 | 23 => q9 | 32 => q10 | _ => q11) hr hQ (by first | rfl | simp) dX1_init_125
end
section
def mblk (Y : gY) (b : Nat) (r : Nat → Nat) : va_W := [(b, .inr (11, [.ref (r 0), .long 0, .long 1, .ref (r 1), .ref (r 2), .int 0, .int 0, .int 0, .int 0, .int 0, .ref (r 3), .int 0, .int 0, .ref (r 4), .int 0, .ref (r 5), .int 0, .ref (r 6), .ref (r 7), .int 0, .int 0, .int 0, .ref (r 8), .ref (r 9), .ref (r 10), .ref (r 11), .ref (r 12), .ref (r 13)]))] ++ [(r 0, .inl (gca Y 0, 70, .inl (fun _ => 0))), (r 1, .inl (gca Y 0, 3, .inl (fun _ => 0))), (r 2, .inl (gca Y 0, 150, .inl (fun _ => 0))), (r 3, .inl (gca Y 0, 2, .inl (fun _ => 0))), (r 4, .inl (gca Y 0, 128, .inl (fun _ => 0))), (r 5, .inl (gca Y 0, 7, .inl (fun _ => 0))), (r 6, .inl (gca Y 0, 7, .inl (fun _ => 0))), (r 7, .inl (gca Y 0, 7, .inl (fun _ => 0))), (r 8, .inl (gca Y 0, 7, .inl (fun _ => 0))), (r 9, .inl (gca Y 0, 16, .inl (fun _ => 0))), (r 10, .inl (gca Y 1, 2, .inl (fun _ => 0))), (r 11, .inl (gca Y 0, 140, .inl (fun _ => 0))), (r 12, .inl (gca Y 0, 256, .inl (fun _ => 0))), (r 13, .inl (gca Y 0, 2, .inl (fun _ => 0)))]

theorem dX11_init_0 : decode cX11_init 0 = .ok (.aload_n 0, 1) := by decide +kernel
theorem dX11_init_1 : decode cX11_init 1 = .ok (.invokespecial 1, 3) := by decide +kernel
theorem dX11_init_4 : decode cX11_init 4 = .ok (.aload_n 0, 1) := by decide +kernel
theorem dX11_init_5 : decode cX11_init 5 = .ok (.bipush 70, 2) := by decide +kernel
theorem dX11_init_7 : decode cX11_init 7 = .ok (.newarray .int, 2) := by decide +kernel
theorem dX11_init_9 : decode cX11_init 9 = .ok (.putfield 7, 3) := by decide +kernel
theorem dX11_init_12 : decode cX11_init 12 = .ok (.aload_n 0, 1) := by decide +kernel
theorem dX11_init_13 : decode cX11_init 13 = .ok (.lconst 1, 1) := by decide +kernel
theorem dX11_init_14 : decode cX11_init 14 = .ok (.putfield 13, 3) := by decide +kernel
theorem dX11_init_17 : decode cX11_init 17 = .ok (.aload_n 0, 1) := by decide +kernel
theorem dX11_init_18 : decode cX11_init 18 = .ok (.iconst 3, 1) := by decide +kernel
theorem dX11_init_19 : decode cX11_init 19 = .ok (.newarray .int, 2) := by decide +kernel
theorem dX11_init_21 : decode cX11_init 21 = .ok (.putfield 17, 3) := by decide +kernel
theorem dX11_init_24 : decode cX11_init 24 = .ok (.aload_n 0, 1) := by decide +kernel
theorem dX11_init_25 : decode cX11_init 25 = .ok (.sipush 150, 3) := by decide +kernel
theorem dX11_init_28 : decode cX11_init 28 = .ok (.newarray .int, 2) := by decide +kernel
theorem dX11_init_30 : decode cX11_init 30 = .ok (.putfield 20, 3) := by decide +kernel
theorem dX11_init_33 : decode cX11_init 33 = .ok (.aload_n 0, 1) := by decide +kernel
theorem dX11_init_34 : decode cX11_init 34 = .ok (.iconst 2, 1) := by decide +kernel
theorem dX11_init_35 : decode cX11_init 35 = .ok (.newarray .int, 2) := by decide +kernel
theorem dX11_init_37 : decode cX11_init 37 = .ok (.putfield 23, 3) := by decide +kernel
theorem dX11_init_40 : decode cX11_init 40 = .ok (.aload_n 0, 1) := by decide +kernel
theorem dX11_init_41 : decode cX11_init 41 = .ok (.sipush 128, 3) := by decide +kernel
theorem dX11_init_44 : decode cX11_init 44 = .ok (.newarray .int, 2) := by decide +kernel
theorem dX11_init_46 : decode cX11_init 46 = .ok (.putfield 26, 3) := by decide +kernel
theorem dX11_init_49 : decode cX11_init 49 = .ok (.aload_n 0, 1) := by decide +kernel
theorem dX11_init_50 : decode cX11_init 50 = .ok (.bipush 7, 2) := by decide +kernel
theorem dX11_init_52 : decode cX11_init 52 = .ok (.newarray .int, 2) := by decide +kernel
theorem dX11_init_54 : decode cX11_init 54 = .ok (.putfield 29, 3) := by decide +kernel
theorem dX11_init_57 : decode cX11_init 57 = .ok (.aload_n 0, 1) := by decide +kernel
theorem dX11_init_58 : decode cX11_init 58 = .ok (.bipush 7, 2) := by decide +kernel
theorem dX11_init_60 : decode cX11_init 60 = .ok (.newarray .int, 2) := by decide +kernel
theorem dX11_init_62 : decode cX11_init 62 = .ok (.putfield 32, 3) := by decide +kernel
theorem dX11_init_65 : decode cX11_init 65 = .ok (.aload_n 0, 1) := by decide +kernel
theorem dX11_init_66 : decode cX11_init 66 = .ok (.bipush 7, 2) := by decide +kernel
theorem dX11_init_68 : decode cX11_init 68 = .ok (.newarray .int, 2) := by decide +kernel
theorem dX11_init_70 : decode cX11_init 70 = .ok (.putfield 35, 3) := by decide +kernel
theorem dX11_init_73 : decode cX11_init 73 = .ok (.aload_n 0, 1) := by decide +kernel
theorem dX11_init_74 : decode cX11_init 74 = .ok (.bipush 7, 2) := by decide +kernel
theorem dX11_init_76 : decode cX11_init 76 = .ok (.newarray .int, 2) := by decide +kernel
theorem dX11_init_78 : decode cX11_init 78 = .ok (.putfield 38, 3) := by decide +kernel
theorem dX11_init_81 : decode cX11_init 81 = .ok (.aload_n 0, 1) := by decide +kernel
theorem dX11_init_82 : decode cX11_init 82 = .ok (.bipush 16, 2) := by decide +kernel
theorem dX11_init_84 : decode cX11_init 84 = .ok (.newarray .int, 2) := by decide +kernel
theorem dX11_init_86 : decode cX11_init 86 = .ok (.putfield 41, 3) := by decide +kernel
theorem dX11_init_89 : decode cX11_init 89 = .ok (.aload_n 0, 1) := by decide +kernel
theorem dX11_init_90 : decode cX11_init 90 = .ok (.iconst 2, 1) := by decide +kernel
theorem dX11_init_91 : decode cX11_init 91 = .ok (.newarray .boolean, 2) := by decide +kernel
theorem dX11_init_93 : decode cX11_init 93 = .ok (.putfield 44, 3) := by decide +kernel
theorem dX11_init_96 : decode cX11_init 96 = .ok (.aload_n 0, 1) := by decide +kernel
theorem dX11_init_97 : decode cX11_init 97 = .ok (.sipush 140, 3) := by decide +kernel
theorem dX11_init_100 : decode cX11_init 100 = .ok (.newarray .int, 2) := by decide +kernel
theorem dX11_init_102 : decode cX11_init 102 = .ok (.putfield 48, 3) := by decide +kernel
theorem dX11_init_105 : decode cX11_init 105 = .ok (.aload_n 0, 1) := by decide +kernel
theorem dX11_init_106 : decode cX11_init 106 = .ok (.sipush 256, 3) := by decide +kernel
theorem dX11_init_109 : decode cX11_init 109 = .ok (.newarray .int, 2) := by decide +kernel
theorem dX11_init_111 : decode cX11_init 111 = .ok (.putfield 51, 3) := by decide +kernel
theorem dX11_init_114 : decode cX11_init 114 = .ok (.aload_n 0, 1) := by decide +kernel
theorem dX11_init_115 : decode cX11_init 115 = .ok (.iconst 2, 1) := by decide +kernel
theorem dX11_init_116 : decode cX11_init 116 = .ok (.newarray .int, 2) := by decide +kernel
theorem dX11_init_118 : decode cX11_init 118 = .ok (.putfield 54, 3) := by decide +kernel
theorem dX11_init_121 : decode cX11_init 121 = .ok (.return_, 1) := by decide +kernel
set_option maxRecDepth 100000 in
set_option maxHeartbeats 4000000 in
theorem c_X11_init {L : Launch} {Y : gY} {z b : Nat} {ws0 : va_W} : Met L yX11_init (gws yX11_init cX11_init 1 none) { frames := 1, cells := 14, slots := 797, locals := 12 } (va_Pc [.ref b] (gPn Y z (ws0 ++ [(b, .inr (11, [.null, .long 0, .long 0, .null, .null, .int 0, .int 0, .int 0, .int 0, .int 0, .null, .int 0, .int 0, .null, .int 0, .null, .int 0, .null, .null, .int 0, .int 0, .int 0, .null, .null, .null, .null, .null, .null]))]))) (gQn Y z (fun (r : Nat → Nat) => ws0 ++ mblk Y b r)) 14 797 (gAz z) := by
  refine gmetn (lv := [(0, .ref b)]) (rm := { frames := 1, cells := 14, slots := 797, locals := 12 }) "GuestStaffModel" (by decide) rfl rfl (Nat.le_of_ble_eq_true rfl) rfl (fun X hC hmn hr hQ => ?_)
  refine n_aload_n hC 0 dX11_init_0 rfl rfl ?_
  refine n_obj hC wM_X11_1 wobj dX11_init_1 (by decide) (Nat.le_of_ble_eq_true rfl) ?_
  refine n_aload_n hC 0 dX11_init_4 rfl rfl ?_
  refine n_bipush hC 70 dX11_init_5 rfl ?_
  refine n_newa (at_ := .int) (ty := .int) (t0 := 0) hC 70 rfl wR_int rfl (fun _ _ h => h) rfl (by decide) rfl (by decide) (by decide) (by decide) dX11_init_7 (fun q1 => ?_)
  refine n_eq (ws' := ws0 ++ [(b, .inr (11, [.null, .long 0, .long 0, .null, .null, .int 0, .int 0, .int 0, .int 0, .int 0, .null, .int 0, .int 0, .null, .int 0, .null, .int 0, .null, .null, .int 0, .int 0, .int 0, .null, .null, .null, .null, .null, .null])), (q1, .inl (gca Y 0, 70, .inl (fun _ => 0)))]) 1 70 (by simp only [List.append_assoc, List.cons_append, List.nil_append]) rfl rfl ?_
  refine n_putF (j := 0) (p := 0) hC ([(b, .inr (11, [.ref q1, .long 0, .long 0, .null, .null, .int 0, .int 0, .int 0, .int 0, .int 0, .null, .int 0, .int 0, .null, .int 0, .null, .int 0, .null, .null, .int 0, .int 0, .int 0, .null, .null, .null, .null, .null, .null])), (q1, .inl (gca Y 0, 70, .inl (fun _ => 0)))]) hmn rfl rfl in_X11 tyX11_ok nmX11 (by decide) wF_X11_7 rfl rfl (tyX11_ok 0 (by decide)) rfl rfl (Nat.le_of_ble_eq_true rfl) rfl dX11_init_9 ?_
  refine n_aload_n hC 0 dX11_init_12 rfl rfl ?_
  refine n_lconst hC 1 dX11_init_13 rfl ?_
  refine n_put (j := 2) (p := 0) hC ([(b, .inr (11, [.ref q1, .long 0, .long 1, .null, .null, .int 0, .int 0, .int 0, .int 0, .int 0, .null, .int 0, .int 0, .null, .int 0, .null, .int 0, .null, .null, .int 0, .int 0, .int 0, .null, .null, .null, .null, .null, .null])), (q1, .inl (gca Y 0, 70, .inl (fun _ => 0)))]) rfl rfl in_X11 tyX11_ok nmX11 (by decide) wF_X11_13 rfl (tyX11_ok 2 (by decide)) rfl rfl (Nat.le_of_ble_eq_true rfl) rfl dX11_init_14 ?_
  refine n_aload_n hC 0 dX11_init_17 rfl rfl ?_
  refine n_iconst hC 3 dX11_init_18 rfl ?_
  refine n_newa (at_ := .int) (ty := .int) (t0 := 0) hC 3 rfl wR_int rfl (fun _ _ h => h) rfl (by decide) rfl (by decide) (by decide) (by decide) dX11_init_19 (fun q2 => ?_)
  refine n_eq (ws' := ws0 ++ [(b, .inr (11, [.ref q1, .long 0, .long 1, .null, .null, .int 0, .int 0, .int 0, .int 0, .int 0, .null, .int 0, .int 0, .null, .int 0, .null, .int 0, .null, .null, .int 0, .int 0, .int 0, .null, .null, .null, .null, .null, .null])), (q1, .inl (gca Y 0, 70, .inl (fun _ => 0))), (q2, .inl (gca Y 0, 3, .inl (fun _ => 0)))]) 2 73 (by simp only [List.append_assoc, List.cons_append, List.nil_append]) rfl rfl ?_
  refine n_putF (j := 3) (p := 0) hC ([(b, .inr (11, [.ref q1, .long 0, .long 1, .ref q2, .null, .int 0, .int 0, .int 0, .int 0, .int 0, .null, .int 0, .int 0, .null, .int 0, .null, .int 0, .null, .null, .int 0, .int 0, .int 0, .null, .null, .null, .null, .null, .null])), (q1, .inl (gca Y 0, 70, .inl (fun _ => 0))), (q2, .inl (gca Y 0, 3, .inl (fun _ => 0)))]) hmn rfl rfl in_X11 tyX11_ok nmX11 (by decide) wF_X11_17 rfl rfl (tyX11_ok 3 (by decide)) rfl rfl (Nat.le_of_ble_eq_true rfl) rfl dX11_init_21 ?_
  refine n_aload_n hC 0 dX11_init_24 rfl rfl ?_
  refine n_sipush hC 150 dX11_init_25 rfl ?_
  refine n_newa (at_ := .int) (ty := .int) (t0 := 0) hC 150 rfl wR_int rfl (fun _ _ h => h) rfl (by decide) rfl (by decide) (by decide) (by decide) dX11_init_28 (fun q3 => ?_)
  refine n_eq (ws' := ws0 ++ [(b, .inr (11, [.ref q1, .long 0, .long 1, .ref q2, .null, .int 0, .int 0, .int 0, .int 0, .int 0, .null, .int 0, .int 0, .null, .int 0, .null, .int 0, .null, .null, .int 0, .int 0, .int 0, .null, .null, .null, .null, .null, .null])), (q1, .inl (gca Y 0, 70, .inl (fun _ => 0))), (q2, .inl (gca Y 0, 3, .inl (fun _ => 0))), (q3, .inl (gca Y 0, 150, .inl (fun _ => 0)))]) 3 223 (by simp only [List.append_assoc, List.cons_append, List.nil_append]) rfl rfl ?_
  refine n_putF (j := 4) (p := 0) hC ([(b, .inr (11, [.ref q1, .long 0, .long 1, .ref q2, .ref q3, .int 0, .int 0, .int 0, .int 0, .int 0, .null, .int 0, .int 0, .null, .int 0, .null, .int 0, .null, .null, .int 0, .int 0, .int 0, .null, .null, .null, .null, .null, .null])), (q1, .inl (gca Y 0, 70, .inl (fun _ => 0))), (q2, .inl (gca Y 0, 3, .inl (fun _ => 0))), (q3, .inl (gca Y 0, 150, .inl (fun _ => 0)))]) hmn rfl rfl in_X11 tyX11_ok nmX11 (by decide) wF_X11_20 rfl rfl (tyX11_ok 4 (by decide)) rfl rfl (Nat.le_of_ble_eq_true rfl) rfl dX11_init_30 ?_
  refine n_aload_n hC 0 dX11_init_33 rfl rfl ?_
  refine n_iconst hC 2 dX11_init_34 rfl ?_
  refine n_newa (at_ := .int) (ty := .int) (t0 := 0) hC 2 rfl wR_int rfl (fun _ _ h => h) rfl (by decide) rfl (by decide) (by decide) (by decide) dX11_init_35 (fun q4 => ?_)
  refine n_eq (ws' := ws0 ++ [(b, .inr (11, [.ref q1, .long 0, .long 1, .ref q2, .ref q3, .int 0, .int 0, .int 0, .int 0, .int 0, .null, .int 0, .int 0, .null, .int 0, .null, .int 0, .null, .null, .int 0, .int 0, .int 0, .null, .null, .null, .null, .null, .null])), (q1, .inl (gca Y 0, 70, .inl (fun _ => 0))), (q2, .inl (gca Y 0, 3, .inl (fun _ => 0))), (q3, .inl (gca Y 0, 150, .inl (fun _ => 0))), (q4, .inl (gca Y 0, 2, .inl (fun _ => 0)))]) 4 225 (by simp only [List.append_assoc, List.cons_append, List.nil_append]) rfl rfl ?_
  refine n_putF (j := 10) (p := 0) hC ([(b, .inr (11, [.ref q1, .long 0, .long 1, .ref q2, .ref q3, .int 0, .int 0, .int 0, .int 0, .int 0, .ref q4, .int 0, .int 0, .null, .int 0, .null, .int 0, .null, .null, .int 0, .int 0, .int 0, .null, .null, .null, .null, .null, .null])), (q1, .inl (gca Y 0, 70, .inl (fun _ => 0))), (q2, .inl (gca Y 0, 3, .inl (fun _ => 0))), (q3, .inl (gca Y 0, 150, .inl (fun _ => 0))), (q4, .inl (gca Y 0, 2, .inl (fun _ => 0)))]) hmn rfl rfl in_X11 tyX11_ok nmX11 (by decide) wF_X11_23 rfl rfl (tyX11_ok 10 (by decide)) rfl rfl (Nat.le_of_ble_eq_true rfl) rfl dX11_init_37 ?_
  refine n_aload_n hC 0 dX11_init_40 rfl rfl ?_
  refine n_sipush hC 128 dX11_init_41 rfl ?_
  refine n_newa (at_ := .int) (ty := .int) (t0 := 0) hC 128 rfl wR_int rfl (fun _ _ h => h) rfl (by decide) rfl (by decide) (by decide) (by decide) dX11_init_44 (fun q5 => ?_)
  refine n_eq (ws' := ws0 ++ [(b, .inr (11, [.ref q1, .long 0, .long 1, .ref q2, .ref q3, .int 0, .int 0, .int 0, .int 0, .int 0, .ref q4, .int 0, .int 0, .null, .int 0, .null, .int 0, .null, .null, .int 0, .int 0, .int 0, .null, .null, .null, .null, .null, .null])), (q1, .inl (gca Y 0, 70, .inl (fun _ => 0))), (q2, .inl (gca Y 0, 3, .inl (fun _ => 0))), (q3, .inl (gca Y 0, 150, .inl (fun _ => 0))), (q4, .inl (gca Y 0, 2, .inl (fun _ => 0))), (q5, .inl (gca Y 0, 128, .inl (fun _ => 0)))]) 5 353 (by simp only [List.append_assoc, List.cons_append, List.nil_append]) rfl rfl ?_
  refine n_putF (j := 13) (p := 0) hC ([(b, .inr (11, [.ref q1, .long 0, .long 1, .ref q2, .ref q3, .int 0, .int 0, .int 0, .int 0, .int 0, .ref q4, .int 0, .int 0, .ref q5, .int 0, .null, .int 0, .null, .null, .int 0, .int 0, .int 0, .null, .null, .null, .null, .null, .null])), (q1, .inl (gca Y 0, 70, .inl (fun _ => 0))), (q2, .inl (gca Y 0, 3, .inl (fun _ => 0))), (q3, .inl (gca Y 0, 150, .inl (fun _ => 0))), (q4, .inl (gca Y 0, 2, .inl (fun _ => 0))), (q5, .inl (gca Y 0, 128, .inl (fun _ => 0)))]) hmn rfl rfl in_X11 tyX11_ok nmX11 (by decide) wF_X11_26 rfl rfl (tyX11_ok 13 (by decide)) rfl rfl (Nat.le_of_ble_eq_true rfl) rfl dX11_init_46 ?_
  refine n_aload_n hC 0 dX11_init_49 rfl rfl ?_
  refine n_bipush hC 7 dX11_init_50 rfl ?_
  refine n_newa (at_ := .int) (ty := .int) (t0 := 0) hC 7 rfl wR_int rfl (fun _ _ h => h) rfl (by decide) rfl (by decide) (by decide) (by decide) dX11_init_52 (fun q6 => ?_)
  refine n_eq (ws' := ws0 ++ [(b, .inr (11, [.ref q1, .long 0, .long 1, .ref q2, .ref q3, .int 0, .int 0, .int 0, .int 0, .int 0, .ref q4, .int 0, .int 0, .ref q5, .int 0, .null, .int 0, .null, .null, .int 0, .int 0, .int 0, .null, .null, .null, .null, .null, .null])), (q1, .inl (gca Y 0, 70, .inl (fun _ => 0))), (q2, .inl (gca Y 0, 3, .inl (fun _ => 0))), (q3, .inl (gca Y 0, 150, .inl (fun _ => 0))), (q4, .inl (gca Y 0, 2, .inl (fun _ => 0))), (q5, .inl (gca Y 0, 128, .inl (fun _ => 0))), (q6, .inl (gca Y 0, 7, .inl (fun _ => 0)))]) 6 360 (by simp only [List.append_assoc, List.cons_append, List.nil_append]) rfl rfl ?_
  refine n_putF (j := 15) (p := 0) hC ([(b, .inr (11, [.ref q1, .long 0, .long 1, .ref q2, .ref q3, .int 0, .int 0, .int 0, .int 0, .int 0, .ref q4, .int 0, .int 0, .ref q5, .int 0, .ref q6, .int 0, .null, .null, .int 0, .int 0, .int 0, .null, .null, .null, .null, .null, .null])), (q1, .inl (gca Y 0, 70, .inl (fun _ => 0))), (q2, .inl (gca Y 0, 3, .inl (fun _ => 0))), (q3, .inl (gca Y 0, 150, .inl (fun _ => 0))), (q4, .inl (gca Y 0, 2, .inl (fun _ => 0))), (q5, .inl (gca Y 0, 128, .inl (fun _ => 0))), (q6, .inl (gca Y 0, 7, .inl (fun _ => 0)))]) hmn rfl rfl in_X11 tyX11_ok nmX11 (by decide) wF_X11_29 rfl rfl (tyX11_ok 15 (by decide)) rfl rfl (Nat.le_of_ble_eq_true rfl) rfl dX11_init_54 ?_
  refine n_aload_n hC 0 dX11_init_57 rfl rfl ?_
  refine n_bipush hC 7 dX11_init_58 rfl ?_
  refine n_newa (at_ := .int) (ty := .int) (t0 := 0) hC 7 rfl wR_int rfl (fun _ _ h => h) rfl (by decide) rfl (by decide) (by decide) (by decide) dX11_init_60 (fun q7 => ?_)
  refine n_eq (ws' := ws0 ++ [(b, .inr (11, [.ref q1, .long 0, .long 1, .ref q2, .ref q3, .int 0, .int 0, .int 0, .int 0, .int 0, .ref q4, .int 0, .int 0, .ref q5, .int 0, .ref q6, .int 0, .null, .null, .int 0, .int 0, .int 0, .null, .null, .null, .null, .null, .null])), (q1, .inl (gca Y 0, 70, .inl (fun _ => 0))), (q2, .inl (gca Y 0, 3, .inl (fun _ => 0))), (q3, .inl (gca Y 0, 150, .inl (fun _ => 0))), (q4, .inl (gca Y 0, 2, .inl (fun _ => 0))), (q5, .inl (gca Y 0, 128, .inl (fun _ => 0))), (q6, .inl (gca Y 0, 7, .inl (fun _ => 0))), (q7, .inl (gca Y 0, 7, .inl (fun _ => 0)))]) 7 367 (by simp only [List.append_assoc, List.cons_append, List.nil_append]) rfl rfl ?_
  refine n_putF (j := 17) (p := 0) hC ([(b, .inr (11, [.ref q1, .long 0, .long 1, .ref q2, .ref q3, .int 0, .int 0, .int 0, .int 0, .int 0, .ref q4, .int 0, .int 0, .ref q5, .int 0, .ref q6, .int 0, .ref q7, .null, .int 0, .int 0, .int 0, .null, .null, .null, .null, .null, .null])), (q1, .inl (gca Y 0, 70, .inl (fun _ => 0))), (q2, .inl (gca Y 0, 3, .inl (fun _ => 0))), (q3, .inl (gca Y 0, 150, .inl (fun _ => 0))), (q4, .inl (gca Y 0, 2, .inl (fun _ => 0))), (q5, .inl (gca Y 0, 128, .inl (fun _ => 0))), (q6, .inl (gca Y 0, 7, .inl (fun _ => 0))), (q7, .inl (gca Y 0, 7, .inl (fun _ => 0)))]) hmn rfl rfl in_X11 tyX11_ok nmX11 (by decide) wF_X11_32 rfl rfl (tyX11_ok 17 (by decide)) rfl rfl (Nat.le_of_ble_eq_true rfl) rfl dX11_init_62 ?_
  refine n_aload_n hC 0 dX11_init_65 rfl rfl ?_
  refine n_bipush hC 7 dX11_init_66 rfl ?_
  refine n_newa (at_ := .int) (ty := .int) (t0 := 0) hC 7 rfl wR_int rfl (fun _ _ h => h) rfl (by decide) rfl (by decide) (by decide) (by decide) dX11_init_68 (fun q8 => ?_)
  refine n_eq (ws' := ws0 ++ [(b, .inr (11, [.ref q1, .long 0, .long 1, .ref q2, .ref q3, .int 0, .int 0, .int 0, .int 0, .int 0, .ref q4, .int 0, .int 0, .ref q5, .int 0, .ref q6, .int 0, .ref q7, .null, .int 0, .int 0, .int 0, .null, .null, .null, .null, .null, .null])), (q1, .inl (gca Y 0, 70, .inl (fun _ => 0))), (q2, .inl (gca Y 0, 3, .inl (fun _ => 0))), (q3, .inl (gca Y 0, 150, .inl (fun _ => 0))), (q4, .inl (gca Y 0, 2, .inl (fun _ => 0))), (q5, .inl (gca Y 0, 128, .inl (fun _ => 0))), (q6, .inl (gca Y 0, 7, .inl (fun _ => 0))), (q7, .inl (gca Y 0, 7, .inl (fun _ => 0))), (q8, .inl (gca Y 0, 7, .inl (fun _ => 0)))]) 8 374 (by simp only [List.append_assoc, List.cons_append, List.nil_append]) rfl rfl ?_
  refine n_putF (j := 18) (p := 0) hC ([(b, .inr (11, [.ref q1, .long 0, .long 1, .ref q2, .ref q3, .int 0, .int 0, .int 0, .int 0, .int 0, .ref q4, .int 0, .int 0, .ref q5, .int 0, .ref q6, .int 0, .ref q7, .ref q8, .int 0, .int 0, .int 0, .null, .null, .null, .null, .null, .null])), (q1, .inl (gca Y 0, 70, .inl (fun _ => 0))), (q2, .inl (gca Y 0, 3, .inl (fun _ => 0))), (q3, .inl (gca Y 0, 150, .inl (fun _ => 0))), (q4, .inl (gca Y 0, 2, .inl (fun _ => 0))), (q5, .inl (gca Y 0, 128, .inl (fun _ => 0))), (q6, .inl (gca Y 0, 7, .inl (fun _ => 0))), (q7, .inl (gca Y 0, 7, .inl (fun _ => 0))), (q8, .inl (gca Y 0, 7, .inl (fun _ => 0)))]) hmn rfl rfl in_X11 tyX11_ok nmX11 (by decide) wF_X11_35 rfl rfl (tyX11_ok 18 (by decide)) rfl rfl (Nat.le_of_ble_eq_true rfl) rfl dX11_init_70 ?_
  refine n_aload_n hC 0 dX11_init_73 rfl rfl ?_
  refine n_bipush hC 7 dX11_init_74 rfl ?_
  refine n_newa (at_ := .int) (ty := .int) (t0 := 0) hC 7 rfl wR_int rfl (fun _ _ h => h) rfl (by decide) rfl (by decide) (by decide) (by decide) dX11_init_76 (fun q9 => ?_)
  refine n_eq (ws' := ws0 ++ [(b, .inr (11, [.ref q1, .long 0, .long 1, .ref q2, .ref q3, .int 0, .int 0, .int 0, .int 0, .int 0, .ref q4, .int 0, .int 0, .ref q5, .int 0, .ref q6, .int 0, .ref q7, .ref q8, .int 0, .int 0, .int 0, .null, .null, .null, .null, .null, .null])), (q1, .inl (gca Y 0, 70, .inl (fun _ => 0))), (q2, .inl (gca Y 0, 3, .inl (fun _ => 0))), (q3, .inl (gca Y 0, 150, .inl (fun _ => 0))), (q4, .inl (gca Y 0, 2, .inl (fun _ => 0))), (q5, .inl (gca Y 0, 128, .inl (fun _ => 0))), (q6, .inl (gca Y 0, 7, .inl (fun _ => 0))), (q7, .inl (gca Y 0, 7, .inl (fun _ => 0))), (q8, .inl (gca Y 0, 7, .inl (fun _ => 0))), (q9, .inl (gca Y 0, 7, .inl (fun _ => 0)))]) 9 381 (by simp only [List.append_assoc, List.cons_append, List.nil_append]) rfl rfl ?_
  refine n_putF (j := 22) (p := 0) hC ([(b, .inr (11, [.ref q1, .long 0, .long 1, .ref q2, .ref q3, .int 0, .int 0, .int 0, .int 0, .int 0, .ref q4, .int 0, .int 0, .ref q5, .int 0, .ref q6, .int 0, .ref q7, .ref q8, .int 0, .int 0, .int 0, .ref q9, .null, .null, .null, .null, .null])), (q1, .inl (gca Y 0, 70, .inl (fun _ => 0))), (q2, .inl (gca Y 0, 3, .inl (fun _ => 0))), (q3, .inl (gca Y 0, 150, .inl (fun _ => 0))), (q4, .inl (gca Y 0, 2, .inl (fun _ => 0))), (q5, .inl (gca Y 0, 128, .inl (fun _ => 0))), (q6, .inl (gca Y 0, 7, .inl (fun _ => 0))), (q7, .inl (gca Y 0, 7, .inl (fun _ => 0))), (q8, .inl (gca Y 0, 7, .inl (fun _ => 0))), (q9, .inl (gca Y 0, 7, .inl (fun _ => 0)))]) hmn rfl rfl in_X11 tyX11_ok nmX11 (by decide) wF_X11_38 rfl rfl (tyX11_ok 22 (by decide)) rfl rfl (Nat.le_of_ble_eq_true rfl) rfl dX11_init_78 ?_
  refine n_aload_n hC 0 dX11_init_81 rfl rfl ?_
  refine n_bipush hC 16 dX11_init_82 rfl ?_
  refine n_newa (at_ := .int) (ty := .int) (t0 := 0) hC 16 rfl wR_int rfl (fun _ _ h => h) rfl (by decide) rfl (by decide) (by decide) (by decide) dX11_init_84 (fun q10 => ?_)
  refine n_eq (ws' := ws0 ++ [(b, .inr (11, [.ref q1, .long 0, .long 1, .ref q2, .ref q3, .int 0, .int 0, .int 0, .int 0, .int 0, .ref q4, .int 0, .int 0, .ref q5, .int 0, .ref q6, .int 0, .ref q7, .ref q8, .int 0, .int 0, .int 0, .ref q9, .null, .null, .null, .null, .null])), (q1, .inl (gca Y 0, 70, .inl (fun _ => 0))), (q2, .inl (gca Y 0, 3, .inl (fun _ => 0))), (q3, .inl (gca Y 0, 150, .inl (fun _ => 0))), (q4, .inl (gca Y 0, 2, .inl (fun _ => 0))), (q5, .inl (gca Y 0, 128, .inl (fun _ => 0))), (q6, .inl (gca Y 0, 7, .inl (fun _ => 0))), (q7, .inl (gca Y 0, 7, .inl (fun _ => 0))), (q8, .inl (gca Y 0, 7, .inl (fun _ => 0))), (q9, .inl (gca Y 0, 7, .inl (fun _ => 0))), (q10, .inl (gca Y 0, 16, .inl (fun _ => 0)))]) 10 397 (by simp only [List.append_assoc, List.cons_append, List.nil_append]) rfl rfl ?_
  refine n_putF (j := 23) (p := 0) hC ([(b, .inr (11, [.ref q1, .long 0, .long 1, .ref q2, .ref q3, .int 0, .int 0, .int 0, .int 0, .int 0, .ref q4, .int 0, .int 0, .ref q5, .int 0, .ref q6, .int 0, .ref q7, .ref q8, .int 0, .int 0, .int 0, .ref q9, .ref q10, .null, .null, .null, .null])), (q1, .inl (gca Y 0, 70, .inl (fun _ => 0))), (q2, .inl (gca Y 0, 3, .inl (fun _ => 0))), (q3, .inl (gca Y 0, 150, .inl (fun _ => 0))), (q4, .inl (gca Y 0, 2, .inl (fun _ => 0))), (q5, .inl (gca Y 0, 128, .inl (fun _ => 0))), (q6, .inl (gca Y 0, 7, .inl (fun _ => 0))), (q7, .inl (gca Y 0, 7, .inl (fun _ => 0))), (q8, .inl (gca Y 0, 7, .inl (fun _ => 0))), (q9, .inl (gca Y 0, 7, .inl (fun _ => 0))), (q10, .inl (gca Y 0, 16, .inl (fun _ => 0)))]) hmn rfl rfl in_X11 tyX11_ok nmX11 (by decide) wF_X11_41 rfl rfl (tyX11_ok 23 (by decide)) rfl rfl (Nat.le_of_ble_eq_true rfl) rfl dX11_init_86 ?_
  refine n_aload_n hC 0 dX11_init_89 rfl rfl ?_
  refine n_iconst hC 2 dX11_init_90 rfl ?_
  refine n_newa (at_ := .boolean) (ty := .boolean) (t0 := 1) hC 2 rfl wR_boolean rfl (fun _ _ h => h) rfl (by decide) rfl (by decide) (by decide) (by decide) dX11_init_91 (fun q11 => ?_)
  refine n_eq (ws' := ws0 ++ [(b, .inr (11, [.ref q1, .long 0, .long 1, .ref q2, .ref q3, .int 0, .int 0, .int 0, .int 0, .int 0, .ref q4, .int 0, .int 0, .ref q5, .int 0, .ref q6, .int 0, .ref q7, .ref q8, .int 0, .int 0, .int 0, .ref q9, .ref q10, .null, .null, .null, .null])), (q1, .inl (gca Y 0, 70, .inl (fun _ => 0))), (q2, .inl (gca Y 0, 3, .inl (fun _ => 0))), (q3, .inl (gca Y 0, 150, .inl (fun _ => 0))), (q4, .inl (gca Y 0, 2, .inl (fun _ => 0))), (q5, .inl (gca Y 0, 128, .inl (fun _ => 0))), (q6, .inl (gca Y 0, 7, .inl (fun _ => 0))), (q7, .inl (gca Y 0, 7, .inl (fun _ => 0))), (q8, .inl (gca Y 0, 7, .inl (fun _ => 0))), (q9, .inl (gca Y 0, 7, .inl (fun _ => 0))), (q10, .inl (gca Y 0, 16, .inl (fun _ => 0))), (q11, .inl (gca Y 1, 2, .inl (fun _ => 0)))]) 11 399 (by simp only [List.append_assoc, List.cons_append, List.nil_append]) rfl rfl ?_
  refine n_putF (j := 24) (p := 0) hC ([(b, .inr (11, [.ref q1, .long 0, .long 1, .ref q2, .ref q3, .int 0, .int 0, .int 0, .int 0, .int 0, .ref q4, .int 0, .int 0, .ref q5, .int 0, .ref q6, .int 0, .ref q7, .ref q8, .int 0, .int 0, .int 0, .ref q9, .ref q10, .ref q11, .null, .null, .null])), (q1, .inl (gca Y 0, 70, .inl (fun _ => 0))), (q2, .inl (gca Y 0, 3, .inl (fun _ => 0))), (q3, .inl (gca Y 0, 150, .inl (fun _ => 0))), (q4, .inl (gca Y 0, 2, .inl (fun _ => 0))), (q5, .inl (gca Y 0, 128, .inl (fun _ => 0))), (q6, .inl (gca Y 0, 7, .inl (fun _ => 0))), (q7, .inl (gca Y 0, 7, .inl (fun _ => 0))), (q8, .inl (gca Y 0, 7, .inl (fun _ => 0))), (q9, .inl (gca Y 0, 7, .inl (fun _ => 0))), (q10, .inl (gca Y 0, 16, .inl (fun _ => 0))), (q11, .inl (gca Y 1, 2, .inl (fun _ => 0)))]) hmn rfl rfl in_X11 tyX11_ok nmX11 (by decide) wF_X11_44 rfl rfl (tyX11_ok 24 (by decide)) rfl rfl (Nat.le_of_ble_eq_true rfl) rfl dX11_init_93 ?_
  refine n_aload_n hC 0 dX11_init_96 rfl rfl ?_
  refine n_sipush hC 140 dX11_init_97 rfl ?_
  refine n_newa (at_ := .int) (ty := .int) (t0 := 0) hC 140 rfl wR_int rfl (fun _ _ h => h) rfl (by decide) rfl (by decide) (by decide) (by decide) dX11_init_100 (fun q12 => ?_)
  refine n_eq (ws' := ws0 ++ [(b, .inr (11, [.ref q1, .long 0, .long 1, .ref q2, .ref q3, .int 0, .int 0, .int 0, .int 0, .int 0, .ref q4, .int 0, .int 0, .ref q5, .int 0, .ref q6, .int 0, .ref q7, .ref q8, .int 0, .int 0, .int 0, .ref q9, .ref q10, .ref q11, .null, .null, .null])), (q1, .inl (gca Y 0, 70, .inl (fun _ => 0))), (q2, .inl (gca Y 0, 3, .inl (fun _ => 0))), (q3, .inl (gca Y 0, 150, .inl (fun _ => 0))), (q4, .inl (gca Y 0, 2, .inl (fun _ => 0))), (q5, .inl (gca Y 0, 128, .inl (fun _ => 0))), (q6, .inl (gca Y 0, 7, .inl (fun _ => 0))), (q7, .inl (gca Y 0, 7, .inl (fun _ => 0))), (q8, .inl (gca Y 0, 7, .inl (fun _ => 0))), (q9, .inl (gca Y 0, 7, .inl (fun _ => 0))), (q10, .inl (gca Y 0, 16, .inl (fun _ => 0))), (q11, .inl (gca Y 1, 2, .inl (fun _ => 0))), (q12, .inl (gca Y 0, 140, .inl (fun _ => 0)))]) 12 539 (by simp only [List.append_assoc, List.cons_append, List.nil_append]) rfl rfl ?_
  refine n_putF (j := 25) (p := 0) hC ([(b, .inr (11, [.ref q1, .long 0, .long 1, .ref q2, .ref q3, .int 0, .int 0, .int 0, .int 0, .int 0, .ref q4, .int 0, .int 0, .ref q5, .int 0, .ref q6, .int 0, .ref q7, .ref q8, .int 0, .int 0, .int 0, .ref q9, .ref q10, .ref q11, .ref q12, .null, .null])), (q1, .inl (gca Y 0, 70, .inl (fun _ => 0))), (q2, .inl (gca Y 0, 3, .inl (fun _ => 0))), (q3, .inl (gca Y 0, 150, .inl (fun _ => 0))), (q4, .inl (gca Y 0, 2, .inl (fun _ => 0))), (q5, .inl (gca Y 0, 128, .inl (fun _ => 0))), (q6, .inl (gca Y 0, 7, .inl (fun _ => 0))), (q7, .inl (gca Y 0, 7, .inl (fun _ => 0))), (q8, .inl (gca Y 0, 7, .inl (fun _ => 0))), (q9, .inl (gca Y 0, 7, .inl (fun _ => 0))), (q10, .inl (gca Y 0, 16, .inl (fun _ => 0))), (q11, .inl (gca Y 1, 2, .inl (fun _ => 0))), (q12, .inl (gca Y 0, 140, .inl (fun _ => 0)))]) hmn rfl rfl in_X11 tyX11_ok nmX11 (by decide) wF_X11_48 rfl rfl (tyX11_ok 25 (by decide)) rfl rfl (Nat.le_of_ble_eq_true rfl) rfl dX11_init_102 ?_
  refine n_aload_n hC 0 dX11_init_105 rfl rfl ?_
  refine n_sipush hC 256 dX11_init_106 rfl ?_
  refine n_newa (at_ := .int) (ty := .int) (t0 := 0) hC 256 rfl wR_int rfl (fun _ _ h => h) rfl (by decide) rfl (by decide) (by decide) (by decide) dX11_init_109 (fun q13 => ?_)
  refine n_eq (ws' := ws0 ++ [(b, .inr (11, [.ref q1, .long 0, .long 1, .ref q2, .ref q3, .int 0, .int 0, .int 0, .int 0, .int 0, .ref q4, .int 0, .int 0, .ref q5, .int 0, .ref q6, .int 0, .ref q7, .ref q8, .int 0, .int 0, .int 0, .ref q9, .ref q10, .ref q11, .ref q12, .null, .null])), (q1, .inl (gca Y 0, 70, .inl (fun _ => 0))), (q2, .inl (gca Y 0, 3, .inl (fun _ => 0))), (q3, .inl (gca Y 0, 150, .inl (fun _ => 0))), (q4, .inl (gca Y 0, 2, .inl (fun _ => 0))), (q5, .inl (gca Y 0, 128, .inl (fun _ => 0))), (q6, .inl (gca Y 0, 7, .inl (fun _ => 0))), (q7, .inl (gca Y 0, 7, .inl (fun _ => 0))), (q8, .inl (gca Y 0, 7, .inl (fun _ => 0))), (q9, .inl (gca Y 0, 7, .inl (fun _ => 0))), (q10, .inl (gca Y 0, 16, .inl (fun _ => 0))), (q11, .inl (gca Y 1, 2, .inl (fun _ => 0))), (q12, .inl (gca Y 0, 140, .inl (fun _ => 0))), (q13, .inl (gca Y 0, 256, .inl (fun _ => 0)))]) 13 795 (by simp only [List.append_assoc, List.cons_append, List.nil_append]) rfl rfl ?_
  refine n_putF (j := 26) (p := 0) hC ([(b, .inr (11, [.ref q1, .long 0, .long 1, .ref q2, .ref q3, .int 0, .int 0, .int 0, .int 0, .int 0, .ref q4, .int 0, .int 0, .ref q5, .int 0, .ref q6, .int 0, .ref q7, .ref q8, .int 0, .int 0, .int 0, .ref q9, .ref q10, .ref q11, .ref q12, .ref q13, .null])), (q1, .inl (gca Y 0, 70, .inl (fun _ => 0))), (q2, .inl (gca Y 0, 3, .inl (fun _ => 0))), (q3, .inl (gca Y 0, 150, .inl (fun _ => 0))), (q4, .inl (gca Y 0, 2, .inl (fun _ => 0))), (q5, .inl (gca Y 0, 128, .inl (fun _ => 0))), (q6, .inl (gca Y 0, 7, .inl (fun _ => 0))), (q7, .inl (gca Y 0, 7, .inl (fun _ => 0))), (q8, .inl (gca Y 0, 7, .inl (fun _ => 0))), (q9, .inl (gca Y 0, 7, .inl (fun _ => 0))), (q10, .inl (gca Y 0, 16, .inl (fun _ => 0))), (q11, .inl (gca Y 1, 2, .inl (fun _ => 0))), (q12, .inl (gca Y 0, 140, .inl (fun _ => 0))), (q13, .inl (gca Y 0, 256, .inl (fun _ => 0)))]) hmn rfl rfl in_X11 tyX11_ok nmX11 (by decide) wF_X11_51 rfl rfl (tyX11_ok 26 (by decide)) rfl rfl (Nat.le_of_ble_eq_true rfl) rfl dX11_init_111 ?_
  refine n_aload_n hC 0 dX11_init_114 rfl rfl ?_
  refine n_iconst hC 2 dX11_init_115 rfl ?_
  refine n_newa (at_ := .int) (ty := .int) (t0 := 0) hC 2 rfl wR_int rfl (fun _ _ h => h) rfl (by decide) rfl (by decide) (by decide) (by decide) dX11_init_116 (fun q14 => ?_)
  refine n_eq (ws' := ws0 ++ [(b, .inr (11, [.ref q1, .long 0, .long 1, .ref q2, .ref q3, .int 0, .int 0, .int 0, .int 0, .int 0, .ref q4, .int 0, .int 0, .ref q5, .int 0, .ref q6, .int 0, .ref q7, .ref q8, .int 0, .int 0, .int 0, .ref q9, .ref q10, .ref q11, .ref q12, .ref q13, .null])), (q1, .inl (gca Y 0, 70, .inl (fun _ => 0))), (q2, .inl (gca Y 0, 3, .inl (fun _ => 0))), (q3, .inl (gca Y 0, 150, .inl (fun _ => 0))), (q4, .inl (gca Y 0, 2, .inl (fun _ => 0))), (q5, .inl (gca Y 0, 128, .inl (fun _ => 0))), (q6, .inl (gca Y 0, 7, .inl (fun _ => 0))), (q7, .inl (gca Y 0, 7, .inl (fun _ => 0))), (q8, .inl (gca Y 0, 7, .inl (fun _ => 0))), (q9, .inl (gca Y 0, 7, .inl (fun _ => 0))), (q10, .inl (gca Y 0, 16, .inl (fun _ => 0))), (q11, .inl (gca Y 1, 2, .inl (fun _ => 0))), (q12, .inl (gca Y 0, 140, .inl (fun _ => 0))), (q13, .inl (gca Y 0, 256, .inl (fun _ => 0))), (q14, .inl (gca Y 0, 2, .inl (fun _ => 0)))]) 14 797 (by simp only [List.append_assoc, List.cons_append, List.nil_append]) rfl rfl ?_
  refine n_putF (j := 27) (p := 0) hC ([(b, .inr (11, [.ref q1, .long 0, .long 1, .ref q2, .ref q3, .int 0, .int 0, .int 0, .int 0, .int 0, .ref q4, .int 0, .int 0, .ref q5, .int 0, .ref q6, .int 0, .ref q7, .ref q8, .int 0, .int 0, .int 0, .ref q9, .ref q10, .ref q11, .ref q12, .ref q13, .ref q14])), (q1, .inl (gca Y 0, 70, .inl (fun _ => 0))), (q2, .inl (gca Y 0, 3, .inl (fun _ => 0))), (q3, .inl (gca Y 0, 150, .inl (fun _ => 0))), (q4, .inl (gca Y 0, 2, .inl (fun _ => 0))), (q5, .inl (gca Y 0, 128, .inl (fun _ => 0))), (q6, .inl (gca Y 0, 7, .inl (fun _ => 0))), (q7, .inl (gca Y 0, 7, .inl (fun _ => 0))), (q8, .inl (gca Y 0, 7, .inl (fun _ => 0))), (q9, .inl (gca Y 0, 7, .inl (fun _ => 0))), (q10, .inl (gca Y 0, 16, .inl (fun _ => 0))), (q11, .inl (gca Y 1, 2, .inl (fun _ => 0))), (q12, .inl (gca Y 0, 140, .inl (fun _ => 0))), (q13, .inl (gca Y 0, 256, .inl (fun _ => 0))), (q14, .inl (gca Y 0, 2, .inl (fun _ => 0)))]) hmn rfl rfl in_X11 tyX11_ok nmX11 (by decide) wF_X11_54 rfl rfl (tyX11_ok 27 (by decide)) rfl rfl (Nat.le_of_ble_eq_true rfl) rfl dX11_init_118 ?_
  exact n_ret hC (fun i => [q1, q2, q3, q4, q5, q6, q7, q8, q9, q10, q11, q12, q13, q14].getD i 0) hr hQ (by first | rfl | simp) dX11_init_121
end
section
def gblk (Y : gY) (b t : Nat) (r q : Nat → Nat) (u : Nat → Nat → Nat) : va_W := (((((((((((((((([(b, .inr (10, [.ref (q 11), .ref (q 12), .ref (q 13), .ref (q 0), .ref (q 1), .ref (q 2), .ref (q 3), .long 0, .long 1]))] ++ [((q 0), .inl (gca Y 1, 2, .inl (fun _ => 0)))]) ++ ([((q 1), .inr (9, [.ref t, .int 0, .int 0, .int 0, .int 0, .int (-1)]))] ++ [(t, .inl (gca Y 0, 150, .inl (fun _ => 0)))])) ++ rblk Y (q 2) r) ++ [((q 3), .inl (gca Y 0, 3, .inl (fun _ => 0)))]) ++ [((q 4), .inl (gca Y 2, 6, .inr (.inr (.inr (.inr (va_up (va_up (va_up (va_up (va_up (va_up (fun _ => none) 0 (some (q 5))) 1 (some (q 6))) 2 (some (q 7))) 3 (some (q 8))) 4 (some (q 9))) 5 (some (q 10))))))))]) ++ [((q 5), .inr (4, []))]) ++ [((q 6), .inr (6, []))]) ++ [((q 7), .inr (0, []))]) ++ [((q 8), .inr (8, []))]) ++ [((q 9), .inr (2, []))]) ++ [((q 10), .inr (5, []))]) ++ hblk Y (q 11) (q 4) (u 0)) ++ hblk Y (q 12) (q 4) (u 1)) ++ [((q 13), .inl (gca Y 3, 2, .inr (.inr (.inr (.inr (va_up (va_up (fun _ => none) 0 (some (q 14))) 1 (some (q 15))))))))]) ++ hblk Y (q 14) (q 4) (u 2)) ++ hblk Y (q 15) (q 4) (u 3))

theorem dX10_init_0 : decode cX10_init 0 = .ok (.aload_n 0, 1) := by decide +kernel
theorem dX10_init_1 : decode cX10_init 1 = .ok (.invokespecial 3, 3) := by decide +kernel
theorem dX10_init_4 : decode cX10_init 4 = .ok (.aload_n 0, 1) := by decide +kernel
theorem dX10_init_5 : decode cX10_init 5 = .ok (.iconst 2, 1) := by decide +kernel
theorem dX10_init_6 : decode cX10_init 6 = .ok (.newarray .boolean, 2) := by decide +kernel
theorem dX10_init_8 : decode cX10_init 8 = .ok (.putfield 9, 3) := by decide +kernel
theorem dX10_init_11 : decode cX10_init 11 = .ok (.aload_n 0, 1) := by decide +kernel
theorem dX10_init_12 : decode cX10_init 12 = .ok (.new 13, 3) := by decide +kernel
theorem dX10_init_15 : decode cX10_init 15 = .ok (.dup, 1) := by decide +kernel
theorem dX10_init_16 : decode cX10_init 16 = .ok (.invokespecial 15, 3) := by decide +kernel
theorem dX10_init_19 : decode cX10_init 19 = .ok (.putfield 16, 3) := by decide +kernel
theorem dX10_init_22 : decode cX10_init 22 = .ok (.aload_n 0, 1) := by decide +kernel
theorem dX10_init_23 : decode cX10_init 23 = .ok (.new 20, 3) := by decide +kernel
theorem dX10_init_26 : decode cX10_init 26 = .ok (.dup, 1) := by decide +kernel
theorem dX10_init_27 : decode cX10_init 27 = .ok (.invokespecial 22, 3) := by decide +kernel
theorem dX10_init_30 : decode cX10_init 30 = .ok (.putfield 23, 3) := by decide +kernel
theorem dX10_init_33 : decode cX10_init 33 = .ok (.aload_n 0, 1) := by decide +kernel
theorem dX10_init_34 : decode cX10_init 34 = .ok (.iconst 3, 1) := by decide +kernel
theorem dX10_init_35 : decode cX10_init 35 = .ok (.newarray .int, 2) := by decide +kernel
theorem dX10_init_37 : decode cX10_init 37 = .ok (.putfield 27, 3) := by decide +kernel
theorem dX10_init_40 : decode cX10_init 40 = .ok (.aload_n 0, 1) := by decide +kernel
theorem dX10_init_41 : decode cX10_init 41 = .ok (.lconst 0, 1) := by decide +kernel
theorem dX10_init_42 : decode cX10_init 42 = .ok (.putfield 31, 3) := by decide +kernel
theorem dX10_init_45 : decode cX10_init 45 = .ok (.aload_n 0, 1) := by decide +kernel
theorem dX10_init_46 : decode cX10_init 46 = .ok (.lconst 1, 1) := by decide +kernel
theorem dX10_init_47 : decode cX10_init 47 = .ok (.putfield 35, 3) := by decide +kernel
theorem dX10_init_50 : decode cX10_init 50 = .ok (.bipush 6, 2) := by decide +kernel
theorem dX10_init_52 : decode cX10_init 52 = .ok (.anewarray 38, 3) := by decide +kernel
theorem dX10_init_55 : decode cX10_init 55 = .ok (.dup, 1) := by decide +kernel
theorem dX10_init_56 : decode cX10_init 56 = .ok (.iconst 0, 1) := by decide +kernel
theorem dX10_init_57 : decode cX10_init 57 = .ok (.new 38, 3) := by decide +kernel
theorem dX10_init_60 : decode cX10_init 60 = .ok (.dup, 1) := by decide +kernel
theorem dX10_init_61 : decode cX10_init 61 = .ok (.invokespecial 40, 3) := by decide +kernel
theorem dX10_init_64 : decode cX10_init 64 = .ok (.aastore, 1) := by decide +kernel
theorem dX10_init_65 : decode cX10_init 65 = .ok (.dup, 1) := by decide +kernel
theorem dX10_init_66 : decode cX10_init 66 = .ok (.iconst 1, 1) := by decide +kernel
theorem dX10_init_67 : decode cX10_init 67 = .ok (.new 41, 3) := by decide +kernel
theorem dX10_init_70 : decode cX10_init 70 = .ok (.dup, 1) := by decide +kernel
theorem dX10_init_71 : decode cX10_init 71 = .ok (.invokespecial 43, 3) := by decide +kernel
theorem dX10_init_74 : decode cX10_init 74 = .ok (.aastore, 1) := by decide +kernel
theorem dX10_init_75 : decode cX10_init 75 = .ok (.dup, 1) := by decide +kernel
theorem dX10_init_76 : decode cX10_init 76 = .ok (.iconst 2, 1) := by decide +kernel
theorem dX10_init_77 : decode cX10_init 77 = .ok (.new 44, 3) := by decide +kernel
theorem dX10_init_80 : decode cX10_init 80 = .ok (.dup, 1) := by decide +kernel
theorem dX10_init_81 : decode cX10_init 81 = .ok (.invokespecial 46, 3) := by decide +kernel
theorem dX10_init_84 : decode cX10_init 84 = .ok (.aastore, 1) := by decide +kernel
theorem dX10_init_85 : decode cX10_init 85 = .ok (.dup, 1) := by decide +kernel
theorem dX10_init_86 : decode cX10_init 86 = .ok (.iconst 3, 1) := by decide +kernel
theorem dX10_init_87 : decode cX10_init 87 = .ok (.new 47, 3) := by decide +kernel
theorem dX10_init_90 : decode cX10_init 90 = .ok (.dup, 1) := by decide +kernel
theorem dX10_init_91 : decode cX10_init 91 = .ok (.invokespecial 49, 3) := by decide +kernel
theorem dX10_init_94 : decode cX10_init 94 = .ok (.aastore, 1) := by decide +kernel
theorem dX10_init_95 : decode cX10_init 95 = .ok (.dup, 1) := by decide +kernel
theorem dX10_init_96 : decode cX10_init 96 = .ok (.iconst 4, 1) := by decide +kernel
theorem dX10_init_97 : decode cX10_init 97 = .ok (.new 50, 3) := by decide +kernel
theorem dX10_init_100 : decode cX10_init 100 = .ok (.dup, 1) := by decide +kernel
theorem dX10_init_101 : decode cX10_init 101 = .ok (.invokespecial 52, 3) := by decide +kernel
theorem dX10_init_104 : decode cX10_init 104 = .ok (.aastore, 1) := by decide +kernel
theorem dX10_init_105 : decode cX10_init 105 = .ok (.dup, 1) := by decide +kernel
theorem dX10_init_106 : decode cX10_init 106 = .ok (.iconst 5, 1) := by decide +kernel
theorem dX10_init_107 : decode cX10_init 107 = .ok (.new 53, 3) := by decide +kernel
theorem dX10_init_110 : decode cX10_init 110 = .ok (.dup, 1) := by decide +kernel
theorem dX10_init_111 : decode cX10_init 111 = .ok (.invokespecial 55, 3) := by decide +kernel
theorem dX10_init_114 : decode cX10_init 114 = .ok (.aastore, 1) := by decide +kernel
theorem dX10_init_115 : decode cX10_init 115 = .ok (.astore_n 1, 1) := by decide +kernel
theorem dX10_init_116 : decode cX10_init 116 = .ok (.aload_n 0, 1) := by decide +kernel
theorem dX10_init_117 : decode cX10_init 117 = .ok (.new 56, 3) := by decide +kernel
theorem dX10_init_120 : decode cX10_init 120 = .ok (.dup, 1) := by decide +kernel
theorem dX10_init_121 : decode cX10_init 121 = .ok (.aload_n 1, 1) := by decide +kernel
theorem dX10_init_122 : decode cX10_init 122 = .ok (.invokespecial 58, 3) := by decide +kernel
theorem dX10_init_125 : decode cX10_init 125 = .ok (.putfield 61, 3) := by decide +kernel
theorem dX10_init_128 : decode cX10_init 128 = .ok (.aload_n 0, 1) := by decide +kernel
theorem dX10_init_129 : decode cX10_init 129 = .ok (.new 56, 3) := by decide +kernel
theorem dX10_init_132 : decode cX10_init 132 = .ok (.dup, 1) := by decide +kernel
theorem dX10_init_133 : decode cX10_init 133 = .ok (.aload_n 1, 1) := by decide +kernel
theorem dX10_init_134 : decode cX10_init 134 = .ok (.invokespecial 58, 3) := by decide +kernel
theorem dX10_init_137 : decode cX10_init 137 = .ok (.putfield 65, 3) := by decide +kernel
theorem dX10_init_140 : decode cX10_init 140 = .ok (.aload_n 0, 1) := by decide +kernel
theorem dX10_init_141 : decode cX10_init 141 = .ok (.iconst 2, 1) := by decide +kernel
theorem dX10_init_142 : decode cX10_init 142 = .ok (.anewarray 56, 3) := by decide +kernel
theorem dX10_init_145 : decode cX10_init 145 = .ok (.dup, 1) := by decide +kernel
theorem dX10_init_146 : decode cX10_init 146 = .ok (.iconst 0, 1) := by decide +kernel
theorem dX10_init_147 : decode cX10_init 147 = .ok (.new 56, 3) := by decide +kernel
theorem dX10_init_150 : decode cX10_init 150 = .ok (.dup, 1) := by decide +kernel
theorem dX10_init_151 : decode cX10_init 151 = .ok (.aload_n 1, 1) := by decide +kernel
theorem dX10_init_152 : decode cX10_init 152 = .ok (.invokespecial 58, 3) := by decide +kernel
theorem dX10_init_155 : decode cX10_init 155 = .ok (.aastore, 1) := by decide +kernel
theorem dX10_init_156 : decode cX10_init 156 = .ok (.dup, 1) := by decide +kernel
theorem dX10_init_157 : decode cX10_init 157 = .ok (.iconst 1, 1) := by decide +kernel
theorem dX10_init_158 : decode cX10_init 158 = .ok (.new 56, 3) := by decide +kernel
theorem dX10_init_161 : decode cX10_init 161 = .ok (.dup, 1) := by decide +kernel
theorem dX10_init_162 : decode cX10_init 162 = .ok (.aload_n 1, 1) := by decide +kernel
theorem dX10_init_163 : decode cX10_init 163 = .ok (.invokespecial 58, 3) := by decide +kernel
theorem dX10_init_166 : decode cX10_init 166 = .ok (.aastore, 1) := by decide +kernel
theorem dX10_init_167 : decode cX10_init 167 = .ok (.putfield 68, 3) := by decide +kernel
theorem dX10_init_170 : decode cX10_init 170 = .ok (.return_, 1) := by decide +kernel
set_option maxRecDepth 100000 in
set_option maxHeartbeats 4000000 in
theorem c_X10_init {L : Launch} {Y : gY} {z b : Nat} {ws0 : va_W} : Met L yX10_init (gws yX10_init cX10_init 2 none) { frames := 4, cells := 160, slots := 1304, locals := 73 } (va_Pc [.ref b] (gPn Y z (ws0 ++ [(b, .inr (10, [.null, .null, .null, .null, .null, .null, .null, .long 0, .long 0]))]))) (gQn Y z (fun (u : Nat × (Nat → Nat) × (Nat → Nat) × (Nat → Nat → Nat)) => ws0 ++ gblk Y b u.1 u.2.1 u.2.2.1 u.2.2.2)) 160 1304 (gAz z) := by
  refine gmetn (lv := [(0, .ref b)]) (rm := { frames := 4, cells := 160, slots := 1304, locals := 73 }) "GuestStaff" (by decide) rfl rfl (Nat.le_of_ble_eq_true rfl) rfl (fun X hC hmn hr hQ => ?_)
  refine n_aload_n hC 0 dX10_init_0 rfl rfl ?_
  refine n_obj hC wM_X10_3 wobj dX10_init_1 (by decide) (Nat.le_of_ble_eq_true rfl) ?_
  refine n_aload_n hC 0 dX10_init_4 rfl rfl ?_
  refine n_iconst hC 2 dX10_init_5 rfl ?_
  refine n_newa (at_ := .boolean) (ty := .boolean) (t0 := 1) hC 2 rfl wR_boolean rfl (fun _ _ h => h) rfl (by decide) rfl (by decide) (by decide) (by decide) dX10_init_6 (fun q1 => ?_)
  refine n_eq (ws' := ws0 ++ [(b, .inr (10, [.null, .null, .null, .null, .null, .null, .null, .long 0, .long 0])), (q1, .inl (gca Y 1, 2, .inl (fun _ => 0)))]) 1 2 (by simp only [List.append_assoc, List.cons_append, List.nil_append]) rfl rfl ?_
  refine n_putF (j := 3) (p := 0) hC ([(b, .inr (10, [.null, .null, .null, .ref q1, .null, .null, .null, .long 0, .long 0])), (q1, .inl (gca Y 1, 2, .inl (fun _ => 0)))]) hmn rfl rfl in_X10 tyX10_ok nmX10 (by decide) wF_X10_9 rfl rfl (tyX10_ok 3 (by decide)) rfl rfl (Nat.le_of_ble_eq_true rfl) rfl dX10_init_8 ?_
  refine n_aload_n hC 0 dX10_init_11 rfl rfl ?_
  refine n_new (ci := 9) hC [.null, .int 0, .int 0, .int 0, .int 0, .int 0] rfl in_X9 tyX9_ok wL_X10_13 wT_X9 wI_X9 hfs_X9 (by decide) (by decide) dX10_init_12 (fun q2 => ?_)
  refine n_eq (ws' := ws0 ++ [(b, .inr (10, [.null, .null, .null, .ref q1, .null, .null, .null, .long 0, .long 0])), (q1, .inl (gca Y 1, 2, .inl (fun _ => 0))), (q2, .inr (9, [.null, .int 0, .int 0, .int 0, .int 0, .int 0]))]) 2 8 (by simp only [List.append_assoc, List.cons_append, List.nil_append]) rfl rfl ?_
  refine n_dup hC dX10_init_15 rfl ?_
  refine n_eq (ws' := ws0 ++ ([(b, .inr (10, [.null, .null, .null, .ref q1, .null, .null, .null, .long 0, .long 0])), (q1, .inl (gca Y 1, 2, .inl (fun _ => 0)))] ++ [(q2, .inr (9, [.null, .int 0, .int 0, .int 0, .int 0, .int 0]))])) 2 8 (by simp only [List.append_assoc, List.cons_append, List.nil_append]) rfl rfl ?_
  refine n_call (k := 2) (n := 8) (l := [(b, .inr (10, [.null, .null, .null, .ref q1, .null, .null, .null, .long 0, .long 0])), (q1, .inl (gca Y 1, 2, .inl (fun _ => 0)))]) (As := []) (rest := [.ref q2, .ref b]) hC mt_X9_init rfl mi_X9_init (Or.inr ⟨_, wG_X10_15⟩) c_X9_init ⟨by decide, by decide, by decide, by decide⟩ rfl rfl (Nat.le_of_ble_eq_true rfl) dX10_init_16 (fun r3 => ?_)
  refine n_eq (ws' := ws0 ++ ([(b, .inr (10, [.null, .null, .null, .ref q1, .null, .null, .null, .long 0, .long 0])), (q1, .inl (gca Y 1, 2, .inl (fun _ => 0)))] ++ ([(q2, .inr (9, [.ref r3, .int 0, .int 0, .int 0, .int 0, .int (-1)]))] ++ [(r3, .inl (gca Y 0, 150, .inl (fun _ => 0)))]))) 3 158 (by simp only [List.append_assoc, List.cons_append, List.nil_append]) rfl rfl ?_
  refine n_putF (j := 4) (p := 0) hC (([(b, .inr (10, [.null, .null, .null, .ref q1, .ref q2, .null, .null, .long 0, .long 0])), (q1, .inl (gca Y 1, 2, .inl (fun _ => 0)))] ++ ([(q2, .inr (9, [.ref r3, .int 0, .int 0, .int 0, .int 0, .int (-1)]))] ++ [(r3, .inl (gca Y 0, 150, .inl (fun _ => 0)))]))) hmn rfl rfl in_X10 tyX10_ok nmX10 (by decide) wF_X10_16 rfl rfl (tyX10_ok 4 (by decide)) rfl rfl (Nat.le_of_ble_eq_true rfl) rfl dX10_init_19 ?_
  refine n_aload_n hC 0 dX10_init_22 rfl rfl ?_
  refine n_new (ci := 7) hC [.null, .null, .null, .null, .int 0] rfl in_X7 tyX7_ok wL_X10_20 wT_X7 wI_X7 hfs_X7 (by decide) (by decide) dX10_init_23 (fun q4 => ?_)
  refine n_eq (ws' := ws0 ++ ([(b, .inr (10, [.null, .null, .null, .ref q1, .ref q2, .null, .null, .long 0, .long 0])), (q1, .inl (gca Y 1, 2, .inl (fun _ => 0)))] ++ (([(q2, .inr (9, [.ref r3, .int 0, .int 0, .int 0, .int 0, .int (-1)]))] ++ [(r3, .inl (gca Y 0, 150, .inl (fun _ => 0)))]) ++ [(q4, .inr (7, [.null, .null, .null, .null, .int 0]))]))) 4 163 (by simp only [List.append_assoc, List.cons_append, List.nil_append]) rfl rfl ?_
  refine n_dup hC dX10_init_26 rfl ?_
  refine n_eq (ws' := ws0 ++ (([(b, .inr (10, [.null, .null, .null, .ref q1, .ref q2, .null, .null, .long 0, .long 0])), (q1, .inl (gca Y 1, 2, .inl (fun _ => 0)))] ++ ([(q2, .inr (9, [.ref r3, .int 0, .int 0, .int 0, .int 0, .int (-1)]))] ++ [(r3, .inl (gca Y 0, 150, .inl (fun _ => 0)))])) ++ [(q4, .inr (7, [.null, .null, .null, .null, .int 0]))])) 4 163 (by simp only [List.append_assoc, List.cons_append, List.nil_append]) rfl rfl ?_
  refine n_call (k := 4) (n := 163) (l := ([(b, .inr (10, [.null, .null, .null, .ref q1, .ref q2, .null, .null, .long 0, .long 0])), (q1, .inl (gca Y 1, 2, .inl (fun _ => 0)))] ++ ([(q2, .inr (9, [.ref r3, .int 0, .int 0, .int 0, .int 0, .int (-1)]))] ++ [(r3, .inl (gca Y 0, 150, .inl (fun _ => 0)))]))) (As := []) (rest := [.ref q4, .ref b]) hC mt_X7_init rfl mi_X7_init (Or.inr ⟨_, wG_X10_22⟩) c_X7_init ⟨by decide, by decide, by decide, by decide⟩ rfl rfl (Nat.le_of_ble_eq_true rfl) dX10_init_27 (fun r5 => ?_)
  refine n_eq (ws' := ws0 ++ ([(b, .inr (10, [.null, .null, .null, .ref q1, .ref q2, .null, .null, .long 0, .long 0])), (q1, .inl (gca Y 1, 2, .inl (fun _ => 0)))] ++ (([(q2, .inr (9, [.ref r3, .int 0, .int 0, .int 0, .int 0, .int (-1)]))] ++ [(r3, .inl (gca Y 0, 150, .inl (fun _ => 0)))]) ++ rblk Y q4 r5))) 15 361 (by simp only [List.append_assoc, List.cons_append, List.nil_append]) rfl rfl ?_
  refine n_putF (j := 5) (p := 0) hC (([(b, .inr (10, [.null, .null, .null, .ref q1, .ref q2, .ref q4, .null, .long 0, .long 0])), (q1, .inl (gca Y 1, 2, .inl (fun _ => 0)))] ++ (([(q2, .inr (9, [.ref r3, .int 0, .int 0, .int 0, .int 0, .int (-1)]))] ++ [(r3, .inl (gca Y 0, 150, .inl (fun _ => 0)))]) ++ rblk Y q4 r5))) hmn rfl rfl in_X10 tyX10_ok nmX10 (by decide) wF_X10_23 rfl rfl (tyX10_ok 5 (by decide)) rfl rfl (Nat.le_of_ble_eq_true rfl) rfl dX10_init_30 ?_
  refine n_aload_n hC 0 dX10_init_33 rfl rfl ?_
  refine n_iconst hC 3 dX10_init_34 rfl ?_
  refine n_newa (at_ := .int) (ty := .int) (t0 := 0) hC 3 rfl wR_int rfl (fun _ _ h => h) rfl (by decide) rfl (by decide) (by decide) (by decide) dX10_init_35 (fun q6 => ?_)
  refine n_eq (ws' := ws0 ++ ([(b, .inr (10, [.null, .null, .null, .ref q1, .ref q2, .ref q4, .null, .long 0, .long 0])), (q1, .inl (gca Y 1, 2, .inl (fun _ => 0)))] ++ (([(q2, .inr (9, [.ref r3, .int 0, .int 0, .int 0, .int 0, .int (-1)]))] ++ [(r3, .inl (gca Y 0, 150, .inl (fun _ => 0)))]) ++ (rblk Y q4 r5 ++ [(q6, .inl (gca Y 0, 3, .inl (fun _ => 0)))])))) 16 364 (by simp only [List.append_assoc, List.cons_append, List.nil_append]) rfl rfl ?_
  refine n_putF (j := 6) (p := 0) hC (([(b, .inr (10, [.null, .null, .null, .ref q1, .ref q2, .ref q4, .ref q6, .long 0, .long 0])), (q1, .inl (gca Y 1, 2, .inl (fun _ => 0)))] ++ (([(q2, .inr (9, [.ref r3, .int 0, .int 0, .int 0, .int 0, .int (-1)]))] ++ [(r3, .inl (gca Y 0, 150, .inl (fun _ => 0)))]) ++ (rblk Y q4 r5 ++ [(q6, .inl (gca Y 0, 3, .inl (fun _ => 0)))])))) hmn rfl rfl in_X10 tyX10_ok nmX10 (by decide) wF_X10_27 rfl rfl (tyX10_ok 6 (by decide)) rfl rfl (Nat.le_of_ble_eq_true rfl) rfl dX10_init_37 ?_
  refine n_aload_n hC 0 dX10_init_40 rfl rfl ?_
  refine n_lconst hC 0 dX10_init_41 rfl ?_
  refine n_put (j := 7) (p := 0) hC (([(b, .inr (10, [.null, .null, .null, .ref q1, .ref q2, .ref q4, .ref q6, .long 0, .long 0])), (q1, .inl (gca Y 1, 2, .inl (fun _ => 0)))] ++ (([(q2, .inr (9, [.ref r3, .int 0, .int 0, .int 0, .int 0, .int (-1)]))] ++ [(r3, .inl (gca Y 0, 150, .inl (fun _ => 0)))]) ++ (rblk Y q4 r5 ++ [(q6, .inl (gca Y 0, 3, .inl (fun _ => 0)))])))) rfl rfl in_X10 tyX10_ok nmX10 (by decide) wF_X10_31 rfl (tyX10_ok 7 (by decide)) rfl rfl (Nat.le_of_ble_eq_true rfl) rfl dX10_init_42 ?_
  refine n_aload_n hC 0 dX10_init_45 rfl rfl ?_
  refine n_lconst hC 1 dX10_init_46 rfl ?_
  refine n_put (j := 8) (p := 0) hC (([(b, .inr (10, [.null, .null, .null, .ref q1, .ref q2, .ref q4, .ref q6, .long 0, .long 1])), (q1, .inl (gca Y 1, 2, .inl (fun _ => 0)))] ++ (([(q2, .inr (9, [.ref r3, .int 0, .int 0, .int 0, .int 0, .int (-1)]))] ++ [(r3, .inl (gca Y 0, 150, .inl (fun _ => 0)))]) ++ (rblk Y q4 r5 ++ [(q6, .inl (gca Y 0, 3, .inl (fun _ => 0)))])))) rfl rfl in_X10 tyX10_ok nmX10 (by decide) wF_X10_35 rfl (tyX10_ok 8 (by decide)) rfl rfl (Nat.le_of_ble_eq_true rfl) rfl dX10_init_47 ?_
  refine n_bipush hC 6 dX10_init_50 rfl ?_
  refine n_anew (t0 := 2) hC 6 wL_X10_38 hC.2.2.2.2.2.1.2.2.1 rfl (by decide) rfl (by decide) (by decide) (by decide) dX10_init_52 (fun q7 => ?_)
  refine n_eq (ws' := ws0 ++ ([(b, .inr (10, [.null, .null, .null, .ref q1, .ref q2, .ref q4, .ref q6, .long 0, .long 1])), (q1, .inl (gca Y 1, 2, .inl (fun _ => 0)))] ++ (([(q2, .inr (9, [.ref r3, .int 0, .int 0, .int 0, .int 0, .int (-1)]))] ++ [(r3, .inl (gca Y 0, 150, .inl (fun _ => 0)))]) ++ (rblk Y q4 r5 ++ [(q6, .inl (gca Y 0, 3, .inl (fun _ => 0))), (q7, .inl (gca Y 2, 6, .inr (.inr (.inr (.inr (fun _ => none))))))])))) 17 370 (by simp only [List.append_assoc, List.cons_append, List.nil_append]) rfl rfl ?_
  refine n_dup hC dX10_init_55 rfl ?_
  refine n_iconst hC 0 dX10_init_56 rfl ?_
  refine n_new (ci := 4) hC [] rfl in_X4 tyX4_ok wL_X10_38 wT_X4 wI_X4 (fun j hj => absurd hj (Nat.not_lt_zero j)) (by decide) (by decide) dX10_init_57 (fun q8 => ?_)
  refine n_eq (ws' := ws0 ++ ([(b, .inr (10, [.null, .null, .null, .ref q1, .ref q2, .ref q4, .ref q6, .long 0, .long 1])), (q1, .inl (gca Y 1, 2, .inl (fun _ => 0)))] ++ (([(q2, .inr (9, [.ref r3, .int 0, .int 0, .int 0, .int 0, .int (-1)]))] ++ [(r3, .inl (gca Y 0, 150, .inl (fun _ => 0)))]) ++ (rblk Y q4 r5 ++ [(q6, .inl (gca Y 0, 3, .inl (fun _ => 0))), (q7, .inl (gca Y 2, 6, .inr (.inr (.inr (.inr (fun _ => none)))))), (q8, .inr (4, []))])))) 18 370 (by simp only [List.append_assoc, List.cons_append, List.nil_append]) rfl rfl ?_
  refine n_dup hC dX10_init_60 rfl ?_
  refine n_eq (ws' := ws0 ++ (([(b, .inr (10, [.null, .null, .null, .ref q1, .ref q2, .ref q4, .ref q6, .long 0, .long 1])), (q1, .inl (gca Y 1, 2, .inl (fun _ => 0)))] ++ (([(q2, .inr (9, [.ref r3, .int 0, .int 0, .int 0, .int 0, .int (-1)]))] ++ [(r3, .inl (gca Y 0, 150, .inl (fun _ => 0)))]) ++ (rblk Y q4 r5 ++ [(q6, .inl (gca Y 0, 3, .inl (fun _ => 0))), (q7, .inl (gca Y 2, 6, .inr (.inr (.inr (.inr (fun _ => none))))))]))) ++ [(q8, .inr (4, []))])) 18 370 (by simp only [List.append_assoc, List.cons_append, List.nil_append]) rfl rfl ?_
  refine n_call (k := 18) (n := 370) (l := ([(b, .inr (10, [.null, .null, .null, .ref q1, .ref q2, .ref q4, .ref q6, .long 0, .long 1])), (q1, .inl (gca Y 1, 2, .inl (fun _ => 0)))] ++ (([(q2, .inr (9, [.ref r3, .int 0, .int 0, .int 0, .int 0, .int (-1)]))] ++ [(r3, .inl (gca Y 0, 150, .inl (fun _ => 0)))]) ++ (rblk Y q4 r5 ++ [(q6, .inl (gca Y 0, 3, .inl (fun _ => 0))), (q7, .inl (gca Y 2, 6, .inr (.inr (.inr (.inr (fun _ => none))))))])))) (As := []) (rest := [.ref q8, .int 0, .ref q7, .ref q7]) hC mt_X4_init rfl mi_X4_init (Or.inr ⟨_, wG_X10_40⟩) c_X4_init ⟨by decide, by decide, by decide, by decide⟩ rfl rfl (Nat.le_of_ble_eq_true rfl) dX10_init_61 (fun r9 => ?_)
  refine n_eq (ws' := ws0 ++ ([(b, .inr (10, [.null, .null, .null, .ref q1, .ref q2, .ref q4, .ref q6, .long 0, .long 1])), (q1, .inl (gca Y 1, 2, .inl (fun _ => 0)))] ++ (([(q2, .inr (9, [.ref r3, .int 0, .int 0, .int 0, .int 0, .int (-1)]))] ++ [(r3, .inl (gca Y 0, 150, .inl (fun _ => 0)))]) ++ (rblk Y q4 r5 ++ [(q6, .inl (gca Y 0, 3, .inl (fun _ => 0))), (q7, .inl (gca Y 2, 6, .inr (.inr (.inr (.inr (fun _ => none)))))), (q8, .inr (4, []))])))) 18 370 (by simp only [List.append_assoc, List.cons_append, List.nil_append]) rfl rfl ?_
  refine n_ast (p := 17) (pk := 18) (t0 := 2) (ci := 4) hC (([(b, .inr (10, [.null, .null, .null, .ref q1, .ref q2, .ref q4, .ref q6, .long 0, .long 1])), (q1, .inl (gca Y 1, 2, .inl (fun _ => 0)))] ++ (([(q2, .inr (9, [.ref r3, .int 0, .int 0, .int 0, .int 0, .int (-1)]))] ++ [(r3, .inl (gca Y 0, 150, .inl (fun _ => 0)))]) ++ (rblk Y q4 r5 ++ [(q6, .inl (gca Y 0, 3, .inl (fun _ => 0))), (q7, .inl (gca Y 2, 6, .inr (.inr (.inr (.inr (va_up (fun _ => none) 0 (some q8))))))), (q8, .inr (4, []))])))) rfl rfl (Or.inl rfl) rfl rfl (by show ¬ _; decide) rfl dX10_init_64 ?_
  refine n_dup hC dX10_init_65 rfl ?_
  refine n_iconst hC 1 dX10_init_66 rfl ?_
  refine n_new (ci := 6) hC [] rfl in_X6 tyX6_ok wL_X10_41 wT_X6 wI_X6 (fun j hj => absurd hj (Nat.not_lt_zero j)) (by decide) (by decide) dX10_init_67 (fun q10 => ?_)
  refine n_eq (ws' := ws0 ++ ([(b, .inr (10, [.null, .null, .null, .ref q1, .ref q2, .ref q4, .ref q6, .long 0, .long 1])), (q1, .inl (gca Y 1, 2, .inl (fun _ => 0)))] ++ (([(q2, .inr (9, [.ref r3, .int 0, .int 0, .int 0, .int 0, .int (-1)]))] ++ [(r3, .inl (gca Y 0, 150, .inl (fun _ => 0)))]) ++ (rblk Y q4 r5 ++ [(q6, .inl (gca Y 0, 3, .inl (fun _ => 0))), (q7, .inl (gca Y 2, 6, .inr (.inr (.inr (.inr (va_up (fun _ => none) 0 (some q8))))))), (q8, .inr (4, [])), (q10, .inr (6, []))])))) 19 370 (by simp only [List.append_assoc, List.cons_append, List.nil_append]) rfl rfl ?_
  refine n_dup hC dX10_init_70 rfl ?_
  refine n_eq (ws' := ws0 ++ (([(b, .inr (10, [.null, .null, .null, .ref q1, .ref q2, .ref q4, .ref q6, .long 0, .long 1])), (q1, .inl (gca Y 1, 2, .inl (fun _ => 0)))] ++ (([(q2, .inr (9, [.ref r3, .int 0, .int 0, .int 0, .int 0, .int (-1)]))] ++ [(r3, .inl (gca Y 0, 150, .inl (fun _ => 0)))]) ++ (rblk Y q4 r5 ++ [(q6, .inl (gca Y 0, 3, .inl (fun _ => 0))), (q7, .inl (gca Y 2, 6, .inr (.inr (.inr (.inr (va_up (fun _ => none) 0 (some q8))))))), (q8, .inr (4, []))]))) ++ [(q10, .inr (6, []))])) 19 370 (by simp only [List.append_assoc, List.cons_append, List.nil_append]) rfl rfl ?_
  refine n_call (k := 19) (n := 370) (l := ([(b, .inr (10, [.null, .null, .null, .ref q1, .ref q2, .ref q4, .ref q6, .long 0, .long 1])), (q1, .inl (gca Y 1, 2, .inl (fun _ => 0)))] ++ (([(q2, .inr (9, [.ref r3, .int 0, .int 0, .int 0, .int 0, .int (-1)]))] ++ [(r3, .inl (gca Y 0, 150, .inl (fun _ => 0)))]) ++ (rblk Y q4 r5 ++ [(q6, .inl (gca Y 0, 3, .inl (fun _ => 0))), (q7, .inl (gca Y 2, 6, .inr (.inr (.inr (.inr (va_up (fun _ => none) 0 (some q8))))))), (q8, .inr (4, []))])))) (As := []) (rest := [.ref q10, .int 1, .ref q7, .ref q7]) hC mt_X6_init rfl mi_X6_init (Or.inr ⟨_, wG_X10_43⟩) c_X6_init ⟨by decide, by decide, by decide, by decide⟩ rfl rfl (Nat.le_of_ble_eq_true rfl) dX10_init_71 (fun r11 => ?_)
  refine n_eq (ws' := ws0 ++ ([(b, .inr (10, [.null, .null, .null, .ref q1, .ref q2, .ref q4, .ref q6, .long 0, .long 1])), (q1, .inl (gca Y 1, 2, .inl (fun _ => 0)))] ++ (([(q2, .inr (9, [.ref r3, .int 0, .int 0, .int 0, .int 0, .int (-1)]))] ++ [(r3, .inl (gca Y 0, 150, .inl (fun _ => 0)))]) ++ (rblk Y q4 r5 ++ [(q6, .inl (gca Y 0, 3, .inl (fun _ => 0))), (q7, .inl (gca Y 2, 6, .inr (.inr (.inr (.inr (va_up (fun _ => none) 0 (some q8))))))), (q8, .inr (4, [])), (q10, .inr (6, []))])))) 19 370 (by simp only [List.append_assoc, List.cons_append, List.nil_append]) rfl rfl ?_
  refine n_ast (p := 17) (pk := 19) (t0 := 2) (ci := 6) hC (([(b, .inr (10, [.null, .null, .null, .ref q1, .ref q2, .ref q4, .ref q6, .long 0, .long 1])), (q1, .inl (gca Y 1, 2, .inl (fun _ => 0)))] ++ (([(q2, .inr (9, [.ref r3, .int 0, .int 0, .int 0, .int 0, .int (-1)]))] ++ [(r3, .inl (gca Y 0, 150, .inl (fun _ => 0)))]) ++ (rblk Y q4 r5 ++ [(q6, .inl (gca Y 0, 3, .inl (fun _ => 0))), (q7, .inl (gca Y 2, 6, .inr (.inr (.inr (.inr (va_up (va_up (fun _ => none) 0 (some q8)) 1 (some q10))))))), (q8, .inr (4, [])), (q10, .inr (6, []))])))) rfl rfl (Or.inr (hC.2.2.2.2.2.1.2.2.2.2.2 _ (by decide))) rfl rfl (by show ¬ _; decide) rfl dX10_init_74 ?_
  refine n_dup hC dX10_init_75 rfl ?_
  refine n_iconst hC 2 dX10_init_76 rfl ?_
  refine n_new (ci := 0) hC [] rfl in_X0 tyX0_ok wL_X10_44 wT_X0 wI_X0 (fun j hj => absurd hj (Nat.not_lt_zero j)) (by decide) (by decide) dX10_init_77 (fun q12 => ?_)
  refine n_eq (ws' := ws0 ++ ([(b, .inr (10, [.null, .null, .null, .ref q1, .ref q2, .ref q4, .ref q6, .long 0, .long 1])), (q1, .inl (gca Y 1, 2, .inl (fun _ => 0)))] ++ (([(q2, .inr (9, [.ref r3, .int 0, .int 0, .int 0, .int 0, .int (-1)]))] ++ [(r3, .inl (gca Y 0, 150, .inl (fun _ => 0)))]) ++ (rblk Y q4 r5 ++ [(q6, .inl (gca Y 0, 3, .inl (fun _ => 0))), (q7, .inl (gca Y 2, 6, .inr (.inr (.inr (.inr (va_up (va_up (fun _ => none) 0 (some q8)) 1 (some q10))))))), (q8, .inr (4, [])), (q10, .inr (6, [])), (q12, .inr (0, []))])))) 20 370 (by simp only [List.append_assoc, List.cons_append, List.nil_append]) rfl rfl ?_
  refine n_dup hC dX10_init_80 rfl ?_
  refine n_eq (ws' := ws0 ++ (([(b, .inr (10, [.null, .null, .null, .ref q1, .ref q2, .ref q4, .ref q6, .long 0, .long 1])), (q1, .inl (gca Y 1, 2, .inl (fun _ => 0)))] ++ (([(q2, .inr (9, [.ref r3, .int 0, .int 0, .int 0, .int 0, .int (-1)]))] ++ [(r3, .inl (gca Y 0, 150, .inl (fun _ => 0)))]) ++ (rblk Y q4 r5 ++ [(q6, .inl (gca Y 0, 3, .inl (fun _ => 0))), (q7, .inl (gca Y 2, 6, .inr (.inr (.inr (.inr (va_up (va_up (fun _ => none) 0 (some q8)) 1 (some q10))))))), (q8, .inr (4, [])), (q10, .inr (6, []))]))) ++ [(q12, .inr (0, []))])) 20 370 (by simp only [List.append_assoc, List.cons_append, List.nil_append]) rfl rfl ?_
  refine n_call (k := 20) (n := 370) (l := ([(b, .inr (10, [.null, .null, .null, .ref q1, .ref q2, .ref q4, .ref q6, .long 0, .long 1])), (q1, .inl (gca Y 1, 2, .inl (fun _ => 0)))] ++ (([(q2, .inr (9, [.ref r3, .int 0, .int 0, .int 0, .int 0, .int (-1)]))] ++ [(r3, .inl (gca Y 0, 150, .inl (fun _ => 0)))]) ++ (rblk Y q4 r5 ++ [(q6, .inl (gca Y 0, 3, .inl (fun _ => 0))), (q7, .inl (gca Y 2, 6, .inr (.inr (.inr (.inr (va_up (va_up (fun _ => none) 0 (some q8)) 1 (some q10))))))), (q8, .inr (4, [])), (q10, .inr (6, []))])))) (As := []) (rest := [.ref q12, .int 2, .ref q7, .ref q7]) hC mt_X0_init rfl mi_X0_init (Or.inr ⟨_, wG_X10_46⟩) c_X0_init ⟨by decide, by decide, by decide, by decide⟩ rfl rfl (Nat.le_of_ble_eq_true rfl) dX10_init_81 (fun r13 => ?_)
  refine n_eq (ws' := ws0 ++ ([(b, .inr (10, [.null, .null, .null, .ref q1, .ref q2, .ref q4, .ref q6, .long 0, .long 1])), (q1, .inl (gca Y 1, 2, .inl (fun _ => 0)))] ++ (([(q2, .inr (9, [.ref r3, .int 0, .int 0, .int 0, .int 0, .int (-1)]))] ++ [(r3, .inl (gca Y 0, 150, .inl (fun _ => 0)))]) ++ (rblk Y q4 r5 ++ [(q6, .inl (gca Y 0, 3, .inl (fun _ => 0))), (q7, .inl (gca Y 2, 6, .inr (.inr (.inr (.inr (va_up (va_up (fun _ => none) 0 (some q8)) 1 (some q10))))))), (q8, .inr (4, [])), (q10, .inr (6, [])), (q12, .inr (0, []))])))) 20 370 (by simp only [List.append_assoc, List.cons_append, List.nil_append]) rfl rfl ?_
  refine n_ast (p := 17) (pk := 20) (t0 := 2) (ci := 0) hC (([(b, .inr (10, [.null, .null, .null, .ref q1, .ref q2, .ref q4, .ref q6, .long 0, .long 1])), (q1, .inl (gca Y 1, 2, .inl (fun _ => 0)))] ++ (([(q2, .inr (9, [.ref r3, .int 0, .int 0, .int 0, .int 0, .int (-1)]))] ++ [(r3, .inl (gca Y 0, 150, .inl (fun _ => 0)))]) ++ (rblk Y q4 r5 ++ [(q6, .inl (gca Y 0, 3, .inl (fun _ => 0))), (q7, .inl (gca Y 2, 6, .inr (.inr (.inr (.inr (va_up (va_up (va_up (fun _ => none) 0 (some q8)) 1 (some q10)) 2 (some q12))))))), (q8, .inr (4, [])), (q10, .inr (6, [])), (q12, .inr (0, []))])))) rfl rfl (Or.inr (hC.2.2.2.2.2.1.2.2.2.2.2 _ (by decide))) rfl rfl (by show ¬ _; decide) rfl dX10_init_84 ?_
  refine n_dup hC dX10_init_85 rfl ?_
  refine n_iconst hC 3 dX10_init_86 rfl ?_
  refine n_new (ci := 8) hC [] rfl in_X8 tyX8_ok wL_X10_47 wT_X8 wI_X8 (fun j hj => absurd hj (Nat.not_lt_zero j)) (by decide) (by decide) dX10_init_87 (fun q14 => ?_)
  refine n_eq (ws' := ws0 ++ ([(b, .inr (10, [.null, .null, .null, .ref q1, .ref q2, .ref q4, .ref q6, .long 0, .long 1])), (q1, .inl (gca Y 1, 2, .inl (fun _ => 0)))] ++ (([(q2, .inr (9, [.ref r3, .int 0, .int 0, .int 0, .int 0, .int (-1)]))] ++ [(r3, .inl (gca Y 0, 150, .inl (fun _ => 0)))]) ++ (rblk Y q4 r5 ++ [(q6, .inl (gca Y 0, 3, .inl (fun _ => 0))), (q7, .inl (gca Y 2, 6, .inr (.inr (.inr (.inr (va_up (va_up (va_up (fun _ => none) 0 (some q8)) 1 (some q10)) 2 (some q12))))))), (q8, .inr (4, [])), (q10, .inr (6, [])), (q12, .inr (0, [])), (q14, .inr (8, []))])))) 21 370 (by simp only [List.append_assoc, List.cons_append, List.nil_append]) rfl rfl ?_
  refine n_dup hC dX10_init_90 rfl ?_
  refine n_eq (ws' := ws0 ++ (([(b, .inr (10, [.null, .null, .null, .ref q1, .ref q2, .ref q4, .ref q6, .long 0, .long 1])), (q1, .inl (gca Y 1, 2, .inl (fun _ => 0)))] ++ (([(q2, .inr (9, [.ref r3, .int 0, .int 0, .int 0, .int 0, .int (-1)]))] ++ [(r3, .inl (gca Y 0, 150, .inl (fun _ => 0)))]) ++ (rblk Y q4 r5 ++ [(q6, .inl (gca Y 0, 3, .inl (fun _ => 0))), (q7, .inl (gca Y 2, 6, .inr (.inr (.inr (.inr (va_up (va_up (va_up (fun _ => none) 0 (some q8)) 1 (some q10)) 2 (some q12))))))), (q8, .inr (4, [])), (q10, .inr (6, [])), (q12, .inr (0, []))]))) ++ [(q14, .inr (8, []))])) 21 370 (by simp only [List.append_assoc, List.cons_append, List.nil_append]) rfl rfl ?_
  refine n_call (k := 21) (n := 370) (l := ([(b, .inr (10, [.null, .null, .null, .ref q1, .ref q2, .ref q4, .ref q6, .long 0, .long 1])), (q1, .inl (gca Y 1, 2, .inl (fun _ => 0)))] ++ (([(q2, .inr (9, [.ref r3, .int 0, .int 0, .int 0, .int 0, .int (-1)]))] ++ [(r3, .inl (gca Y 0, 150, .inl (fun _ => 0)))]) ++ (rblk Y q4 r5 ++ [(q6, .inl (gca Y 0, 3, .inl (fun _ => 0))), (q7, .inl (gca Y 2, 6, .inr (.inr (.inr (.inr (va_up (va_up (va_up (fun _ => none) 0 (some q8)) 1 (some q10)) 2 (some q12))))))), (q8, .inr (4, [])), (q10, .inr (6, [])), (q12, .inr (0, []))])))) (As := []) (rest := [.ref q14, .int 3, .ref q7, .ref q7]) hC mt_X8_init rfl mi_X8_init (Or.inr ⟨_, wG_X10_49⟩) c_X8_init ⟨by decide, by decide, by decide, by decide⟩ rfl rfl (Nat.le_of_ble_eq_true rfl) dX10_init_91 (fun r15 => ?_)
  refine n_eq (ws' := ws0 ++ ([(b, .inr (10, [.null, .null, .null, .ref q1, .ref q2, .ref q4, .ref q6, .long 0, .long 1])), (q1, .inl (gca Y 1, 2, .inl (fun _ => 0)))] ++ (([(q2, .inr (9, [.ref r3, .int 0, .int 0, .int 0, .int 0, .int (-1)]))] ++ [(r3, .inl (gca Y 0, 150, .inl (fun _ => 0)))]) ++ (rblk Y q4 r5 ++ [(q6, .inl (gca Y 0, 3, .inl (fun _ => 0))), (q7, .inl (gca Y 2, 6, .inr (.inr (.inr (.inr (va_up (va_up (va_up (fun _ => none) 0 (some q8)) 1 (some q10)) 2 (some q12))))))), (q8, .inr (4, [])), (q10, .inr (6, [])), (q12, .inr (0, [])), (q14, .inr (8, []))])))) 21 370 (by simp only [List.append_assoc, List.cons_append, List.nil_append]) rfl rfl ?_
  refine n_ast (p := 17) (pk := 21) (t0 := 2) (ci := 8) hC (([(b, .inr (10, [.null, .null, .null, .ref q1, .ref q2, .ref q4, .ref q6, .long 0, .long 1])), (q1, .inl (gca Y 1, 2, .inl (fun _ => 0)))] ++ (([(q2, .inr (9, [.ref r3, .int 0, .int 0, .int 0, .int 0, .int (-1)]))] ++ [(r3, .inl (gca Y 0, 150, .inl (fun _ => 0)))]) ++ (rblk Y q4 r5 ++ [(q6, .inl (gca Y 0, 3, .inl (fun _ => 0))), (q7, .inl (gca Y 2, 6, .inr (.inr (.inr (.inr (va_up (va_up (va_up (va_up (fun _ => none) 0 (some q8)) 1 (some q10)) 2 (some q12)) 3 (some q14))))))), (q8, .inr (4, [])), (q10, .inr (6, [])), (q12, .inr (0, [])), (q14, .inr (8, []))])))) rfl rfl (Or.inr (hC.2.2.2.2.2.1.2.2.2.2.2 _ (by decide))) rfl rfl (by show ¬ _; decide) rfl dX10_init_94 ?_
  refine n_dup hC dX10_init_95 rfl ?_
  refine n_iconst hC 4 dX10_init_96 rfl ?_
  refine n_new (ci := 2) hC [] rfl in_X2 tyX2_ok wL_X10_50 wT_X2 wI_X2 (fun j hj => absurd hj (Nat.not_lt_zero j)) (by decide) (by decide) dX10_init_97 (fun q16 => ?_)
  refine n_eq (ws' := ws0 ++ ([(b, .inr (10, [.null, .null, .null, .ref q1, .ref q2, .ref q4, .ref q6, .long 0, .long 1])), (q1, .inl (gca Y 1, 2, .inl (fun _ => 0)))] ++ (([(q2, .inr (9, [.ref r3, .int 0, .int 0, .int 0, .int 0, .int (-1)]))] ++ [(r3, .inl (gca Y 0, 150, .inl (fun _ => 0)))]) ++ (rblk Y q4 r5 ++ [(q6, .inl (gca Y 0, 3, .inl (fun _ => 0))), (q7, .inl (gca Y 2, 6, .inr (.inr (.inr (.inr (va_up (va_up (va_up (va_up (fun _ => none) 0 (some q8)) 1 (some q10)) 2 (some q12)) 3 (some q14))))))), (q8, .inr (4, [])), (q10, .inr (6, [])), (q12, .inr (0, [])), (q14, .inr (8, [])), (q16, .inr (2, []))])))) 22 370 (by simp only [List.append_assoc, List.cons_append, List.nil_append]) rfl rfl ?_
  refine n_dup hC dX10_init_100 rfl ?_
  refine n_eq (ws' := ws0 ++ (([(b, .inr (10, [.null, .null, .null, .ref q1, .ref q2, .ref q4, .ref q6, .long 0, .long 1])), (q1, .inl (gca Y 1, 2, .inl (fun _ => 0)))] ++ (([(q2, .inr (9, [.ref r3, .int 0, .int 0, .int 0, .int 0, .int (-1)]))] ++ [(r3, .inl (gca Y 0, 150, .inl (fun _ => 0)))]) ++ (rblk Y q4 r5 ++ [(q6, .inl (gca Y 0, 3, .inl (fun _ => 0))), (q7, .inl (gca Y 2, 6, .inr (.inr (.inr (.inr (va_up (va_up (va_up (va_up (fun _ => none) 0 (some q8)) 1 (some q10)) 2 (some q12)) 3 (some q14))))))), (q8, .inr (4, [])), (q10, .inr (6, [])), (q12, .inr (0, [])), (q14, .inr (8, []))]))) ++ [(q16, .inr (2, []))])) 22 370 (by simp only [List.append_assoc, List.cons_append, List.nil_append]) rfl rfl ?_
  refine n_call (k := 22) (n := 370) (l := ([(b, .inr (10, [.null, .null, .null, .ref q1, .ref q2, .ref q4, .ref q6, .long 0, .long 1])), (q1, .inl (gca Y 1, 2, .inl (fun _ => 0)))] ++ (([(q2, .inr (9, [.ref r3, .int 0, .int 0, .int 0, .int 0, .int (-1)]))] ++ [(r3, .inl (gca Y 0, 150, .inl (fun _ => 0)))]) ++ (rblk Y q4 r5 ++ [(q6, .inl (gca Y 0, 3, .inl (fun _ => 0))), (q7, .inl (gca Y 2, 6, .inr (.inr (.inr (.inr (va_up (va_up (va_up (va_up (fun _ => none) 0 (some q8)) 1 (some q10)) 2 (some q12)) 3 (some q14))))))), (q8, .inr (4, [])), (q10, .inr (6, [])), (q12, .inr (0, [])), (q14, .inr (8, []))])))) (As := []) (rest := [.ref q16, .int 4, .ref q7, .ref q7]) hC mt_X2_init rfl mi_X2_init (Or.inr ⟨_, wG_X10_52⟩) c_X2_init ⟨by decide, by decide, by decide, by decide⟩ rfl rfl (Nat.le_of_ble_eq_true rfl) dX10_init_101 (fun r17 => ?_)
  refine n_eq (ws' := ws0 ++ ([(b, .inr (10, [.null, .null, .null, .ref q1, .ref q2, .ref q4, .ref q6, .long 0, .long 1])), (q1, .inl (gca Y 1, 2, .inl (fun _ => 0)))] ++ (([(q2, .inr (9, [.ref r3, .int 0, .int 0, .int 0, .int 0, .int (-1)]))] ++ [(r3, .inl (gca Y 0, 150, .inl (fun _ => 0)))]) ++ (rblk Y q4 r5 ++ [(q6, .inl (gca Y 0, 3, .inl (fun _ => 0))), (q7, .inl (gca Y 2, 6, .inr (.inr (.inr (.inr (va_up (va_up (va_up (va_up (fun _ => none) 0 (some q8)) 1 (some q10)) 2 (some q12)) 3 (some q14))))))), (q8, .inr (4, [])), (q10, .inr (6, [])), (q12, .inr (0, [])), (q14, .inr (8, [])), (q16, .inr (2, []))])))) 22 370 (by simp only [List.append_assoc, List.cons_append, List.nil_append]) rfl rfl ?_
  refine n_ast (p := 17) (pk := 22) (t0 := 2) (ci := 2) hC (([(b, .inr (10, [.null, .null, .null, .ref q1, .ref q2, .ref q4, .ref q6, .long 0, .long 1])), (q1, .inl (gca Y 1, 2, .inl (fun _ => 0)))] ++ (([(q2, .inr (9, [.ref r3, .int 0, .int 0, .int 0, .int 0, .int (-1)]))] ++ [(r3, .inl (gca Y 0, 150, .inl (fun _ => 0)))]) ++ (rblk Y q4 r5 ++ [(q6, .inl (gca Y 0, 3, .inl (fun _ => 0))), (q7, .inl (gca Y 2, 6, .inr (.inr (.inr (.inr (va_up (va_up (va_up (va_up (va_up (fun _ => none) 0 (some q8)) 1 (some q10)) 2 (some q12)) 3 (some q14)) 4 (some q16))))))), (q8, .inr (4, [])), (q10, .inr (6, [])), (q12, .inr (0, [])), (q14, .inr (8, [])), (q16, .inr (2, []))])))) rfl rfl (Or.inr (hC.2.2.2.2.2.1.2.2.2.2.2 _ (by decide))) rfl rfl (by show ¬ _; decide) rfl dX10_init_104 ?_
  refine n_dup hC dX10_init_105 rfl ?_
  refine n_iconst hC 5 dX10_init_106 rfl ?_
  refine n_new (ci := 5) hC [] rfl in_X5 tyX5_ok wL_X10_53 wT_X5 wI_X5 (fun j hj => absurd hj (Nat.not_lt_zero j)) (by decide) (by decide) dX10_init_107 (fun q18 => ?_)
  refine n_eq (ws' := ws0 ++ ([(b, .inr (10, [.null, .null, .null, .ref q1, .ref q2, .ref q4, .ref q6, .long 0, .long 1])), (q1, .inl (gca Y 1, 2, .inl (fun _ => 0)))] ++ (([(q2, .inr (9, [.ref r3, .int 0, .int 0, .int 0, .int 0, .int (-1)]))] ++ [(r3, .inl (gca Y 0, 150, .inl (fun _ => 0)))]) ++ (rblk Y q4 r5 ++ [(q6, .inl (gca Y 0, 3, .inl (fun _ => 0))), (q7, .inl (gca Y 2, 6, .inr (.inr (.inr (.inr (va_up (va_up (va_up (va_up (va_up (fun _ => none) 0 (some q8)) 1 (some q10)) 2 (some q12)) 3 (some q14)) 4 (some q16))))))), (q8, .inr (4, [])), (q10, .inr (6, [])), (q12, .inr (0, [])), (q14, .inr (8, [])), (q16, .inr (2, [])), (q18, .inr (5, []))])))) 23 370 (by simp only [List.append_assoc, List.cons_append, List.nil_append]) rfl rfl ?_
  refine n_dup hC dX10_init_110 rfl ?_
  refine n_eq (ws' := ws0 ++ (([(b, .inr (10, [.null, .null, .null, .ref q1, .ref q2, .ref q4, .ref q6, .long 0, .long 1])), (q1, .inl (gca Y 1, 2, .inl (fun _ => 0)))] ++ (([(q2, .inr (9, [.ref r3, .int 0, .int 0, .int 0, .int 0, .int (-1)]))] ++ [(r3, .inl (gca Y 0, 150, .inl (fun _ => 0)))]) ++ (rblk Y q4 r5 ++ [(q6, .inl (gca Y 0, 3, .inl (fun _ => 0))), (q7, .inl (gca Y 2, 6, .inr (.inr (.inr (.inr (va_up (va_up (va_up (va_up (va_up (fun _ => none) 0 (some q8)) 1 (some q10)) 2 (some q12)) 3 (some q14)) 4 (some q16))))))), (q8, .inr (4, [])), (q10, .inr (6, [])), (q12, .inr (0, [])), (q14, .inr (8, [])), (q16, .inr (2, []))]))) ++ [(q18, .inr (5, []))])) 23 370 (by simp only [List.append_assoc, List.cons_append, List.nil_append]) rfl rfl ?_
  refine n_call (k := 23) (n := 370) (l := ([(b, .inr (10, [.null, .null, .null, .ref q1, .ref q2, .ref q4, .ref q6, .long 0, .long 1])), (q1, .inl (gca Y 1, 2, .inl (fun _ => 0)))] ++ (([(q2, .inr (9, [.ref r3, .int 0, .int 0, .int 0, .int 0, .int (-1)]))] ++ [(r3, .inl (gca Y 0, 150, .inl (fun _ => 0)))]) ++ (rblk Y q4 r5 ++ [(q6, .inl (gca Y 0, 3, .inl (fun _ => 0))), (q7, .inl (gca Y 2, 6, .inr (.inr (.inr (.inr (va_up (va_up (va_up (va_up (va_up (fun _ => none) 0 (some q8)) 1 (some q10)) 2 (some q12)) 3 (some q14)) 4 (some q16))))))), (q8, .inr (4, [])), (q10, .inr (6, [])), (q12, .inr (0, [])), (q14, .inr (8, [])), (q16, .inr (2, []))])))) (As := []) (rest := [.ref q18, .int 5, .ref q7, .ref q7]) hC mt_X5_init rfl mi_X5_init (Or.inr ⟨_, wG_X10_55⟩) c_X5_init ⟨by decide, by decide, by decide, by decide⟩ rfl rfl (Nat.le_of_ble_eq_true rfl) dX10_init_111 (fun r19 => ?_)
  refine n_eq (ws' := ws0 ++ ([(b, .inr (10, [.null, .null, .null, .ref q1, .ref q2, .ref q4, .ref q6, .long 0, .long 1])), (q1, .inl (gca Y 1, 2, .inl (fun _ => 0)))] ++ (([(q2, .inr (9, [.ref r3, .int 0, .int 0, .int 0, .int 0, .int (-1)]))] ++ [(r3, .inl (gca Y 0, 150, .inl (fun _ => 0)))]) ++ (rblk Y q4 r5 ++ [(q6, .inl (gca Y 0, 3, .inl (fun _ => 0))), (q7, .inl (gca Y 2, 6, .inr (.inr (.inr (.inr (va_up (va_up (va_up (va_up (va_up (fun _ => none) 0 (some q8)) 1 (some q10)) 2 (some q12)) 3 (some q14)) 4 (some q16))))))), (q8, .inr (4, [])), (q10, .inr (6, [])), (q12, .inr (0, [])), (q14, .inr (8, [])), (q16, .inr (2, [])), (q18, .inr (5, []))])))) 23 370 (by simp only [List.append_assoc, List.cons_append, List.nil_append]) rfl rfl ?_
  refine n_ast (p := 17) (pk := 23) (t0 := 2) (ci := 5) hC (([(b, .inr (10, [.null, .null, .null, .ref q1, .ref q2, .ref q4, .ref q6, .long 0, .long 1])), (q1, .inl (gca Y 1, 2, .inl (fun _ => 0)))] ++ (([(q2, .inr (9, [.ref r3, .int 0, .int 0, .int 0, .int 0, .int (-1)]))] ++ [(r3, .inl (gca Y 0, 150, .inl (fun _ => 0)))]) ++ (rblk Y q4 r5 ++ [(q6, .inl (gca Y 0, 3, .inl (fun _ => 0))), (q7, .inl (gca Y 2, 6, .inr (.inr (.inr (.inr (va_up (va_up (va_up (va_up (va_up (va_up (fun _ => none) 0 (some q8)) 1 (some q10)) 2 (some q12)) 3 (some q14)) 4 (some q16)) 5 (some q18))))))), (q8, .inr (4, [])), (q10, .inr (6, [])), (q12, .inr (0, [])), (q14, .inr (8, [])), (q16, .inr (2, [])), (q18, .inr (5, []))])))) rfl rfl (Or.inr (hC.2.2.2.2.2.1.2.2.2.2.2 _ (by decide))) rfl rfl (by show ¬ _; decide) rfl dX10_init_114 ?_
  refine n_astore_n hC [(1, .ref q7), (0, .ref b)] dX10_init_115 rfl (by decide) rfl ?_
  refine n_aload_n hC 1 dX10_init_116 rfl rfl ?_
  refine n_new (ci := 1) hC [.null, .null, .null, .null, .null, .null, .null, .null, .null, .null, .null, .int 0, .int 0, .int 0, .int 0, .int 0] rfl in_X1 tyX1_ok wL_X10_56 wT_X1 wI_X1 hfs_X1 (by decide) (by decide) dX10_init_117 (fun q20 => ?_)
  refine n_eq (ws' := ws0 ++ ([(b, .inr (10, [.null, .null, .null, .ref q1, .ref q2, .ref q4, .ref q6, .long 0, .long 1])), (q1, .inl (gca Y 1, 2, .inl (fun _ => 0)))] ++ (([(q2, .inr (9, [.ref r3, .int 0, .int 0, .int 0, .int 0, .int (-1)]))] ++ [(r3, .inl (gca Y 0, 150, .inl (fun _ => 0)))]) ++ (rblk Y q4 r5 ++ [(q6, .inl (gca Y 0, 3, .inl (fun _ => 0))), (q7, .inl (gca Y 2, 6, .inr (.inr (.inr (.inr (va_up (va_up (va_up (va_up (va_up (va_up (fun _ => none) 0 (some q8)) 1 (some q10)) 2 (some q12)) 3 (some q14)) 4 (some q16)) 5 (some q18))))))), (q8, .inr (4, [])), (q10, .inr (6, [])), (q12, .inr (0, [])), (q14, .inr (8, [])), (q16, .inr (2, [])), (q18, .inr (5, [])), (q20, .inr (1, [.null, .null, .null, .null, .null, .null, .null, .null, .null, .null, .null, .int 0, .int 0, .int 0, .int 0, .int 0]))])))) 24 386 (by simp only [List.append_assoc, List.cons_append, List.nil_append]) rfl rfl ?_
  refine n_dup hC dX10_init_120 rfl ?_
  refine n_aload_n hC 0 dX10_init_121 rfl rfl ?_
  refine n_eq (ws' := ws0 ++ (([(b, .inr (10, [.null, .null, .null, .ref q1, .ref q2, .ref q4, .ref q6, .long 0, .long 1])), (q1, .inl (gca Y 1, 2, .inl (fun _ => 0)))] ++ (([(q2, .inr (9, [.ref r3, .int 0, .int 0, .int 0, .int 0, .int (-1)]))] ++ [(r3, .inl (gca Y 0, 150, .inl (fun _ => 0)))]) ++ (rblk Y q4 r5 ++ [(q6, .inl (gca Y 0, 3, .inl (fun _ => 0))), (q7, .inl (gca Y 2, 6, .inr (.inr (.inr (.inr (va_up (va_up (va_up (va_up (va_up (va_up (fun _ => none) 0 (some q8)) 1 (some q10)) 2 (some q12)) 3 (some q14)) 4 (some q16)) 5 (some q18))))))), (q8, .inr (4, [])), (q10, .inr (6, [])), (q12, .inr (0, [])), (q14, .inr (8, [])), (q16, .inr (2, [])), (q18, .inr (5, []))]))) ++ [(q20, .inr (1, [.null, .null, .null, .null, .null, .null, .null, .null, .null, .null, .null, .int 0, .int 0, .int 0, .int 0, .int 0]))])) 24 386 (by simp only [List.append_assoc, List.cons_append, List.nil_append]) rfl rfl ?_
  refine n_call (k := 24) (n := 386) (l := ([(b, .inr (10, [.null, .null, .null, .ref q1, .ref q2, .ref q4, .ref q6, .long 0, .long 1])), (q1, .inl (gca Y 1, 2, .inl (fun _ => 0)))] ++ (([(q2, .inr (9, [.ref r3, .int 0, .int 0, .int 0, .int 0, .int (-1)]))] ++ [(r3, .inl (gca Y 0, 150, .inl (fun _ => 0)))]) ++ (rblk Y q4 r5 ++ [(q6, .inl (gca Y 0, 3, .inl (fun _ => 0))), (q7, .inl (gca Y 2, 6, .inr (.inr (.inr (.inr (va_up (va_up (va_up (va_up (va_up (va_up (fun _ => none) 0 (some q8)) 1 (some q10)) 2 (some q12)) 3 (some q14)) 4 (some q16)) 5 (some q18))))))), (q8, .inr (4, [])), (q10, .inr (6, [])), (q12, .inr (0, [])), (q14, .inr (8, [])), (q16, .inr (2, [])), (q18, .inr (5, []))])))) (As := [.ref q7]) (rest := [.ref q20, .ref b]) hC mt_X1_init rfl mi_X1_init (Or.inl wM_X10_58) c_X1_init ⟨by decide, by decide, by decide, by decide⟩ rfl rfl (Nat.le_of_ble_eq_true rfl) dX10_init_122 (fun r21 => ?_)
  refine n_eq (ws' := ws0 ++ ([(b, .inr (10, [.null, .null, .null, .ref q1, .ref q2, .ref q4, .ref q6, .long 0, .long 1])), (q1, .inl (gca Y 1, 2, .inl (fun _ => 0)))] ++ (([(q2, .inr (9, [.ref r3, .int 0, .int 0, .int 0, .int 0, .int (-1)]))] ++ [(r3, .inl (gca Y 0, 150, .inl (fun _ => 0)))]) ++ (rblk Y q4 r5 ++ ([(q6, .inl (gca Y 0, 3, .inl (fun _ => 0))), (q7, .inl (gca Y 2, 6, .inr (.inr (.inr (.inr (va_up (va_up (va_up (va_up (va_up (va_up (fun _ => none) 0 (some q8)) 1 (some q10)) 2 (some q12)) 3 (some q14)) 4 (some q16)) 5 (some q18))))))), (q8, .inr (4, [])), (q10, .inr (6, [])), (q12, .inr (0, [])), (q14, .inr (8, [])), (q16, .inr (2, [])), (q18, .inr (5, []))] ++ hblk Y q20 q7 r21))))) 57 603 (by simp only [List.append_assoc, List.cons_append, List.nil_append]) rfl rfl ?_
  refine n_putF (j := 0) (p := 0) hC (([(b, .inr (10, [.ref q20, .null, .null, .ref q1, .ref q2, .ref q4, .ref q6, .long 0, .long 1])), (q1, .inl (gca Y 1, 2, .inl (fun _ => 0)))] ++ (([(q2, .inr (9, [.ref r3, .int 0, .int 0, .int 0, .int 0, .int (-1)]))] ++ [(r3, .inl (gca Y 0, 150, .inl (fun _ => 0)))]) ++ (rblk Y q4 r5 ++ ([(q6, .inl (gca Y 0, 3, .inl (fun _ => 0))), (q7, .inl (gca Y 2, 6, .inr (.inr (.inr (.inr (va_up (va_up (va_up (va_up (va_up (va_up (fun _ => none) 0 (some q8)) 1 (some q10)) 2 (some q12)) 3 (some q14)) 4 (some q16)) 5 (some q18))))))), (q8, .inr (4, [])), (q10, .inr (6, [])), (q12, .inr (0, [])), (q14, .inr (8, [])), (q16, .inr (2, [])), (q18, .inr (5, []))] ++ hblk Y q20 q7 r21))))) hmn rfl rfl in_X10 tyX10_ok nmX10 (by decide) wF_X10_61 rfl rfl (tyX10_ok 0 (by decide)) rfl rfl (Nat.le_of_ble_eq_true rfl) rfl dX10_init_125 ?_
  refine n_aload_n hC 1 dX10_init_128 rfl rfl ?_
  refine n_new (ci := 1) hC [.null, .null, .null, .null, .null, .null, .null, .null, .null, .null, .null, .int 0, .int 0, .int 0, .int 0, .int 0] rfl in_X1 tyX1_ok wL_X10_56 wT_X1 wI_X1 hfs_X1 (by decide) (by decide) dX10_init_129 (fun q22 => ?_)
  refine n_eq (ws' := ws0 ++ ([(b, .inr (10, [.ref q20, .null, .null, .ref q1, .ref q2, .ref q4, .ref q6, .long 0, .long 1])), (q1, .inl (gca Y 1, 2, .inl (fun _ => 0)))] ++ (([(q2, .inr (9, [.ref r3, .int 0, .int 0, .int 0, .int 0, .int (-1)]))] ++ [(r3, .inl (gca Y 0, 150, .inl (fun _ => 0)))]) ++ (rblk Y q4 r5 ++ ([(q6, .inl (gca Y 0, 3, .inl (fun _ => 0))), (q7, .inl (gca Y 2, 6, .inr (.inr (.inr (.inr (va_up (va_up (va_up (va_up (va_up (va_up (fun _ => none) 0 (some q8)) 1 (some q10)) 2 (some q12)) 3 (some q14)) 4 (some q16)) 5 (some q18))))))), (q8, .inr (4, [])), (q10, .inr (6, [])), (q12, .inr (0, [])), (q14, .inr (8, [])), (q16, .inr (2, [])), (q18, .inr (5, []))] ++ (hblk Y q20 q7 r21 ++ [(q22, .inr (1, [.null, .null, .null, .null, .null, .null, .null, .null, .null, .null, .null, .int 0, .int 0, .int 0, .int 0, .int 0]))])))))) 58 619 (by simp only [List.append_assoc, List.cons_append, List.nil_append]) rfl rfl ?_
  refine n_dup hC dX10_init_132 rfl ?_
  refine n_aload_n hC 0 dX10_init_133 rfl rfl ?_
  refine n_eq (ws' := ws0 ++ (([(b, .inr (10, [.ref q20, .null, .null, .ref q1, .ref q2, .ref q4, .ref q6, .long 0, .long 1])), (q1, .inl (gca Y 1, 2, .inl (fun _ => 0)))] ++ (([(q2, .inr (9, [.ref r3, .int 0, .int 0, .int 0, .int 0, .int (-1)]))] ++ [(r3, .inl (gca Y 0, 150, .inl (fun _ => 0)))]) ++ (rblk Y q4 r5 ++ ([(q6, .inl (gca Y 0, 3, .inl (fun _ => 0))), (q7, .inl (gca Y 2, 6, .inr (.inr (.inr (.inr (va_up (va_up (va_up (va_up (va_up (va_up (fun _ => none) 0 (some q8)) 1 (some q10)) 2 (some q12)) 3 (some q14)) 4 (some q16)) 5 (some q18))))))), (q8, .inr (4, [])), (q10, .inr (6, [])), (q12, .inr (0, [])), (q14, .inr (8, [])), (q16, .inr (2, [])), (q18, .inr (5, []))] ++ hblk Y q20 q7 r21)))) ++ [(q22, .inr (1, [.null, .null, .null, .null, .null, .null, .null, .null, .null, .null, .null, .int 0, .int 0, .int 0, .int 0, .int 0]))])) 58 619 (by simp only [List.append_assoc, List.cons_append, List.nil_append]) rfl rfl ?_
  refine n_call (k := 58) (n := 619) (l := ([(b, .inr (10, [.ref q20, .null, .null, .ref q1, .ref q2, .ref q4, .ref q6, .long 0, .long 1])), (q1, .inl (gca Y 1, 2, .inl (fun _ => 0)))] ++ (([(q2, .inr (9, [.ref r3, .int 0, .int 0, .int 0, .int 0, .int (-1)]))] ++ [(r3, .inl (gca Y 0, 150, .inl (fun _ => 0)))]) ++ (rblk Y q4 r5 ++ ([(q6, .inl (gca Y 0, 3, .inl (fun _ => 0))), (q7, .inl (gca Y 2, 6, .inr (.inr (.inr (.inr (va_up (va_up (va_up (va_up (va_up (va_up (fun _ => none) 0 (some q8)) 1 (some q10)) 2 (some q12)) 3 (some q14)) 4 (some q16)) 5 (some q18))))))), (q8, .inr (4, [])), (q10, .inr (6, [])), (q12, .inr (0, [])), (q14, .inr (8, [])), (q16, .inr (2, [])), (q18, .inr (5, []))] ++ hblk Y q20 q7 r21))))) (As := [.ref q7]) (rest := [.ref q22, .ref b]) hC mt_X1_init rfl mi_X1_init (Or.inl wM_X10_58) c_X1_init ⟨by decide, by decide, by decide, by decide⟩ rfl rfl (Nat.le_of_ble_eq_true rfl) dX10_init_134 (fun r23 => ?_)
  refine n_eq (ws' := ws0 ++ ([(b, .inr (10, [.ref q20, .null, .null, .ref q1, .ref q2, .ref q4, .ref q6, .long 0, .long 1])), (q1, .inl (gca Y 1, 2, .inl (fun _ => 0)))] ++ (([(q2, .inr (9, [.ref r3, .int 0, .int 0, .int 0, .int 0, .int (-1)]))] ++ [(r3, .inl (gca Y 0, 150, .inl (fun _ => 0)))]) ++ (rblk Y q4 r5 ++ ([(q6, .inl (gca Y 0, 3, .inl (fun _ => 0))), (q7, .inl (gca Y 2, 6, .inr (.inr (.inr (.inr (va_up (va_up (va_up (va_up (va_up (va_up (fun _ => none) 0 (some q8)) 1 (some q10)) 2 (some q12)) 3 (some q14)) 4 (some q16)) 5 (some q18))))))), (q8, .inr (4, [])), (q10, .inr (6, [])), (q12, .inr (0, [])), (q14, .inr (8, [])), (q16, .inr (2, [])), (q18, .inr (5, []))] ++ (hblk Y q20 q7 r21 ++ hblk Y q22 q7 r23)))))) 91 836 (by simp only [List.append_assoc, List.cons_append, List.nil_append]) rfl rfl ?_
  refine n_putF (j := 1) (p := 0) hC (([(b, .inr (10, [.ref q20, .ref q22, .null, .ref q1, .ref q2, .ref q4, .ref q6, .long 0, .long 1])), (q1, .inl (gca Y 1, 2, .inl (fun _ => 0)))] ++ (([(q2, .inr (9, [.ref r3, .int 0, .int 0, .int 0, .int 0, .int (-1)]))] ++ [(r3, .inl (gca Y 0, 150, .inl (fun _ => 0)))]) ++ (rblk Y q4 r5 ++ ([(q6, .inl (gca Y 0, 3, .inl (fun _ => 0))), (q7, .inl (gca Y 2, 6, .inr (.inr (.inr (.inr (va_up (va_up (va_up (va_up (va_up (va_up (fun _ => none) 0 (some q8)) 1 (some q10)) 2 (some q12)) 3 (some q14)) 4 (some q16)) 5 (some q18))))))), (q8, .inr (4, [])), (q10, .inr (6, [])), (q12, .inr (0, [])), (q14, .inr (8, [])), (q16, .inr (2, [])), (q18, .inr (5, []))] ++ (hblk Y q20 q7 r21 ++ hblk Y q22 q7 r23)))))) hmn rfl rfl in_X10 tyX10_ok nmX10 (by decide) wF_X10_65 rfl rfl (tyX10_ok 1 (by decide)) rfl rfl (Nat.le_of_ble_eq_true rfl) rfl dX10_init_137 ?_
  refine n_aload_n hC 1 dX10_init_140 rfl rfl ?_
  refine n_iconst hC 2 dX10_init_141 rfl ?_
  refine n_anew (t0 := 3) hC 2 wL_X10_56 hC.2.2.2.2.2.1.2.2.2.1 rfl (by decide) rfl (by decide) (by decide) (by decide) dX10_init_142 (fun q24 => ?_)
  refine n_eq (ws' := ws0 ++ ([(b, .inr (10, [.ref q20, .ref q22, .null, .ref q1, .ref q2, .ref q4, .ref q6, .long 0, .long 1])), (q1, .inl (gca Y 1, 2, .inl (fun _ => 0)))] ++ (([(q2, .inr (9, [.ref r3, .int 0, .int 0, .int 0, .int 0, .int (-1)]))] ++ [(r3, .inl (gca Y 0, 150, .inl (fun _ => 0)))]) ++ (rblk Y q4 r5 ++ ([(q6, .inl (gca Y 0, 3, .inl (fun _ => 0))), (q7, .inl (gca Y 2, 6, .inr (.inr (.inr (.inr (va_up (va_up (va_up (va_up (va_up (va_up (fun _ => none) 0 (some q8)) 1 (some q10)) 2 (some q12)) 3 (some q14)) 4 (some q16)) 5 (some q18))))))), (q8, .inr (4, [])), (q10, .inr (6, [])), (q12, .inr (0, [])), (q14, .inr (8, [])), (q16, .inr (2, [])), (q18, .inr (5, []))] ++ (hblk Y q20 q7 r21 ++ (hblk Y q22 q7 r23 ++ [(q24, .inl (gca Y 3, 2, .inr (.inr (.inr (.inr (fun _ => none))))))]))))))) 92 838 (by simp only [List.append_assoc, List.cons_append, List.nil_append]) rfl rfl ?_
  refine n_dup hC dX10_init_145 rfl ?_
  refine n_iconst hC 0 dX10_init_146 rfl ?_
  refine n_new (ci := 1) hC [.null, .null, .null, .null, .null, .null, .null, .null, .null, .null, .null, .int 0, .int 0, .int 0, .int 0, .int 0] rfl in_X1 tyX1_ok wL_X10_56 wT_X1 wI_X1 hfs_X1 (by decide) (by decide) dX10_init_147 (fun q25 => ?_)
  refine n_eq (ws' := ws0 ++ ([(b, .inr (10, [.ref q20, .ref q22, .null, .ref q1, .ref q2, .ref q4, .ref q6, .long 0, .long 1])), (q1, .inl (gca Y 1, 2, .inl (fun _ => 0)))] ++ (([(q2, .inr (9, [.ref r3, .int 0, .int 0, .int 0, .int 0, .int (-1)]))] ++ [(r3, .inl (gca Y 0, 150, .inl (fun _ => 0)))]) ++ (rblk Y q4 r5 ++ ([(q6, .inl (gca Y 0, 3, .inl (fun _ => 0))), (q7, .inl (gca Y 2, 6, .inr (.inr (.inr (.inr (va_up (va_up (va_up (va_up (va_up (va_up (fun _ => none) 0 (some q8)) 1 (some q10)) 2 (some q12)) 3 (some q14)) 4 (some q16)) 5 (some q18))))))), (q8, .inr (4, [])), (q10, .inr (6, [])), (q12, .inr (0, [])), (q14, .inr (8, [])), (q16, .inr (2, [])), (q18, .inr (5, []))] ++ (hblk Y q20 q7 r21 ++ (hblk Y q22 q7 r23 ++ [(q24, .inl (gca Y 3, 2, .inr (.inr (.inr (.inr (fun _ => none)))))), (q25, .inr (1, [.null, .null, .null, .null, .null, .null, .null, .null, .null, .null, .null, .int 0, .int 0, .int 0, .int 0, .int 0]))]))))))) 93 854 (by simp only [List.append_assoc, List.cons_append, List.nil_append]) rfl rfl ?_
  refine n_dup hC dX10_init_150 rfl ?_
  refine n_aload_n hC 0 dX10_init_151 rfl rfl ?_
  refine n_eq (ws' := ws0 ++ (([(b, .inr (10, [.ref q20, .ref q22, .null, .ref q1, .ref q2, .ref q4, .ref q6, .long 0, .long 1])), (q1, .inl (gca Y 1, 2, .inl (fun _ => 0)))] ++ (([(q2, .inr (9, [.ref r3, .int 0, .int 0, .int 0, .int 0, .int (-1)]))] ++ [(r3, .inl (gca Y 0, 150, .inl (fun _ => 0)))]) ++ (rblk Y q4 r5 ++ ([(q6, .inl (gca Y 0, 3, .inl (fun _ => 0))), (q7, .inl (gca Y 2, 6, .inr (.inr (.inr (.inr (va_up (va_up (va_up (va_up (va_up (va_up (fun _ => none) 0 (some q8)) 1 (some q10)) 2 (some q12)) 3 (some q14)) 4 (some q16)) 5 (some q18))))))), (q8, .inr (4, [])), (q10, .inr (6, [])), (q12, .inr (0, [])), (q14, .inr (8, [])), (q16, .inr (2, [])), (q18, .inr (5, []))] ++ (hblk Y q20 q7 r21 ++ (hblk Y q22 q7 r23 ++ [(q24, .inl (gca Y 3, 2, .inr (.inr (.inr (.inr (fun _ => none))))))])))))) ++ [(q25, .inr (1, [.null, .null, .null, .null, .null, .null, .null, .null, .null, .null, .null, .int 0, .int 0, .int 0, .int 0, .int 0]))])) 93 854 (by simp only [List.append_assoc, List.cons_append, List.nil_append]) rfl rfl ?_
  refine n_call (k := 93) (n := 854) (l := ([(b, .inr (10, [.ref q20, .ref q22, .null, .ref q1, .ref q2, .ref q4, .ref q6, .long 0, .long 1])), (q1, .inl (gca Y 1, 2, .inl (fun _ => 0)))] ++ (([(q2, .inr (9, [.ref r3, .int 0, .int 0, .int 0, .int 0, .int (-1)]))] ++ [(r3, .inl (gca Y 0, 150, .inl (fun _ => 0)))]) ++ (rblk Y q4 r5 ++ ([(q6, .inl (gca Y 0, 3, .inl (fun _ => 0))), (q7, .inl (gca Y 2, 6, .inr (.inr (.inr (.inr (va_up (va_up (va_up (va_up (va_up (va_up (fun _ => none) 0 (some q8)) 1 (some q10)) 2 (some q12)) 3 (some q14)) 4 (some q16)) 5 (some q18))))))), (q8, .inr (4, [])), (q10, .inr (6, [])), (q12, .inr (0, [])), (q14, .inr (8, [])), (q16, .inr (2, [])), (q18, .inr (5, []))] ++ (hblk Y q20 q7 r21 ++ (hblk Y q22 q7 r23 ++ [(q24, .inl (gca Y 3, 2, .inr (.inr (.inr (.inr (fun _ => none))))))]))))))) (As := [.ref q7]) (rest := [.ref q25, .int 0, .ref q24, .ref q24, .ref b]) hC mt_X1_init rfl mi_X1_init (Or.inl wM_X10_58) c_X1_init ⟨by decide, by decide, by decide, by decide⟩ rfl rfl (Nat.le_of_ble_eq_true rfl) dX10_init_152 (fun r26 => ?_)
  refine n_eq (ws' := ws0 ++ ([(b, .inr (10, [.ref q20, .ref q22, .null, .ref q1, .ref q2, .ref q4, .ref q6, .long 0, .long 1])), (q1, .inl (gca Y 1, 2, .inl (fun _ => 0)))] ++ (([(q2, .inr (9, [.ref r3, .int 0, .int 0, .int 0, .int 0, .int (-1)]))] ++ [(r3, .inl (gca Y 0, 150, .inl (fun _ => 0)))]) ++ (rblk Y q4 r5 ++ ([(q6, .inl (gca Y 0, 3, .inl (fun _ => 0))), (q7, .inl (gca Y 2, 6, .inr (.inr (.inr (.inr (va_up (va_up (va_up (va_up (va_up (va_up (fun _ => none) 0 (some q8)) 1 (some q10)) 2 (some q12)) 3 (some q14)) 4 (some q16)) 5 (some q18))))))), (q8, .inr (4, [])), (q10, .inr (6, [])), (q12, .inr (0, [])), (q14, .inr (8, [])), (q16, .inr (2, [])), (q18, .inr (5, []))] ++ (hblk Y q20 q7 r21 ++ (hblk Y q22 q7 r23 ++ ([(q24, .inl (gca Y 3, 2, .inr (.inr (.inr (.inr (fun _ => none))))))] ++ hblk Y q25 q7 r26)))))))) 126 1071 (by simp only [List.append_assoc, List.cons_append, List.nil_append]) rfl rfl ?_
  refine n_ast (p := 92) (pk := 93) (t0 := 3) (ci := 1) hC (([(b, .inr (10, [.ref q20, .ref q22, .null, .ref q1, .ref q2, .ref q4, .ref q6, .long 0, .long 1])), (q1, .inl (gca Y 1, 2, .inl (fun _ => 0)))] ++ (([(q2, .inr (9, [.ref r3, .int 0, .int 0, .int 0, .int 0, .int (-1)]))] ++ [(r3, .inl (gca Y 0, 150, .inl (fun _ => 0)))]) ++ (rblk Y q4 r5 ++ ([(q6, .inl (gca Y 0, 3, .inl (fun _ => 0))), (q7, .inl (gca Y 2, 6, .inr (.inr (.inr (.inr (va_up (va_up (va_up (va_up (va_up (va_up (fun _ => none) 0 (some q8)) 1 (some q10)) 2 (some q12)) 3 (some q14)) 4 (some q16)) 5 (some q18))))))), (q8, .inr (4, [])), (q10, .inr (6, [])), (q12, .inr (0, [])), (q14, .inr (8, [])), (q16, .inr (2, [])), (q18, .inr (5, []))] ++ (hblk Y q20 q7 r21 ++ (hblk Y q22 q7 r23 ++ ([(q24, .inl (gca Y 3, 2, .inr (.inr (.inr (.inr (va_up (fun _ => none) 0 (some q25)))))))] ++ hblk Y q25 q7 r26)))))))) rfl rfl (Or.inl rfl) rfl rfl (by show ¬ _; decide) rfl dX10_init_155 ?_
  refine n_dup hC dX10_init_156 rfl ?_
  refine n_iconst hC 1 dX10_init_157 rfl ?_
  refine n_new (ci := 1) hC [.null, .null, .null, .null, .null, .null, .null, .null, .null, .null, .null, .int 0, .int 0, .int 0, .int 0, .int 0] rfl in_X1 tyX1_ok wL_X10_56 wT_X1 wI_X1 hfs_X1 (by decide) (by decide) dX10_init_158 (fun q27 => ?_)
  refine n_eq (ws' := ws0 ++ ([(b, .inr (10, [.ref q20, .ref q22, .null, .ref q1, .ref q2, .ref q4, .ref q6, .long 0, .long 1])), (q1, .inl (gca Y 1, 2, .inl (fun _ => 0)))] ++ (([(q2, .inr (9, [.ref r3, .int 0, .int 0, .int 0, .int 0, .int (-1)]))] ++ [(r3, .inl (gca Y 0, 150, .inl (fun _ => 0)))]) ++ (rblk Y q4 r5 ++ ([(q6, .inl (gca Y 0, 3, .inl (fun _ => 0))), (q7, .inl (gca Y 2, 6, .inr (.inr (.inr (.inr (va_up (va_up (va_up (va_up (va_up (va_up (fun _ => none) 0 (some q8)) 1 (some q10)) 2 (some q12)) 3 (some q14)) 4 (some q16)) 5 (some q18))))))), (q8, .inr (4, [])), (q10, .inr (6, [])), (q12, .inr (0, [])), (q14, .inr (8, [])), (q16, .inr (2, [])), (q18, .inr (5, []))] ++ (hblk Y q20 q7 r21 ++ (hblk Y q22 q7 r23 ++ ([(q24, .inl (gca Y 3, 2, .inr (.inr (.inr (.inr (va_up (fun _ => none) 0 (some q25)))))))] ++ (hblk Y q25 q7 r26 ++ [(q27, .inr (1, [.null, .null, .null, .null, .null, .null, .null, .null, .null, .null, .null, .int 0, .int 0, .int 0, .int 0, .int 0]))]))))))))) 127 1087 (by simp only [List.append_assoc, List.cons_append, List.nil_append]) rfl rfl ?_
  refine n_dup hC dX10_init_161 rfl ?_
  refine n_aload_n hC 0 dX10_init_162 rfl rfl ?_
  refine n_eq (ws' := ws0 ++ (([(b, .inr (10, [.ref q20, .ref q22, .null, .ref q1, .ref q2, .ref q4, .ref q6, .long 0, .long 1])), (q1, .inl (gca Y 1, 2, .inl (fun _ => 0)))] ++ (([(q2, .inr (9, [.ref r3, .int 0, .int 0, .int 0, .int 0, .int (-1)]))] ++ [(r3, .inl (gca Y 0, 150, .inl (fun _ => 0)))]) ++ (rblk Y q4 r5 ++ ([(q6, .inl (gca Y 0, 3, .inl (fun _ => 0))), (q7, .inl (gca Y 2, 6, .inr (.inr (.inr (.inr (va_up (va_up (va_up (va_up (va_up (va_up (fun _ => none) 0 (some q8)) 1 (some q10)) 2 (some q12)) 3 (some q14)) 4 (some q16)) 5 (some q18))))))), (q8, .inr (4, [])), (q10, .inr (6, [])), (q12, .inr (0, [])), (q14, .inr (8, [])), (q16, .inr (2, [])), (q18, .inr (5, []))] ++ (hblk Y q20 q7 r21 ++ (hblk Y q22 q7 r23 ++ ([(q24, .inl (gca Y 3, 2, .inr (.inr (.inr (.inr (va_up (fun _ => none) 0 (some q25)))))))] ++ hblk Y q25 q7 r26))))))) ++ [(q27, .inr (1, [.null, .null, .null, .null, .null, .null, .null, .null, .null, .null, .null, .int 0, .int 0, .int 0, .int 0, .int 0]))])) 127 1087 (by simp only [List.append_assoc, List.cons_append, List.nil_append]) rfl rfl ?_
  refine n_call (k := 127) (n := 1087) (l := ([(b, .inr (10, [.ref q20, .ref q22, .null, .ref q1, .ref q2, .ref q4, .ref q6, .long 0, .long 1])), (q1, .inl (gca Y 1, 2, .inl (fun _ => 0)))] ++ (([(q2, .inr (9, [.ref r3, .int 0, .int 0, .int 0, .int 0, .int (-1)]))] ++ [(r3, .inl (gca Y 0, 150, .inl (fun _ => 0)))]) ++ (rblk Y q4 r5 ++ ([(q6, .inl (gca Y 0, 3, .inl (fun _ => 0))), (q7, .inl (gca Y 2, 6, .inr (.inr (.inr (.inr (va_up (va_up (va_up (va_up (va_up (va_up (fun _ => none) 0 (some q8)) 1 (some q10)) 2 (some q12)) 3 (some q14)) 4 (some q16)) 5 (some q18))))))), (q8, .inr (4, [])), (q10, .inr (6, [])), (q12, .inr (0, [])), (q14, .inr (8, [])), (q16, .inr (2, [])), (q18, .inr (5, []))] ++ (hblk Y q20 q7 r21 ++ (hblk Y q22 q7 r23 ++ ([(q24, .inl (gca Y 3, 2, .inr (.inr (.inr (.inr (va_up (fun _ => none) 0 (some q25)))))))] ++ hblk Y q25 q7 r26)))))))) (As := [.ref q7]) (rest := [.ref q27, .int 1, .ref q24, .ref q24, .ref b]) hC mt_X1_init rfl mi_X1_init (Or.inl wM_X10_58) c_X1_init ⟨by decide, by decide, by decide, by decide⟩ rfl rfl (Nat.le_of_ble_eq_true rfl) dX10_init_163 (fun r28 => ?_)
  refine n_eq (ws' := ws0 ++ ([(b, .inr (10, [.ref q20, .ref q22, .null, .ref q1, .ref q2, .ref q4, .ref q6, .long 0, .long 1])), (q1, .inl (gca Y 1, 2, .inl (fun _ => 0)))] ++ (([(q2, .inr (9, [.ref r3, .int 0, .int 0, .int 0, .int 0, .int (-1)]))] ++ [(r3, .inl (gca Y 0, 150, .inl (fun _ => 0)))]) ++ (rblk Y q4 r5 ++ ([(q6, .inl (gca Y 0, 3, .inl (fun _ => 0))), (q7, .inl (gca Y 2, 6, .inr (.inr (.inr (.inr (va_up (va_up (va_up (va_up (va_up (va_up (fun _ => none) 0 (some q8)) 1 (some q10)) 2 (some q12)) 3 (some q14)) 4 (some q16)) 5 (some q18))))))), (q8, .inr (4, [])), (q10, .inr (6, [])), (q12, .inr (0, [])), (q14, .inr (8, [])), (q16, .inr (2, [])), (q18, .inr (5, []))] ++ (hblk Y q20 q7 r21 ++ (hblk Y q22 q7 r23 ++ ([(q24, .inl (gca Y 3, 2, .inr (.inr (.inr (.inr (va_up (fun _ => none) 0 (some q25)))))))] ++ (hblk Y q25 q7 r26 ++ hblk Y q27 q7 r28))))))))) 160 1304 (by simp only [List.append_assoc, List.cons_append, List.nil_append]) rfl rfl ?_
  refine n_ast (p := 92) (pk := 127) (t0 := 3) (ci := 1) hC (([(b, .inr (10, [.ref q20, .ref q22, .null, .ref q1, .ref q2, .ref q4, .ref q6, .long 0, .long 1])), (q1, .inl (gca Y 1, 2, .inl (fun _ => 0)))] ++ (([(q2, .inr (9, [.ref r3, .int 0, .int 0, .int 0, .int 0, .int (-1)]))] ++ [(r3, .inl (gca Y 0, 150, .inl (fun _ => 0)))]) ++ (rblk Y q4 r5 ++ ([(q6, .inl (gca Y 0, 3, .inl (fun _ => 0))), (q7, .inl (gca Y 2, 6, .inr (.inr (.inr (.inr (va_up (va_up (va_up (va_up (va_up (va_up (fun _ => none) 0 (some q8)) 1 (some q10)) 2 (some q12)) 3 (some q14)) 4 (some q16)) 5 (some q18))))))), (q8, .inr (4, [])), (q10, .inr (6, [])), (q12, .inr (0, [])), (q14, .inr (8, [])), (q16, .inr (2, [])), (q18, .inr (5, []))] ++ (hblk Y q20 q7 r21 ++ (hblk Y q22 q7 r23 ++ ([(q24, .inl (gca Y 3, 2, .inr (.inr (.inr (.inr (va_up (va_up (fun _ => none) 0 (some q25)) 1 (some q27)))))))] ++ (hblk Y q25 q7 r26 ++ hblk Y q27 q7 r28))))))))) rfl rfl (Or.inl rfl) rfl rfl (by show ¬ _; decide) rfl dX10_init_166 ?_
  refine n_putF (j := 2) (p := 0) hC (([(b, .inr (10, [.ref q20, .ref q22, .ref q24, .ref q1, .ref q2, .ref q4, .ref q6, .long 0, .long 1])), (q1, .inl (gca Y 1, 2, .inl (fun _ => 0)))] ++ (([(q2, .inr (9, [.ref r3, .int 0, .int 0, .int 0, .int 0, .int (-1)]))] ++ [(r3, .inl (gca Y 0, 150, .inl (fun _ => 0)))]) ++ (rblk Y q4 r5 ++ ([(q6, .inl (gca Y 0, 3, .inl (fun _ => 0))), (q7, .inl (gca Y 2, 6, .inr (.inr (.inr (.inr (va_up (va_up (va_up (va_up (va_up (va_up (fun _ => none) 0 (some q8)) 1 (some q10)) 2 (some q12)) 3 (some q14)) 4 (some q16)) 5 (some q18))))))), (q8, .inr (4, [])), (q10, .inr (6, [])), (q12, .inr (0, [])), (q14, .inr (8, [])), (q16, .inr (2, [])), (q18, .inr (5, []))] ++ (hblk Y q20 q7 r21 ++ (hblk Y q22 q7 r23 ++ ([(q24, .inl (gca Y 3, 2, .inr (.inr (.inr (.inr (va_up (va_up (fun _ => none) 0 (some q25)) 1 (some q27)))))))] ++ (hblk Y q25 q7 r26 ++ hblk Y q27 q7 r28))))))))) hmn rfl rfl in_X10 tyX10_ok nmX10 (by decide) wF_X10_68 rfl rfl (tyX10_ok 2 (by decide)) rfl rfl (Nat.le_of_ble_eq_true rfl) rfl dX10_init_167 ?_
  exact n_ret hC (r3, r5, (fun i => [q1, q2, q4, q6, q7, q8, q10, q12, q14, q16, q18, q20, q22, q24, q25, q27].getD i 0), (fun i => match i with | 0 => r21 | 1 => r23 | 2 => r26 | _ => r28)) hr hQ (by first | rfl | simp) dX10_init_170
end
section
theorem zz_t : True := trivial
end
