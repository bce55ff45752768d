section
-- ===== PART A: goes FIRST, ahead of the names: the tables' words, and 'selects' of the private methods out of them =====
/-- a private method of a class that the tables say can be made, by its rows of tables_1 -/
def lw_okq (q : MethodName × Nat) : Prop := (q.1.cls ≠ "java/lang/invoke/MethodHandle" ∧ q.1.cls ≠ "java/lang/invoke/VarHandle") ∧ Cond.instantiable q.1.cls q.2 ∈ tables_1 ∧ Cond.privateMethod q.1 ∈ tables_1 ∧ Cond.instanceMethod q.1 ∈ tables_1
theorem lw_p0 : lw_okq (⟨"GuestStaff", "refuseBad", "(I)I"⟩, 9) := ⟨⟨by decide +kernel, by decide +kernel⟩, List.mem_of_getElem? (i := 21) (by decide +kernel), List.mem_of_getElem? (i := 255) (by decide +kernel), List.mem_of_getElem? (i := 256) (by decide +kernel)⟩
theorem lw_p1 : lw_okq (⟨"GuestStaff", "refuseFull", "()I"⟩, 9) := ⟨⟨by decide +kernel, by decide +kernel⟩, List.mem_of_getElem? (i := 21) (by decide +kernel), List.mem_of_getElem? (i := 259) (by decide +kernel), List.mem_of_getElem? (i := 260) (by decide +kernel)⟩
theorem lw_p2 : lw_okq (⟨"GuestStaff$Text", "step", "()V"⟩, 6) := ⟨⟨by decide +kernel, by decide +kernel⟩, List.mem_of_getElem? (i := 29) (by decide +kernel), List.mem_of_getElem? (i := 309) (by decide +kernel), List.mem_of_getElem? (i := 310) (by decide +kernel)⟩
theorem lw_p3 : lw_okq (⟨"GuestStaff$Text", "endOfRun", "(III)I"⟩, 6) := ⟨⟨by decide +kernel, by decide +kernel⟩, List.mem_of_getElem? (i := 29) (by decide +kernel), List.mem_of_getElem? (i := 313) (by decide +kernel), List.mem_of_getElem? (i := 314) (by decide +kernel)⟩
theorem lw_p4 : lw_okq (⟨"GuestStaff$Text", "numberHere", "()I"⟩, 6) := ⟨⟨by decide +kernel, by decide +kernel⟩, List.mem_of_getElem? (i := 29) (by decide +kernel), List.mem_of_getElem? (i := 317) (by decide +kernel), List.mem_of_getElem? (i := 318) (by decide +kernel)⟩
theorem lw_p5 : lw_okq (⟨"GuestStaff$Text", "signHere", "()I"⟩, 6) := ⟨⟨by decide +kernel, by decide +kernel⟩, List.mem_of_getElem? (i := 29) (by decide +kernel), List.mem_of_getElem? (i := 321) (by decide +kernel), List.mem_of_getElem? (i := 322) (by decide +kernel)⟩
theorem lw_p6 : lw_okq (⟨"GuestStaff$Text", "isWord", "(Ljava/lang/String;)Z"⟩, 6) := ⟨⟨by decide +kernel, by decide +kernel⟩, List.mem_of_getElem? (i := 29) (by decide +kernel), List.mem_of_getElem? (i := 327) (by decide +kernel), List.mem_of_getElem? (i := 328) (by decide +kernel)⟩
theorem lw_p7 : lw_okq (⟨"GuestStaff$Text", "stepToStop", "()Z"⟩, 6) := ⟨⟨by decide +kernel, by decide +kernel⟩, List.mem_of_getElem? (i := 29) (by decide +kernel), List.mem_of_getElem? (i := 379) (by decide +kernel), List.mem_of_getElem? (i := 380) (by decide +kernel)⟩
theorem lw_p8 : lw_okq (⟨"GuestStaff$Text", "parseItem", "(LGuestStaff$House;)Z"⟩, 6) := ⟨⟨by decide +kernel, by decide +kernel⟩, List.mem_of_getElem? (i := 29) (by decide +kernel), List.mem_of_getElem? (i := 383) (by decide +kernel), List.mem_of_getElem? (i := 384) (by decide +kernel)⟩
theorem lw_p9 : lw_okq (⟨"GuestStaff$Text", "parseGuest", "(LGuestStaff$House;)Z"⟩, 6) := ⟨⟨by decide +kernel, by decide +kernel⟩, List.mem_of_getElem? (i := 29) (by decide +kernel), List.mem_of_getElem? (i := 388) (by decide +kernel), List.mem_of_getElem? (i := 389) (by decide +kernel)⟩
theorem lw_p10 : lw_okq (⟨"GuestStaff$Text", "stepToNumber", "(I)Z"⟩, 6) := ⟨⟨by decide +kernel, by decide +kernel⟩, List.mem_of_getElem? (i := 29) (by decide +kernel), List.mem_of_getElem? (i := 392) (by decide +kernel), List.mem_of_getElem? (i := 393) (by decide +kernel)⟩
theorem lw_p11 : lw_okq (⟨"GuestStaff$Text", "isNumber", "(I)Z"⟩, 6) := ⟨⟨by decide +kernel, by decide +kernel⟩, List.mem_of_getElem? (i := 29) (by decide +kernel), List.mem_of_getElem? (i := 396) (by decide +kernel), List.mem_of_getElem? (i := 397) (by decide +kernel)⟩
theorem lw_p12 : lw_okq (⟨"GuestStaff$Text", "parseDuty", "(LGuestStaff$House;)Z"⟩, 6) := ⟨⟨by decide +kernel, by decide +kernel⟩, List.mem_of_getElem? (i := 29) (by decide +kernel), List.mem_of_getElem? (i := 402) (by decide +kernel), List.mem_of_getElem? (i := 403) (by decide +kernel)⟩
theorem lw_p13 : lw_okq (⟨"GuestStaff$House", "doesServe", "(II)Z"⟩, 16) := ⟨⟨by decide +kernel, by decide +kernel⟩, List.mem_of_getElem? (i := 125) (by decide +kernel), List.mem_of_getElem? (i := 432) (by decide +kernel), List.mem_of_getElem? (i := 433) (by decide +kernel)⟩
theorem lw_p14 : lw_okq (⟨"GuestStaff", "refuseNo", "()I"⟩, 9) := ⟨⟨by decide +kernel, by decide +kernel⟩, List.mem_of_getElem? (i := 21) (by decide +kernel), List.mem_of_getElem? (i := 473) (by decide +kernel), List.mem_of_getElem? (i := 474) (by decide +kernel)⟩
theorem lw_p15 : lw_okq (⟨"GuestStaff$Rows", "isOpen", "(II)Z"⟩, 5) := ⟨⟨by decide +kernel, by decide +kernel⟩, List.mem_of_getElem? (i := 58) (by decide +kernel), List.mem_of_getElem? (i := 537) (by decide +kernel), List.mem_of_getElem? (i := 538) (by decide +kernel)⟩
def lw_privs_1 : List (MethodName × Nat) := [(⟨"GuestStaff", "refuseBad", "(I)I"⟩, 9), (⟨"GuestStaff", "refuseFull", "()I"⟩, 9), (⟨"GuestStaff$Text", "step", "()V"⟩, 6), (⟨"GuestStaff$Text", "endOfRun", "(III)I"⟩, 6), (⟨"GuestStaff$Text", "numberHere", "()I"⟩, 6), (⟨"GuestStaff$Text", "signHere", "()I"⟩, 6), (⟨"GuestStaff$Text", "isWord", "(Ljava/lang/String;)Z"⟩, 6), (⟨"GuestStaff$Text", "stepToStop", "()Z"⟩, 6), (⟨"GuestStaff$Text", "parseItem", "(LGuestStaff$House;)Z"⟩, 6), (⟨"GuestStaff$Text", "parseGuest", "(LGuestStaff$House;)Z"⟩, 6), (⟨"GuestStaff$Text", "stepToNumber", "(I)Z"⟩, 6), (⟨"GuestStaff$Text", "isNumber", "(I)Z"⟩, 6), (⟨"GuestStaff$Text", "parseDuty", "(LGuestStaff$House;)Z"⟩, 6), (⟨"GuestStaff$House", "doesServe", "(II)Z"⟩, 16), (⟨"GuestStaff", "refuseNo", "()I"⟩, 9), (⟨"GuestStaff$Rows", "isOpen", "(II)Z"⟩, 5)]
theorem lw_r1 : ∀ q ∈ lw_privs_1, lw_okq q := List.forall_mem_cons.mpr ⟨lw_p0, List.forall_mem_cons.mpr ⟨lw_p1, List.forall_mem_cons.mpr ⟨lw_p2, List.forall_mem_cons.mpr ⟨lw_p3, List.forall_mem_cons.mpr ⟨lw_p4, List.forall_mem_cons.mpr ⟨lw_p5, List.forall_mem_cons.mpr ⟨lw_p6, List.forall_mem_cons.mpr ⟨lw_p7, List.forall_mem_cons.mpr ⟨lw_p8, List.forall_mem_cons.mpr ⟨lw_p9, List.forall_mem_cons.mpr ⟨lw_p10, List.forall_mem_cons.mpr ⟨lw_p11, List.forall_mem_cons.mpr ⟨lw_p12, List.forall_mem_cons.mpr ⟨lw_p13, List.forall_mem_cons.mpr ⟨lw_p14, List.forall_mem_cons.mpr ⟨lw_p15, fun _ h => absurd h List.not_mem_nil⟩⟩⟩⟩⟩⟩⟩⟩⟩⟩⟩⟩⟩⟩⟩⟩
theorem lw_p16 : lw_okq (⟨"GuestStaff$Rows", "costThrough", "(II)I"⟩, 5) := ⟨⟨by decide +kernel, by decide +kernel⟩, List.mem_of_getElem? (i := 58) (by decide +kernel), List.mem_of_getElem? (i := 556) (by decide +kernel), List.mem_of_getElem? (i := 557) (by decide +kernel)⟩
theorem lw_p17 : lw_okq (⟨"GuestStaff$Rows", "firstBest", "(I)I"⟩, 5) := ⟨⟨by decide +kernel, by decide +kernel⟩, List.mem_of_getElem? (i := 58) (by decide +kernel), List.mem_of_getElem? (i := 561) (by decide +kernel), List.mem_of_getElem? (i := 562) (by decide +kernel)⟩
theorem lw_p18 : lw_okq (⟨"GuestStaff", "closes", "(LGuestStaff$House;I)Z"⟩, 9) := ⟨⟨by decide +kernel, by decide +kernel⟩, List.mem_of_getElem? (i := 21) (by decide +kernel), List.mem_of_getElem? (i := 596) (by decide +kernel), List.mem_of_getElem? (i := 597) (by decide +kernel)⟩
theorem lw_p19 : lw_okq (⟨"GuestStaff$House", "wouldRather", "(III)Z"⟩, 16) := ⟨⟨by decide +kernel, by decide +kernel⟩, List.mem_of_getElem? (i := 125) (by decide +kernel), List.mem_of_getElem? (i := 608) (by decide +kernel), List.mem_of_getElem? (i := 609) (by decide +kernel)⟩
theorem lw_p20 : lw_okq (⟨"GuestStaff$Notes", "allFit", "(ILGuestStaff$Plain;I)Z"⟩, 2) := ⟨⟨by decide +kernel, by decide +kernel⟩, List.mem_of_getElem? (i := 131) (by decide +kernel), List.mem_of_getElem? (i := 640) (by decide +kernel), List.mem_of_getElem? (i := 641) (by decide +kernel)⟩
theorem lw_p21 : lw_okq (⟨"GuestStaff", "keepFraction", "(II)V"⟩, 9) := ⟨⟨by decide +kernel, by decide +kernel⟩, List.mem_of_getElem? (i := 21) (by decide +kernel), List.mem_of_getElem? (i := 671) (by decide +kernel), List.mem_of_getElem? (i := 672) (by decide +kernel)⟩
theorem lw_p22 : lw_okq (⟨"GuestStaff", "countOf", "(I)I"⟩, 9) := ⟨⟨by decide +kernel, by decide +kernel⟩, List.mem_of_getElem? (i := 21) (by decide +kernel), List.mem_of_getElem? (i := 704) (by decide +kernel), List.mem_of_getElem? (i := 705) (by decide +kernel)⟩
theorem lw_p23 : lw_okq (⟨"GuestStaffModel", "anew", "()V"⟩, 28) := ⟨⟨by decide +kernel, by decide +kernel⟩, List.mem_of_getElem? (i := 728) (by decide +kernel), List.mem_of_getElem? (i := 823) (by decide +kernel), List.mem_of_getElem? (i := 824) (by decide +kernel)⟩
theorem lw_p24 : lw_okq (⟨"GuestStaffModel", "bad", "()I"⟩, 28) := ⟨⟨by decide +kernel, by decide +kernel⟩, List.mem_of_getElem? (i := 728) (by decide +kernel), List.mem_of_getElem? (i := 837) (by decide +kernel), List.mem_of_getElem? (i := 838) (by decide +kernel)⟩
theorem lw_p25 : lw_okq (⟨"GuestStaffModel", "full", "()I"⟩, 28) := ⟨⟨by decide +kernel, by decide +kernel⟩, List.mem_of_getElem? (i := 728) (by decide +kernel), List.mem_of_getElem? (i := 841) (by decide +kernel), List.mem_of_getElem? (i := 842) (by decide +kernel)⟩
theorem lw_p26 : lw_okq (⟨"GuestStaffModel", "add", "(III)V"⟩, 28) := ⟨⟨by decide +kernel, by decide +kernel⟩, List.mem_of_getElem? (i := 728) (by decide +kernel), List.mem_of_getElem? (i := 845) (by decide +kernel), List.mem_of_getElem? (i := 846) (by decide +kernel)⟩
theorem lw_p27 : lw_okq (⟨"GuestStaffModel", "isGuest", "(I)Z"⟩, 28) := ⟨⟨by decide +kernel, by decide +kernel⟩, List.mem_of_getElem? (i := 728) (by decide +kernel), List.mem_of_getElem? (i := 853) (by decide +kernel), List.mem_of_getElem? (i := 854) (by decide +kernel)⟩
theorem lw_p28 : lw_okq (⟨"GuestStaffModel", "badFar", "()I"⟩, 28) := ⟨⟨by decide +kernel, by decide +kernel⟩, List.mem_of_getElem? (i := 728) (by decide +kernel), List.mem_of_getElem? (i := 857) (by decide +kernel), List.mem_of_getElem? (i := 858) (by decide +kernel)⟩
theorem lw_p29 : lw_okq (⟨"GuestStaffModel", "noteStep", "()V"⟩, 28) := ⟨⟨by decide +kernel, by decide +kernel⟩, List.mem_of_getElem? (i := 728) (by decide +kernel), List.mem_of_getElem? (i := 861) (by decide +kernel), List.mem_of_getElem? (i := 862) (by decide +kernel)⟩
theorem lw_p30 : lw_okq (⟨"GuestStaffModel", "readText", "(Z)I"⟩, 28) := ⟨⟨by decide +kernel, by decide +kernel⟩, List.mem_of_getElem? (i := 728) (by decide +kernel), List.mem_of_getElem? (i := 878) (by decide +kernel), List.mem_of_getElem? (i := 879) (by decide +kernel)⟩
theorem lw_p31 : lw_okq (⟨"GuestStaffModel", "nextToken", "()V"⟩, 28) := ⟨⟨by decide +kernel, by decide +kernel⟩, List.mem_of_getElem? (i := 728) (by decide +kernel), List.mem_of_getElem? (i := 882) (by decide +kernel), List.mem_of_getElem? (i := 883) (by decide +kernel)⟩
def lw_privs_2 : List (MethodName × Nat) := [(⟨"GuestStaff$Rows", "costThrough", "(II)I"⟩, 5), (⟨"GuestStaff$Rows", "firstBest", "(I)I"⟩, 5), (⟨"GuestStaff", "closes", "(LGuestStaff$House;I)Z"⟩, 9), (⟨"GuestStaff$House", "wouldRather", "(III)Z"⟩, 16), (⟨"GuestStaff$Notes", "allFit", "(ILGuestStaff$Plain;I)Z"⟩, 2), (⟨"GuestStaff", "keepFraction", "(II)V"⟩, 9), (⟨"GuestStaff", "countOf", "(I)I"⟩, 9), (⟨"GuestStaffModel", "anew", "()V"⟩, 28), (⟨"GuestStaffModel", "bad", "()I"⟩, 28), (⟨"GuestStaffModel", "full", "()I"⟩, 28), (⟨"GuestStaffModel", "add", "(III)V"⟩, 28), (⟨"GuestStaffModel", "isGuest", "(I)Z"⟩, 28), (⟨"GuestStaffModel", "badFar", "()I"⟩, 28), (⟨"GuestStaffModel", "noteStep", "()V"⟩, 28), (⟨"GuestStaffModel", "readText", "(Z)I"⟩, 28), (⟨"GuestStaffModel", "nextToken", "()V"⟩, 28)]
theorem lw_r2 : ∀ q ∈ lw_privs_2, lw_okq q := List.forall_mem_cons.mpr ⟨lw_p16, List.forall_mem_cons.mpr ⟨lw_p17, List.forall_mem_cons.mpr ⟨lw_p18, List.forall_mem_cons.mpr ⟨lw_p19, List.forall_mem_cons.mpr ⟨lw_p20, List.forall_mem_cons.mpr ⟨lw_p21, List.forall_mem_cons.mpr ⟨lw_p22, List.forall_mem_cons.mpr ⟨lw_p23, List.forall_mem_cons.mpr ⟨lw_p24, List.forall_mem_cons.mpr ⟨lw_p25, List.forall_mem_cons.mpr ⟨lw_p26, List.forall_mem_cons.mpr ⟨lw_p27, List.forall_mem_cons.mpr ⟨lw_p28, List.forall_mem_cons.mpr ⟨lw_p29, List.forall_mem_cons.mpr ⟨lw_p30, List.forall_mem_cons.mpr ⟨lw_p31, fun _ h => absurd h List.not_mem_nil⟩⟩⟩⟩⟩⟩⟩⟩⟩⟩⟩⟩⟩⟩⟩⟩
theorem lw_p32 : lw_okq (⟨"GuestStaffModel", "byteAt", "(I)I"⟩, 28) := ⟨⟨by decide +kernel, by decide +kernel⟩, List.mem_of_getElem? (i := 728) (by decide +kernel), List.mem_of_getElem? (i := 886) (by decide +kernel), List.mem_of_getElem? (i := 887) (by decide +kernel)⟩
theorem lw_p33 : lw_okq (⟨"GuestStaffModel", "readItem", "(IZ)Z"⟩, 28) := ⟨⟨by decide +kernel, by decide +kernel⟩, List.mem_of_getElem? (i := 728) (by decide +kernel), List.mem_of_getElem? (i := 894) (by decide +kernel), List.mem_of_getElem? (i := 895) (by decide +kernel)⟩
theorem lw_p34 : lw_okq (⟨"GuestStaffModel", "isWord", "(IIIII)Z"⟩, 28) := ⟨⟨by decide +kernel, by decide +kernel⟩, List.mem_of_getElem? (i := 728) (by decide +kernel), List.mem_of_getElem? (i := 898) (by decide +kernel), List.mem_of_getElem? (i := 899) (by decide +kernel)⟩
theorem lw_p35 : lw_okq (⟨"GuestStaffModel", "reads", "(II)Z"⟩, 28) := ⟨⟨by decide +kernel, by decide +kernel⟩, List.mem_of_getElem? (i := 728) (by decide +kernel), List.mem_of_getElem? (i := 902) (by decide +kernel), List.mem_of_getElem? (i := 903) (by decide +kernel)⟩
theorem lw_p36 : lw_okq (⟨"GuestStaffModel", "readServices", "()Z"⟩, 28) := ⟨⟨by decide +kernel, by decide +kernel⟩, List.mem_of_getElem? (i := 728) (by decide +kernel), List.mem_of_getElem? (i := 906) (by decide +kernel), List.mem_of_getElem? (i := 907) (by decide +kernel)⟩
theorem lw_p37 : lw_okq (⟨"GuestStaffModel", "oneHour", "()V"⟩, 28) := ⟨⟨by decide +kernel, by decide +kernel⟩, List.mem_of_getElem? (i := 728) (by decide +kernel), List.mem_of_getElem? (i := 915) (by decide +kernel), List.mem_of_getElem? (i := 916) (by decide +kernel)⟩
theorem lw_p38 : lw_okq (⟨"GuestStaffModel", "serverOf", "(I)I"⟩, 28) := ⟨⟨by decide +kernel, by decide +kernel⟩, List.mem_of_getElem? (i := 728) (by decide +kernel), List.mem_of_getElem? (i := 919) (by decide +kernel), List.mem_of_getElem? (i := 920) (by decide +kernel)⟩
theorem lw_p39 : lw_okq (⟨"GuestStaffModel", "canServe", "(II)Z"⟩, 28) := ⟨⟨by decide +kernel, by decide +kernel⟩, List.mem_of_getElem? (i := 728) (by decide +kernel), List.mem_of_getElem? (i := 923) (by decide +kernel), List.mem_of_getElem? (i := 924) (by decide +kernel)⟩
theorem lw_p40 : lw_okq (⟨"GuestStaffModel", "contentOf", "(II)I"⟩, 28) := ⟨⟨by decide +kernel, by decide +kernel⟩, List.mem_of_getElem? (i := 728) (by decide +kernel), List.mem_of_getElem? (i := 930) (by decide +kernel), List.mem_of_getElem? (i := 931) (by decide +kernel)⟩
theorem lw_p41 : lw_okq (⟨"GuestStaffModel", "no", "()I"⟩, 28) := ⟨⟨by decide +kernel, by decide +kernel⟩, List.mem_of_getElem? (i := 728) (by decide +kernel), List.mem_of_getElem? (i := 941) (by decide +kernel), List.mem_of_getElem? (i := 942) (by decide +kernel)⟩
theorem lw_p42 : lw_okq (⟨"GuestStaffModel", "workBy", "(II)I"⟩, 28) := ⟨⟨by decide +kernel, by decide +kernel⟩, List.mem_of_getElem? (i := 728) (by decide +kernel), List.mem_of_getElem? (i := 958) (by decide +kernel), List.mem_of_getElem? (i := 959) (by decide +kernel)⟩
theorem lw_p43 : lw_okq (⟨"GuestStaffModel", "isOne", "(I)Z"⟩, 28) := ⟨⟨by decide +kernel, by decide +kernel⟩, List.mem_of_getElem? (i := 728) (by decide +kernel), List.mem_of_getElem? (i := 966) (by decide +kernel), List.mem_of_getElem? (i := 967) (by decide +kernel)⟩
theorem lw_p44 : lw_okq (⟨"GuestStaffModel", "findRows", "()V"⟩, 28) := ⟨⟨by decide +kernel, by decide +kernel⟩, List.mem_of_getElem? (i := 728) (by decide +kernel), List.mem_of_getElem? (i := 970) (by decide +kernel), List.mem_of_getElem? (i := 971) (by decide +kernel)⟩
theorem lw_p45 : lw_okq (⟨"GuestStaffModel", "everybody", "()I"⟩, 28) := ⟨⟨by decide +kernel, by decide +kernel⟩, List.mem_of_getElem? (i := 728) (by decide +kernel), List.mem_of_getElem? (i := 974) (by decide +kernel), List.mem_of_getElem? (i := 975) (by decide +kernel)⟩
theorem lw_p46 : lw_okq (⟨"GuestStaffModel", "takeSet", "(I)V"⟩, 28) := ⟨⟨by decide +kernel, by decide +kernel⟩, List.mem_of_getElem? (i := 728) (by decide +kernel), List.mem_of_getElem? (i := 978) (by decide +kernel), List.mem_of_getElem? (i := 979) (by decide +kernel)⟩
theorem lw_p47 : lw_okq (⟨"GuestStaffModel", "isRow", "(I)Z"⟩, 28) := ⟨⟨by decide +kernel, by decide +kernel⟩, List.mem_of_getElem? (i := 728) (by decide +kernel), List.mem_of_getElem? (i := 985) (by decide +kernel), List.mem_of_getElem? (i := 986) (by decide +kernel)⟩
def lw_privs_3 : List (MethodName × Nat) := [(⟨"GuestStaffModel", "byteAt", "(I)I"⟩, 28), (⟨"GuestStaffModel", "readItem", "(IZ)Z"⟩, 28), (⟨"GuestStaffModel", "isWord", "(IIIII)Z"⟩, 28), (⟨"GuestStaffModel", "reads", "(II)Z"⟩, 28), (⟨"GuestStaffModel", "readServices", "()Z"⟩, 28), (⟨"GuestStaffModel", "oneHour", "()V"⟩, 28), (⟨"GuestStaffModel", "serverOf", "(I)I"⟩, 28), (⟨"GuestStaffModel", "canServe", "(II)Z"⟩, 28), (⟨"GuestStaffModel", "contentOf", "(II)I"⟩, 28), (⟨"GuestStaffModel", "no", "()I"⟩, 28), (⟨"GuestStaffModel", "workBy", "(II)I"⟩, 28), (⟨"GuestStaffModel", "isOne", "(I)Z"⟩, 28), (⟨"GuestStaffModel", "findRows", "()V"⟩, 28), (⟨"GuestStaffModel", "everybody", "()I"⟩, 28), (⟨"GuestStaffModel", "takeSet", "(I)V"⟩, 28), (⟨"GuestStaffModel", "isRow", "(I)Z"⟩, 28)]
theorem lw_r3 : ∀ q ∈ lw_privs_3, lw_okq q := List.forall_mem_cons.mpr ⟨lw_p32, List.forall_mem_cons.mpr ⟨lw_p33, List.forall_mem_cons.mpr ⟨lw_p34, List.forall_mem_cons.mpr ⟨lw_p35, List.forall_mem_cons.mpr ⟨lw_p36, List.forall_mem_cons.mpr ⟨lw_p37, List.forall_mem_cons.mpr ⟨lw_p38, List.forall_mem_cons.mpr ⟨lw_p39, List.forall_mem_cons.mpr ⟨lw_p40, List.forall_mem_cons.mpr ⟨lw_p41, List.forall_mem_cons.mpr ⟨lw_p42, List.forall_mem_cons.mpr ⟨lw_p43, List.forall_mem_cons.mpr ⟨lw_p44, List.forall_mem_cons.mpr ⟨lw_p45, List.forall_mem_cons.mpr ⟨lw_p46, List.forall_mem_cons.mpr ⟨lw_p47, fun _ h => absurd h List.not_mem_nil⟩⟩⟩⟩⟩⟩⟩⟩⟩⟩⟩⟩⟩⟩⟩⟩
theorem lw_p48 : lw_okq (⟨"GuestStaffModel", "rowWork", "()I"⟩, 28) := ⟨⟨by decide +kernel, by decide +kernel⟩, List.mem_of_getElem? (i := 728) (by decide +kernel), List.mem_of_getElem? (i := 989) (by decide +kernel), List.mem_of_getElem? (i := 990) (by decide +kernel)⟩
theorem lw_p49 : lw_okq (⟨"GuestStaffModel", "rowContent", "()I"⟩, 28) := ⟨⟨by decide +kernel, by decide +kernel⟩, List.mem_of_getElem? (i := 728) (by decide +kernel), List.mem_of_getElem? (i := 993) (by decide +kernel), List.mem_of_getElem? (i := 994) (by decide +kernel)⟩
theorem lw_p50 : lw_okq (⟨"GuestStaffModel", "ringOf", "(I)I"⟩, 28) := ⟨⟨by decide +kernel, by decide +kernel⟩, List.mem_of_getElem? (i := 728) (by decide +kernel), List.mem_of_getElem? (i := 1013) (by decide +kernel), List.mem_of_getElem? (i := 1014) (by decide +kernel)⟩
theorem lw_p51 : lw_okq (⟨"GuestStaffModel", "closes", "(I)Z"⟩, 28) := ⟨⟨by decide +kernel, by decide +kernel⟩, List.mem_of_getElem? (i := 728) (by decide +kernel), List.mem_of_getElem? (i := 1024) (by decide +kernel), List.mem_of_getElem? (i := 1025) (by decide +kernel)⟩
theorem lw_p52 : lw_okq (⟨"GuestStaffModel", "gains", "(II)Z"⟩, 28) := ⟨⟨by decide +kernel, by decide +kernel⟩, List.mem_of_getElem? (i := 728) (by decide +kernel), List.mem_of_getElem? (i := 1032) (by decide +kernel), List.mem_of_getElem? (i := 1033) (by decide +kernel)⟩
theorem lw_p53 : lw_okq (⟨"GuestStaffModel", "wantsBy", "(II)I"⟩, 28) := ⟨⟨by decide +kernel, by decide +kernel⟩, List.mem_of_getElem? (i := 728) (by decide +kernel), List.mem_of_getElem? (i := 1054) (by decide +kernel), List.mem_of_getElem? (i := 1055) (by decide +kernel)⟩
theorem lw_p54 : lw_okq (⟨"GuestStaffModel", "putAside", "()V"⟩, 28) := ⟨⟨by decide +kernel, by decide +kernel⟩, List.mem_of_getElem? (i := 728) (by decide +kernel), List.mem_of_getElem? (i := 1070) (by decide +kernel), List.mem_of_getElem? (i := 1071) (by decide +kernel)⟩
theorem lw_p55 : lw_okq (⟨"GuestStaffModel", "takeBack", "()V"⟩, 28) := ⟨⟨by decide +kernel, by decide +kernel⟩, List.mem_of_getElem? (i := 728) (by decide +kernel), List.mem_of_getElem? (i := 1074) (by decide +kernel), List.mem_of_getElem? (i := 1075) (by decide +kernel)⟩
theorem lw_p56 : lw_okq (⟨"GuestStaffModel", "servedMany", "()I"⟩, 28) := ⟨⟨by decide +kernel, by decide +kernel⟩, List.mem_of_getElem? (i := 728) (by decide +kernel), List.mem_of_getElem? (i := 1083) (by decide +kernel), List.mem_of_getElem? (i := 1084) (by decide +kernel)⟩
theorem lw_p57 : lw_okq (⟨"GuestStaffModel", "countOf", "(I)I"⟩, 28) := ⟨⟨by decide +kernel, by decide +kernel⟩, List.mem_of_getElem? (i := 728) (by decide +kernel), List.mem_of_getElem? (i := 1118) (by decide +kernel), List.mem_of_getElem? (i := 1119) (by decide +kernel)⟩
def lw_privs_4 : List (MethodName × Nat) := [(⟨"GuestStaffModel", "rowWork", "()I"⟩, 28), (⟨"GuestStaffModel", "rowContent", "()I"⟩, 28), (⟨"GuestStaffModel", "ringOf", "(I)I"⟩, 28), (⟨"GuestStaffModel", "closes", "(I)Z"⟩, 28), (⟨"GuestStaffModel", "gains", "(II)Z"⟩, 28), (⟨"GuestStaffModel", "wantsBy", "(II)I"⟩, 28), (⟨"GuestStaffModel", "putAside", "()V"⟩, 28), (⟨"GuestStaffModel", "takeBack", "()V"⟩, 28), (⟨"GuestStaffModel", "servedMany", "()I"⟩, 28), (⟨"GuestStaffModel", "countOf", "(I)I"⟩, 28)]
theorem lw_r4 : ∀ q ∈ lw_privs_4, lw_okq q := List.forall_mem_cons.mpr ⟨lw_p48, List.forall_mem_cons.mpr ⟨lw_p49, List.forall_mem_cons.mpr ⟨lw_p50, List.forall_mem_cons.mpr ⟨lw_p51, List.forall_mem_cons.mpr ⟨lw_p52, List.forall_mem_cons.mpr ⟨lw_p53, List.forall_mem_cons.mpr ⟨lw_p54, List.forall_mem_cons.mpr ⟨lw_p55, List.forall_mem_cons.mpr ⟨lw_p56, List.forall_mem_cons.mpr ⟨lw_p57, fun _ h => absurd h List.not_mem_nil⟩⟩⟩⟩⟩⟩⟩⟩⟩⟩
def lw_privs : List (MethodName × Nat) := lw_privs_1 ++ (lw_privs_2 ++ (lw_privs_3 ++ (lw_privs_4)))
def lw_tbl : List Cond := k2_sels lw_privs ++ tables_1
theorem lw_privs_ok : ∀ q ∈ lw_privs, lw_okq q := by
  show ∀ q ∈ lw_privs_1 ++ (lw_privs_2 ++ (lw_privs_3 ++ (lw_privs_4))), lw_okq q
  exact List.forall_mem_append.mpr ⟨lw_r1, List.forall_mem_append.mpr ⟨lw_r2, List.forall_mem_append.mpr ⟨lw_r3, lw_r4⟩⟩⟩
end
section
def RX0 : String := "GuestStaff$Banker"
def TX0 : u_T := fun k => match k with
  | _ => ("", "", "", false)
def tyX0 : Nat → FieldType := fun k => match k with
  | _ => .int
abbrev wsX00 : List Cond := u_ws RX0 TX0 0
theorem nmX0 : ∀ a, a < 0 → ∀ b, b < 0 → a ≠ b → (TX0 a).2.1 ≠ (TX0 b).2.1 := by decide +kernel
theorem tyX0_ok : ∀ k, k < 0 → parseFieldDescriptor (TX0 k).2.2.1 = some (tyX0 k) := by decide +kernel
abbrev cX0_init : ByteArray := prog_2_method_1_code
def yX0_init : MethodName := ⟨RX0, "<init>", "()V"⟩
abbrev cX0_contentBy : ByteArray := prog_2_method_2_code
def yX0_contentBy : MethodName := ⟨RX0, "contentBy", "(II)I"⟩
abbrev cX0_workOn : ByteArray := prog_2_method_3_code
def yX0_workOn : MethodName := ⟨RX0, "workOn", "(I)I"⟩
def RX1 : String := "GuestStaff$House"
def TX1 : u_T := fun k => match k with
  | 0 => ("GuestStaff$House", "kinds", "[LGuestStaff$Plain;", true)
  | 1 => ("GuestStaff$House", "kind", "[I", true)
  | 2 => ("GuestStaff$House", "want", "[I", true)
  | 3 => ("GuestStaff$House", "can", "[I", true)
  | 4 => ("GuestStaff$House", "duty", "[I", true)
  | 5 => ("GuestStaff$House", "tips", "[I", true)
  | 6 => ("GuestStaff$House", "notes", "LGuestStaff$Notes;", true)
  | 7 => ("GuestStaff$House", "pastDuty", "[[I", true)
  | 8 => ("GuestStaff$House", "pastTips", "[[I", true)
  | 9 => ("GuestStaff$House", "pastMood", "[I", true)
  | 10 => ("GuestStaff$House", "pastHour", "[I", true)
  | 11 => ("GuestStaff$House", "slot", "I", false)
  | 12 => ("GuestStaff$House", "undoable", "I", false)
  | 13 => ("GuestStaff$House", "guests", "I", false)
  | 14 => ("GuestStaff$House", "hour", "I", false)
  | _ => ("GuestStaff$House", "mood", "I", false)
def tyX1 : Nat → FieldType := fun k => match k with
  | 0 => .array (.object "GuestStaff$Plain")
  | 1 => .array .int
  | 2 => .array .int
  | 3 => .array .int
  | 4 => .array .int
  | 5 => .array .int
  | 6 => .object "GuestStaff$Notes"
  | 7 => .array (.array .int)
  | 8 => .array (.array .int)
  | 9 => .array .int
  | 10 => .array .int
  | 11 => .int
  | 12 => .int
  | 13 => .int
  | 14 => .int
  | _ => .int
abbrev wsX10 : List Cond := u_ws RX1 TX1 16
theorem nmX1 : ∀ a, a < 16 → ∀ b, b < 16 → a ≠ b → (TX1 a).2.1 ≠ (TX1 b).2.1 := by decide +kernel
theorem tyX1_ok : ∀ k, k < 16 → parseFieldDescriptor (TX1 k).2.2.1 = some (tyX1 k) := by decide +kernel
abbrev cX1_init : ByteArray := prog_3_method_1_code
def yX1_init : MethodName := ⟨RX1, "<init>", "([LGuestStaff$Plain;)V"⟩
abbrev cX1_empty : ByteArray := prog_3_method_2_code
def yX1_empty : MethodName := ⟨RX1, "empty", "()V"⟩
abbrev cX1_copy : ByteArray := prog_3_method_3_code
def yX1_copy : MethodName := ⟨RX1, "copy", "(LGuestStaff$House;)V"⟩
abbrev cX1_copyRow : ByteArray := prog_3_method_4_code
def yX1_copyRow : MethodName := ⟨RX1, "copyRow", "([I[I)V"⟩
abbrev cX1_isGuest : ByteArray := prog_3_method_5_code
def yX1_isGuest : MethodName := ⟨RX1, "isGuest", "(I)Z"⟩
abbrev cX1_admit : ByteArray := prog_3_method_6_code
def yX1_admit : MethodName := ⟨RX1, "admit", "(III)I"⟩
abbrev cX1_canServe : ByteArray := prog_3_method_7_code
def yX1_canServe : MethodName := ⟨RX1, "canServe", "(II)Z"⟩
abbrev cX1_isServable : ByteArray := prog_3_method_8_code
def yX1_isServable : MethodName := ⟨RX1, "isServable", "(I)Z"⟩
abbrev cX1_doesServe : ByteArray := prog_3_method_9_code
def yX1_doesServe : MethodName := ⟨RX1, "doesServe", "(II)Z"⟩
abbrev cX1_serverOf : ByteArray := prog_3_method_10_code
def yX1_serverOf : MethodName := ⟨RX1, "serverOf", "(I)I"⟩
abbrev cX1_serversOf : ByteArray := prog_3_method_11_code
def yX1_serversOf : MethodName := ⟨RX1, "serversOf", "(I)I"⟩
abbrev cX1_servedCount : ByteArray := prog_3_method_12_code
def yX1_servedCount : MethodName := ⟨RX1, "servedCount", "()I"⟩
abbrev cX1_contentBy : ByteArray := prog_3_method_13_code
def yX1_contentBy : MethodName := ⟨RX1, "contentBy", "(II)I"⟩
abbrev cX1_contentOf : ByteArray := prog_3_method_14_code
def yX1_contentOf : MethodName := ⟨RX1, "contentOf", "(I)I"⟩
abbrev cX1_workFor : ByteArray := prog_3_method_15_code
def yX1_workFor : MethodName := ⟨RX1, "workFor", "(II)I"⟩
abbrev cX1_passHour : ByteArray := prog_3_method_16_code
def yX1_passHour : MethodName := ⟨RX1, "passHour", "()V"⟩
abbrev cX1_remember : ByteArray := prog_3_method_17_code
def yX1_remember : MethodName := ⟨RX1, "remember", "()V"⟩
abbrev cX1_recall : ByteArray := prog_3_method_18_code
def yX1_recall : MethodName := ⟨RX1, "recall", "()V"⟩
abbrev cX1_ringOf : ByteArray := prog_3_method_19_code
def yX1_ringOf : MethodName := ⟨RX1, "ringOf", "(I)I"⟩
abbrev cX1_wouldSwap : ByteArray := prog_3_method_20_code
def yX1_wouldSwap : MethodName := ⟨RX1, "wouldSwap", "(II)Z"⟩
abbrev cX1_wouldRather : ByteArray := prog_3_method_21_code
def yX1_wouldRather : MethodName := ⟨RX1, "wouldRather", "(III)Z"⟩
abbrev cX1_wantsThatFit : ByteArray := prog_3_method_22_code
def yX1_wantsThatFit : MethodName := ⟨RX1, "wantsThatFit", "(II)I"⟩
abbrev cX1_addGuestsTo : ByteArray := prog_3_method_23_code
def yX1_addGuestsTo : MethodName := ⟨RX1, "addGuestsTo", "(J)J"⟩
def RX2 : String := "GuestStaff$Late"
def TX2 : u_T := fun k => match k with
  | _ => ("", "", "", false)
def tyX2 : Nat → FieldType := fun k => match k with
  | _ => .int
abbrev wsX20 : List Cond := u_ws RX2 TX2 0
theorem nmX2 : ∀ a, a < 0 → ∀ b, b < 0 → a ≠ b → (TX2 a).2.1 ≠ (TX2 b).2.1 := by decide +kernel
theorem tyX2_ok : ∀ k, k < 0 → parseFieldDescriptor (TX2 k).2.2.1 = some (tyX2 k) := by decide +kernel
abbrev cX2_init : ByteArray := prog_4_method_1_code
def yX2_init : MethodName := ⟨RX2, "<init>", "()V"⟩
abbrev cX2_contentBy : ByteArray := prog_4_method_2_code
def yX2_contentBy : MethodName := ⟨RX2, "contentBy", "(II)I"⟩
def RX3 : String := "GuestStaff$Notes"
def TX3 : u_T := fun k => match k with
  | 0 => ("GuestStaff$Notes", "note", "[[I", true)
  | _ => ("GuestStaff$Notes", "size", "I", false)
def tyX3 : Nat → FieldType := fun k => match k with
  | 0 => .array (.array .int)
  | _ => .int
abbrev wsX30 : List Cond := u_ws RX3 TX3 2
theorem nmX3 : ∀ a, a < 2 → ∀ b, b < 2 → a ≠ b → (TX3 a).2.1 ≠ (TX3 b).2.1 := by decide +kernel
theorem tyX3_ok : ∀ k, k < 2 → parseFieldDescriptor (TX3 k).2.2.1 = some (tyX3 k) := by decide +kernel
abbrev cX3_init : ByteArray := prog_5_method_1_code
def yX3_init : MethodName := ⟨RX3, "<init>", "()V"⟩
abbrev cX3_add : ByteArray := prog_5_method_2_code
def yX3_add : MethodName := ⟨RX3, "add", "(IIIII)I"⟩
abbrev cX3_copy : ByteArray := prog_5_method_3_code
def yX3_copy : MethodName := ⟨RX3, "copy", "(LGuestStaff$Notes;)V"⟩
abbrev cX3_wantsThatFit : ByteArray := prog_5_method_4_code
def yX3_wantsThatFit : MethodName := ⟨RX3, "wantsThatFit", "(ILGuestStaff$Plain;)I"⟩
abbrev cX3_allFit : ByteArray := prog_5_method_5_code
def yX3_allFit : MethodName := ⟨RX3, "allFit", "(ILGuestStaff$Plain;I)Z"⟩
abbrev cX3_addTo : ByteArray := prog_5_method_6_code
def yX3_addTo : MethodName := ⟨RX3, "addTo", "(J)J"⟩
def RX4 : String := "GuestStaff$Plain"
def TX4 : u_T := fun k => match k with
  | _ => ("", "", "", false)
def tyX4 : Nat → FieldType := fun k => match k with
  | _ => .int
abbrev wsX40 : List Cond := u_ws RX4 TX4 0
theorem nmX4 : ∀ a, a < 0 → ∀ b, b < 0 → a ≠ b → (TX4 a).2.1 ≠ (TX4 b).2.1 := by decide +kernel
theorem tyX4_ok : ∀ k, k < 0 → parseFieldDescriptor (TX4 k).2.2.1 = some (tyX4 k) := by decide +kernel
abbrev cX4_init : ByteArray := prog_6_method_1_code
def yX4_init : MethodName := ⟨RX4, "<init>", "()V"⟩
abbrev cX4_contentBy : ByteArray := prog_6_method_2_code
def yX4_contentBy : MethodName := ⟨RX4, "contentBy", "(II)I"⟩
abbrev cX4_workOn : ByteArray := prog_6_method_3_code
def yX4_workOn : MethodName := ⟨RX4, "workOn", "(I)I"⟩
def RX5 : String := "GuestStaff$Polisher"
def TX5 : u_T := fun k => match k with
  | _ => ("", "", "", false)
def tyX5 : Nat → FieldType := fun k => match k with
  | _ => .int
abbrev wsX50 : List Cond := u_ws RX5 TX5 0
theorem nmX5 : ∀ a, a < 0 → ∀ b, b < 0 → a ≠ b → (TX5 a).2.1 ≠ (TX5 b).2.1 := by decide +kernel
theorem tyX5_ok : ∀ k, k < 0 → parseFieldDescriptor (TX5 k).2.2.1 = some (tyX5 k) := by decide +kernel
abbrev cX5_init : ByteArray := prog_7_method_1_code
def yX5_init : MethodName := ⟨RX5, "<init>", "()V"⟩
abbrev cX5_contentBy : ByteArray := prog_7_method_2_code
def yX5_contentBy : MethodName := ⟨RX5, "contentBy", "(II)I"⟩
abbrev cX5_workOn : ByteArray := prog_7_method_3_code
def yX5_workOn : MethodName := ⟨RX5, "workOn", "(I)I"⟩
def RX6 : String := "GuestStaff$Quiet"
def TX6 : u_T := fun k => match k with
  | _ => ("", "", "", false)
def tyX6 : Nat → FieldType := fun k => match k with
  | _ => .int
abbrev wsX60 : List Cond := u_ws RX6 TX6 0
theorem nmX6 : ∀ a, a < 0 → ∀ b, b < 0 → a ≠ b → (TX6 a).2.1 ≠ (TX6 b).2.1 := by decide +kernel
theorem tyX6_ok : ∀ k, k < 0 → parseFieldDescriptor (TX6 k).2.2.1 = some (tyX6 k) := by decide +kernel
abbrev cX6_init : ByteArray := prog_8_method_1_code
def yX6_init : MethodName := ⟨RX6, "<init>", "()V"⟩
abbrev cX6_contentBy : ByteArray := prog_8_method_2_code
def yX6_contentBy : MethodName := ⟨RX6, "contentBy", "(II)I"⟩
abbrev cX6_workOn : ByteArray := prog_8_method_3_code
def yX6_workOn : MethodName := ⟨RX6, "workOn", "(I)I"⟩
def RX7 : String := "GuestStaff$Rows"
def TX7 : u_T := fun k => match k with
  | 0 => ("GuestStaff$Rows", "member", "[I", true)
  | 1 => ("GuestStaff$Rows", "open", "[I", true)
  | 2 => ("GuestStaff$Rows", "cost", "[[I", true)
  | 3 => ("GuestStaff$Rows", "rest", "[I", true)
  | _ => ("GuestStaff$Rows", "members", "I", false)
def tyX7 : Nat → FieldType := fun k => match k with
  | 0 => .array .int
  | 1 => .array .int
  | 2 => .array (.array .int)
  | 3 => .array .int
  | _ => .int
abbrev wsX70 : List Cond := u_ws RX7 TX7 5
theorem nmX7 : ∀ a, a < 5 → ∀ b, b < 5 → a ≠ b → (TX7 a).2.1 ≠ (TX7 b).2.1 := by decide +kernel
theorem tyX7_ok : ∀ k, k < 5 → parseFieldDescriptor (TX7 k).2.2.1 = some (tyX7 k) := by decide +kernel
abbrev cX7_init : ByteArray := prog_9_method_1_code
def yX7_init : MethodName := ⟨RX7, "<init>", "()V"⟩
abbrev cX7_gather : ByteArray := prog_9_method_2_code
def yX7_gather : MethodName := ⟨RX7, "gather", "(LGuestStaff$House;II)V"⟩
abbrev cX7_costOf : ByteArray := prog_9_method_3_code
def yX7_costOf : MethodName := ⟨RX7, "costOf", "(LGuestStaff$House;III)I"⟩
abbrev cX7_isOpen : ByteArray := prog_9_method_4_code
def yX7_isOpen : MethodName := ⟨RX7, "isOpen", "(II)Z"⟩
abbrev cX7_ways : ByteArray := prog_9_method_5_code
def yX7_ways : MethodName := ⟨RX7, "ways", "()I"⟩
abbrev cX7_leastCost : ByteArray := prog_9_method_6_code
def yX7_leastCost : MethodName := ⟨RX7, "leastCost", "()I"⟩
abbrev cX7_costThrough : ByteArray := prog_9_method_7_code
def yX7_costThrough : MethodName := ⟨RX7, "costThrough", "(II)I"⟩
abbrev cX7_dutyInBest : ByteArray := prog_9_method_8_code
def yX7_dutyInBest : MethodName := ⟨RX7, "dutyInBest", "(I)I"⟩
abbrev cX7_firstBest : ByteArray := prog_9_method_9_code
def yX7_firstBest : MethodName := ⟨RX7, "firstBest", "(I)I"⟩
def RX8 : String := "GuestStaff$Shouter"
def TX8 : u_T := fun k => match k with
  | _ => ("", "", "", false)
def tyX8 : Nat → FieldType := fun k => match k with
  | _ => .int
abbrev wsX80 : List Cond := u_ws RX8 TX8 0
theorem nmX8 : ∀ a, a < 0 → ∀ b, b < 0 → a ≠ b → (TX8 a).2.1 ≠ (TX8 b).2.1 := by decide +kernel
theorem tyX8_ok : ∀ k, k < 0 → parseFieldDescriptor (TX8 k).2.2.1 = some (tyX8 k) := by decide +kernel
abbrev cX8_init : ByteArray := prog_10_method_1_code
def yX8_init : MethodName := ⟨RX8, "<init>", "()V"⟩
abbrev cX8_contentBy : ByteArray := prog_10_method_2_code
def yX8_contentBy : MethodName := ⟨RX8, "contentBy", "(II)I"⟩
def RX9 : String := "GuestStaff$Text"
def TX9 : u_T := fun k => match k with
  | 0 => ("GuestStaff$Text", "bytes", "[I", true)
  | 1 => ("GuestStaff$Text", "size", "I", false)
  | 2 => ("GuestStaff$Text", "at", "I", false)
  | 3 => ("GuestStaff$Text", "behind", "I", false)
  | 4 => ("GuestStaff$Text", "sort", "I", false)
  | _ => ("GuestStaff$Text", "number", "I", false)
def tyX9 : Nat → FieldType := fun k => match k with
  | 0 => .array .int
  | 1 => .int
  | 2 => .int
  | 3 => .int
  | 4 => .int
  | _ => .int
abbrev wsX90 : List Cond := u_ws RX9 TX9 6
theorem nmX9 : ∀ a, a < 6 → ∀ b, b < 6 → a ≠ b → (TX9 a).2.1 ≠ (TX9 b).2.1 := by decide +kernel
theorem tyX9_ok : ∀ k, k < 6 → parseFieldDescriptor (TX9 k).2.2.1 = some (tyX9 k) := by decide +kernel
abbrev cX9_init : ByteArray := prog_11_method_1_code
def yX9_init : MethodName := ⟨RX9, "<init>", "()V"⟩
abbrev cX9_append : ByteArray := prog_11_method_2_code
def yX9_append : MethodName := ⟨RX9, "append", "(I)I"⟩
abbrev cX9_parse : ByteArray := prog_11_method_3_code
def yX9_parse : MethodName := ⟨RX9, "parse", "(LGuestStaff$House;)I"⟩
abbrev cX9_parseItem : ByteArray := prog_11_method_4_code
def yX9_parseItem : MethodName := ⟨RX9, "parseItem", "(LGuestStaff$House;)Z"⟩
abbrev cX9_parseGuest : ByteArray := prog_11_method_5_code
def yX9_parseGuest : MethodName := ⟨RX9, "parseGuest", "(LGuestStaff$House;)Z"⟩
abbrev cX9_parseDuty : ByteArray := prog_11_method_6_code
def yX9_parseDuty : MethodName := ⟨RX9, "parseDuty", "(LGuestStaff$House;)Z"⟩
abbrev cX9_stepToStop : ByteArray := prog_11_method_7_code
def yX9_stepToStop : MethodName := ⟨RX9, "stepToStop", "()Z"⟩
abbrev cX9_stepToNumber : ByteArray := prog_11_method_8_code
def yX9_stepToNumber : MethodName := ⟨RX9, "stepToNumber", "(I)Z"⟩
abbrev cX9_isNumber : ByteArray := prog_11_method_9_code
def yX9_isNumber : MethodName := ⟨RX9, "isNumber", "(I)Z"⟩
abbrev cX9_isWord : ByteArray := prog_11_method_10_code
def yX9_isWord : MethodName := ⟨RX9, "isWord", "(Ljava/lang/String;)Z"⟩
abbrev cX9_step : ByteArray := prog_11_method_11_code
def yX9_step : MethodName := ⟨RX9, "step", "()V"⟩
abbrev cX9_endOfRun : ByteArray := prog_11_method_12_code
def yX9_endOfRun : MethodName := ⟨RX9, "endOfRun", "(III)I"⟩
abbrev cX9_numberHere : ByteArray := prog_11_method_13_code
def yX9_numberHere : MethodName := ⟨RX9, "numberHere", "()I"⟩
abbrev cX9_signHere : ByteArray := prog_11_method_14_code
def yX9_signHere : MethodName := ⟨RX9, "signHere", "()I"⟩
def RX10 : String := "GuestStaff"
def TX10 : u_T := fun k => match k with
  | 0 => ("GuestStaff", "now", "LGuestStaff$House;", true)
  | 1 => ("GuestStaff", "trial", "LGuestStaff$House;", true)
  | 2 => ("GuestStaff", "images", "[LGuestStaff$House;", true)
  | 3 => ("GuestStaff", "kept", "[Z", true)
  | 4 => ("GuestStaff", "text", "LGuestStaff$Text;", true)
  | 5 => ("GuestStaff", "rows", "LGuestStaff$Rows;", true)
  | 6 => ("GuestStaff", "refused", "[I", true)
  | 7 => ("GuestStaff", "above", "J", false)
  | _ => ("GuestStaff", "below", "J", false)
def tyX10 : Nat → FieldType := fun k => match k with
  | 0 => .object "GuestStaff$House"
  | 1 => .object "GuestStaff$House"
  | 2 => .array (.object "GuestStaff$House")
  | 3 => .array .boolean
  | 4 => .object "GuestStaff$Text"
  | 5 => .object "GuestStaff$Rows"
  | 6 => .array .int
  | 7 => .long
  | _ => .long
abbrev wsX100 : List Cond := u_ws RX10 TX10 9
theorem nmX10 : ∀ a, a < 9 → ∀ b, b < 9 → a ≠ b → (TX10 a).2.1 ≠ (TX10 b).2.1 := by decide +kernel
theorem tyX10_ok : ∀ k, k < 9 → parseFieldDescriptor (TX10 k).2.2.1 = some (tyX10 k) := by decide +kernel
abbrev cX10_init : ByteArray := prog_1_method_1_code
def yX10_init : MethodName := ⟨RX10, "<init>", "()V"⟩
abbrev cX10_house : ByteArray := prog_1_method_2_code
def yX10_house : MethodName := ⟨RX10, "house", "()I"⟩
abbrev cX10_guest : ByteArray := prog_1_method_3_code
def yX10_guest : MethodName := ⟨RX10, "guest", "(III)I"⟩
abbrev cX10_duty : ByteArray := prog_1_method_4_code
def yX10_duty : MethodName := ⟨RX10, "duty", "(II)I"⟩
abbrev cX10_type : ByteArray := prog_1_method_5_code
def yX10_type : MethodName := ⟨RX10, "type", "(I)I"⟩
abbrev cX10_clear : ByteArray := prog_1_method_6_code
def yX10_clear : MethodName := ⟨RX10, "clear", "()I"⟩
abbrev cX10_read : ByteArray := prog_1_method_7_code
def yX10_read : MethodName := ⟨RX10, "read", "()I"⟩
abbrev cX10_hour : ByteArray := prog_1_method_8_code
def yX10_hour : MethodName := ⟨RX10, "hour", "(I)I"⟩
abbrev cX10_undo : ByteArray := prog_1_method_9_code
def yX10_undo : MethodName := ⟨RX10, "undo", "()I"⟩
abbrev cX10_of : ByteArray := prog_1_method_10_code
def yX10_of : MethodName := ⟨RX10, "of", "(II)I"⟩
abbrev cX10_can : ByteArray := prog_1_method_11_code
def yX10_can : MethodName := ⟨RX10, "can", "(II)I"⟩
abbrev cX10_work : ByteArray := prog_1_method_12_code
def yX10_work : MethodName := ⟨RX10, "work", "(II)I"⟩
abbrev cX10_all : ByteArray := prog_1_method_13_code
def yX10_all : MethodName := ⟨RX10, "all", "(I)I"⟩
abbrev cX10_least : ByteArray := prog_1_method_14_code
def yX10_least : MethodName := ⟨RX10, "least", "()I"⟩
abbrev cX10_most : ByteArray := prog_1_method_15_code
def yX10_most : MethodName := ⟨RX10, "most", "(I)I"⟩
abbrev cX10_lone : ByteArray := prog_1_method_16_code
def yX10_lone : MethodName := ⟨RX10, "lone", "()I"⟩
abbrev cX10_rings : ByteArray := prog_1_method_17_code
def yX10_rings : MethodName := ⟨RX10, "rings", "(I)I"⟩
abbrev cX10_smallest : ByteArray := prog_1_method_18_code
def yX10_smallest : MethodName := ⟨RX10, "smallest", "()I"⟩
abbrev cX10_swap : ByteArray := prog_1_method_19_code
def yX10_swap : MethodName := ⟨RX10, "swap", "(I)I"⟩
abbrev cX10_takeIn : ByteArray := prog_1_method_20_code
def yX10_takeIn : MethodName := ⟨RX10, "takeIn", "(I)I"⟩
abbrev cX10_note : ByteArray := prog_1_method_21_code
def yX10_note : MethodName := ⟨RX10, "note", "(IIIII)I"⟩
abbrev cX10_forget : ByteArray := prog_1_method_22_code
def yX10_forget : MethodName := ⟨RX10, "forget", "()I"⟩
abbrev cX10_wants : ByteArray := prog_1_method_23_code
def yX10_wants : MethodName := ⟨RX10, "wants", "(I)I"⟩
abbrev cX10_is : ByteArray := prog_1_method_24_code
def yX10_is : MethodName := ⟨RX10, "is", "(I)I"⟩
abbrev cX10_next : ByteArray := prog_1_method_25_code
def yX10_next : MethodName := ⟨RX10, "next", "(I)I"⟩
abbrev cX10_tips : ByteArray := prog_1_method_26_code
def yX10_tips : MethodName := ⟨RX10, "tips", "(II)I"⟩
abbrev cX10_moods : ByteArray := prog_1_method_27_code
def yX10_moods : MethodName := ⟨RX10, "moods", "(I)I"⟩
abbrev cX10_hours : ByteArray := prog_1_method_28_code
def yX10_hours : MethodName := ⟨RX10, "hours", "(II)I"⟩
abbrev cX10_part : ByteArray := prog_1_method_29_code
def yX10_part : MethodName := ⟨RX10, "part", "(I)J"⟩
abbrev cX10_image : ByteArray := prog_1_method_30_code
def yX10_image : MethodName := ⟨RX10, "image", "(I)I"⟩
abbrev cX10_from : ByteArray := prog_1_method_31_code
def yX10_from : MethodName := ⟨RX10, "from", "(I)I"⟩
abbrev cX10_status : ByteArray := prog_1_method_32_code
def yX10_status : MethodName := ⟨RX10, "status", "(I)I"⟩
abbrev cX10_count : ByteArray := prog_1_method_33_code
def yX10_count : MethodName := ⟨RX10, "count", "(I)I"⟩
abbrev cX10_digest : ByteArray := prog_1_method_34_code
def yX10_digest : MethodName := ⟨RX10, "digest", "()J"⟩
abbrev cX10_isBelow : ByteArray := prog_1_method_35_code
def yX10_isBelow : MethodName := ⟨RX10, "isBelow", "(II)Z"⟩
abbrev cX10_refuseBad : ByteArray := prog_1_method_36_code
def yX10_refuseBad : MethodName := ⟨RX10, "refuseBad", "(I)I"⟩
abbrev cX10_refuseNo : ByteArray := prog_1_method_37_code
def yX10_refuseNo : MethodName := ⟨RX10, "refuseNo", "()I"⟩
abbrev cX10_refuseFull : ByteArray := prog_1_method_38_code
def yX10_refuseFull : MethodName := ⟨RX10, "refuseFull", "()I"⟩
abbrev cX10_closes : ByteArray := prog_1_method_39_code
def yX10_closes : MethodName := ⟨RX10, "closes", "(LGuestStaff$House;I)Z"⟩
abbrev cX10_countOf : ByteArray := prog_1_method_40_code
def yX10_countOf : MethodName := ⟨RX10, "countOf", "(I)I"⟩
abbrev cX10_oddsOfNone : ByteArray := prog_1_method_41_code
def yX10_oddsOfNone : MethodName := ⟨RX10, "oddsOfNone", "(II)I"⟩
abbrev cX10_keepFraction : ByteArray := prog_1_method_42_code
def yX10_keepFraction : MethodName := ⟨RX10, "keepFraction", "(II)V"⟩
def RX11 : String := "GuestStaffModel"
def TX11 : u_T := fun k => match k with
  | 0 => ("GuestStaffModel", "st", "[I", true)
  | 1 => ("GuestStaffModel", "above", "J", false)
  | 2 => ("GuestStaffModel", "below", "J", false)
  | 3 => ("GuestStaffModel", "refused", "[I", true)
  | 4 => ("GuestStaffModel", "text", "[I", true)
  | 5 => ("GuestStaffModel", "bytes", "I", false)
  | 6 => ("GuestStaffModel", "place", "I", false)
  | 7 => ("GuestStaffModel", "token", "I", false)
  | 8 => ("GuestStaffModel", "value", "I", false)
  | 9 => ("GuestStaffModel", "begins", "I", false)
  | 10 => ("GuestStaffModel", "row", "[I", true)
  | 11 => ("GuestStaffModel", "services", "I", false)
  | 12 => ("GuestStaffModel", "toldGuests", "I", false)
  | 13 => ("GuestStaffModel", "ahead", "[I", true)
  | 14 => ("GuestStaffModel", "undoMany", "I", false)
  | 15 => ("GuestStaffModel", "who", "[I", true)
  | 16 => ("GuestStaffModel", "many", "I", false)
  | 17 => ("GuestStaffModel", "duties", "[I", true)
  | 18 => ("GuestStaffModel", "firstRow", "[I", true)
  | 19 => ("GuestStaffModel", "rowMany", "I", false)
  | 20 => ("GuestStaffModel", "leastWork", "I", false)
  | 21 => ("GuestStaffModel", "mostContent", "I", false)
  | 22 => ("GuestStaffModel", "bestRow", "[I", true)
  | 23 => ("GuestStaffModel", "aside", "[I", true)
  | 24 => ("GuestStaffModel", "isKept", "[Z", true)
  | 25 => ("GuestStaffModel", "kept", "[I", true)
  | 26 => ("GuestStaffModel", "keptAhead", "[I", true)
  | _ => ("GuestStaffModel", "keptMany", "[I", true)
def tyX11 : Nat → FieldType := fun k => match k with
  | 0 => .array .int
  | 1 => .long
  | 2 => .long
  | 3 => .array .int
  | 4 => .array .int
  | 5 => .int
  | 6 => .int
  | 7 => .int
  | 8 => .int
  | 9 => .int
  | 10 => .array .int
  | 11 => .int
  | 12 => .int
  | 13 => .array .int
  | 14 => .int
  | 15 => .array .int
  | 16 => .int
  | 17 => .array .int
  | 18 => .array .int
  | 19 => .int
  | 20 => .int
  | 21 => .int
  | 22 => .array .int
  | 23 => .array .int
  | 24 => .array .boolean
  | 25 => .array .int
  | 26 => .array .int
  | _ => .array .int
abbrev wsX110 : List Cond := u_ws RX11 TX11 28
theorem nmX11 : ∀ a, a < 28 → ∀ b, b < 28 → a ≠ b → (TX11 a).2.1 ≠ (TX11 b).2.1 := by decide +kernel
theorem tyX11_ok : ∀ k, k < 28 → parseFieldDescriptor (TX11 k).2.2.1 = some (tyX11 k) := by decide +kernel
abbrev cX11_init : ByteArray := prog_13_method_1_code
def yX11_init : MethodName := ⟨RX11, "<init>", "()V"⟩
abbrev cX11_in : ByteArray := prog_13_method_2_code
def yX11_in : MethodName := ⟨RX11, "in", "(JJJ)Z"⟩
abbrev cX11_has : ByteArray := prog_13_method_3_code
def yX11_has : MethodName := ⟨RX11, "has", "(II)Z"⟩
abbrev cX11_ones : ByteArray := prog_13_method_4_code
def yX11_ones : MethodName := ⟨RX11, "ones", "(I)I"⟩
abbrev cX11_bad : ByteArray := prog_13_method_5_code
def yX11_bad : MethodName := ⟨RX11, "bad", "()I"⟩
abbrev cX11_badFar : ByteArray := prog_13_method_6_code
def yX11_badFar : MethodName := ⟨RX11, "badFar", "()I"⟩
abbrev cX11_no : ByteArray := prog_13_method_7_code
def yX11_no : MethodName := ⟨RX11, "no", "()I"⟩
abbrev cX11_full : ByteArray := prog_13_method_8_code
def yX11_full : MethodName := ⟨RX11, "full", "()I"⟩
abbrev cX11_isGuest : ByteArray := prog_13_method_9_code
def yX11_isGuest : MethodName := ⟨RX11, "isGuest", "(I)Z"⟩
abbrev cX11_everybody : ByteArray := prog_13_method_10_code
def yX11_everybody : MethodName := ⟨RX11, "everybody", "()I"⟩
abbrev cX11_anew : ByteArray := prog_13_method_11_code
def yX11_anew : MethodName := ⟨RX11, "anew", "()V"⟩
abbrev cX11_house : ByteArray := prog_13_method_12_code
def yX11_house : MethodName := ⟨RX11, "house", "()I"⟩
abbrev cX11_add : ByteArray := prog_13_method_13_code
def yX11_add : MethodName := ⟨RX11, "add", "(III)V"⟩
abbrev cX11_guest : ByteArray := prog_13_method_14_code
def yX11_guest : MethodName := ⟨RX11, "guest", "(III)I"⟩
abbrev cX11_duty : ByteArray := prog_13_method_15_code
def yX11_duty : MethodName := ⟨RX11, "duty", "(II)I"⟩
abbrev cX11_type : ByteArray := prog_13_method_16_code
def yX11_type : MethodName := ⟨RX11, "type", "(I)I"⟩
abbrev cX11_clear : ByteArray := prog_13_method_17_code
def yX11_clear : MethodName := ⟨RX11, "clear", "()I"⟩
abbrev cX11_byteAt : ByteArray := prog_13_method_18_code
def yX11_byteAt : MethodName := ⟨RX11, "byteAt", "(I)I"⟩
abbrev cX11_nextToken : ByteArray := prog_13_method_19_code
def yX11_nextToken : MethodName := ⟨RX11, "nextToken", "()V"⟩
abbrev cX11_isWord : ByteArray := prog_13_method_20_code
def yX11_isWord : MethodName := ⟨RX11, "isWord", "(IIIII)Z"⟩
abbrev cX11_reads : ByteArray := prog_13_method_21_code
def yX11_reads : MethodName := ⟨RX11, "reads", "(II)Z"⟩
abbrev cX11_readServices : ByteArray := prog_13_method_22_code
def yX11_readServices : MethodName := ⟨RX11, "readServices", "()Z"⟩
abbrev cX11_readItem : ByteArray := prog_13_method_23_code
def yX11_readItem : MethodName := ⟨RX11, "readItem", "(IZ)Z"⟩
abbrev cX11_readText : ByteArray := prog_13_method_24_code
def yX11_readText : MethodName := ⟨RX11, "readText", "(Z)I"⟩
abbrev cX11_read : ByteArray := prog_13_method_25_code
def yX11_read : MethodName := ⟨RX11, "read", "()I"⟩
abbrev cX11_canServe : ByteArray := prog_13_method_26_code
def yX11_canServe : MethodName := ⟨RX11, "canServe", "(II)Z"⟩
abbrev cX11_contentBy : ByteArray := prog_13_method_27_code
def yX11_contentBy : MethodName := ⟨RX11, "contentBy", "(III)I"⟩
abbrev cX11_workBy : ByteArray := prog_13_method_28_code
def yX11_workBy : MethodName := ⟨RX11, "workBy", "(II)I"⟩
abbrev cX11_serverOf : ByteArray := prog_13_method_29_code
def yX11_serverOf : MethodName := ⟨RX11, "serverOf", "(I)I"⟩
abbrev cX11_contentOf : ByteArray := prog_13_method_30_code
def yX11_contentOf : MethodName := ⟨RX11, "contentOf", "(II)I"⟩
abbrev cX11_servedMany : ByteArray := prog_13_method_31_code
def yX11_servedMany : MethodName := ⟨RX11, "servedMany", "()I"⟩
abbrev cX11_noteStep : ByteArray := prog_13_method_32_code
def yX11_noteStep : MethodName := ⟨RX11, "noteStep", "()V"⟩
abbrev cX11_oneHour : ByteArray := prog_13_method_33_code
def yX11_oneHour : MethodName := ⟨RX11, "oneHour", "()V"⟩
abbrev cX11_hour : ByteArray := prog_13_method_34_code
def yX11_hour : MethodName := ⟨RX11, "hour", "(I)I"⟩
abbrev cX11_undo : ByteArray := prog_13_method_35_code
def yX11_undo : MethodName := ⟨RX11, "undo", "()I"⟩
abbrev cX11_of : ByteArray := prog_13_method_36_code
def yX11_of : MethodName := ⟨RX11, "of", "(II)I"⟩
abbrev cX11_can : ByteArray := prog_13_method_37_code
def yX11_can : MethodName := ⟨RX11, "can", "(II)I"⟩
abbrev cX11_work : ByteArray := prog_13_method_38_code
def yX11_work : MethodName := ⟨RX11, "work", "(II)I"⟩
abbrev cX11_factorial : ByteArray := prog_13_method_39_code
def yX11_factorial : MethodName := ⟨RX11, "factorial", "(I)I"⟩
abbrev cX11_takeSet : ByteArray := prog_13_method_40_code
def yX11_takeSet : MethodName := ⟨RX11, "takeSet", "(I)V"⟩
abbrev cX11_isRow : ByteArray := prog_13_method_41_code
def yX11_isRow : MethodName := ⟨RX11, "isRow", "(I)Z"⟩
abbrev cX11_rowWork : ByteArray := prog_13_method_42_code
def yX11_rowWork : MethodName := ⟨RX11, "rowWork", "()I"⟩
abbrev cX11_rowContent : ByteArray := prog_13_method_43_code
def yX11_rowContent : MethodName := ⟨RX11, "rowContent", "()I"⟩
abbrev cX11_findRows : ByteArray := prog_13_method_44_code
def yX11_findRows : MethodName := ⟨RX11, "findRows", "()V"⟩
abbrev cX11_isOne : ByteArray := prog_13_method_45_code
def yX11_isOne : MethodName := ⟨RX11, "isOne", "(I)Z"⟩
abbrev cX11_all : ByteArray := prog_13_method_46_code
def yX11_all : MethodName := ⟨RX11, "all", "(I)I"⟩
abbrev cX11_least : ByteArray := prog_13_method_47_code
def yX11_least : MethodName := ⟨RX11, "least", "()I"⟩
abbrev cX11_most : ByteArray := prog_13_method_48_code
def yX11_most : MethodName := ⟨RX11, "most", "(I)I"⟩
abbrev cX11_lone : ByteArray := prog_13_method_49_code
def yX11_lone : MethodName := ⟨RX11, "lone", "()I"⟩
abbrev cX11_ringOf : ByteArray := prog_13_method_50_code
def yX11_ringOf : MethodName := ⟨RX11, "ringOf", "(I)I"⟩
abbrev cX11_rings : ByteArray := prog_13_method_51_code
def yX11_rings : MethodName := ⟨RX11, "rings", "(I)I"⟩
abbrev cX11_closes : ByteArray := prog_13_method_52_code
def yX11_closes : MethodName := ⟨RX11, "closes", "(I)Z"⟩
abbrev cX11_smallest : ByteArray := prog_13_method_53_code
def yX11_smallest : MethodName := ⟨RX11, "smallest", "()I"⟩
abbrev cX11_gains : ByteArray := prog_13_method_54_code
def yX11_gains : MethodName := ⟨RX11, "gains", "(II)Z"⟩
abbrev cX11_swap : ByteArray := prog_13_method_55_code
def yX11_swap : MethodName := ⟨RX11, "swap", "(I)I"⟩
abbrev cX11_takeIn : ByteArray := prog_13_method_56_code
def yX11_takeIn : MethodName := ⟨RX11, "takeIn", "(I)I"⟩
abbrev cX11_note : ByteArray := prog_13_method_57_code
def yX11_note : MethodName := ⟨RX11, "note", "(IIIII)I"⟩
abbrev cX11_forget : ByteArray := prog_13_method_58_code
def yX11_forget : MethodName := ⟨RX11, "forget", "()I"⟩
abbrev cX11_wantsBy : ByteArray := prog_13_method_59_code
def yX11_wantsBy : MethodName := ⟨RX11, "wantsBy", "(II)I"⟩
abbrev cX11_wants : ByteArray := prog_13_method_60_code
def yX11_wants : MethodName := ⟨RX11, "wants", "(I)I"⟩
abbrev cX11_is : ByteArray := prog_13_method_61_code
def yX11_is : MethodName := ⟨RX11, "is", "(I)I"⟩
abbrev cX11_next : ByteArray := prog_13_method_62_code
def yX11_next : MethodName := ⟨RX11, "next", "(I)I"⟩
abbrev cX11_putAside : ByteArray := prog_13_method_63_code
def yX11_putAside : MethodName := ⟨RX11, "putAside", "()V"⟩
abbrev cX11_takeBack : ByteArray := prog_13_method_64_code
def yX11_takeBack : MethodName := ⟨RX11, "takeBack", "()V"⟩
abbrev cX11_tips : ByteArray := prog_13_method_65_code
def yX11_tips : MethodName := ⟨RX11, "tips", "(II)I"⟩
abbrev cX11_moods : ByteArray := prog_13_method_66_code
def yX11_moods : MethodName := ⟨RX11, "moods", "(I)I"⟩
abbrev cX11_hours : ByteArray := prog_13_method_67_code
def yX11_hours : MethodName := ⟨RX11, "hours", "(II)I"⟩
abbrev cX11_part : ByteArray := prog_13_method_68_code
def yX11_part : MethodName := ⟨RX11, "part", "(I)J"⟩
abbrev cX11_image : ByteArray := prog_13_method_69_code
def yX11_image : MethodName := ⟨RX11, "image", "(I)I"⟩
abbrev cX11_from : ByteArray := prog_13_method_70_code
def yX11_from : MethodName := ⟨RX11, "from", "(I)I"⟩
abbrev cX11_status : ByteArray := prog_13_method_71_code
def yX11_status : MethodName := ⟨RX11, "status", "(I)I"⟩
abbrev cX11_countOf : ByteArray := prog_13_method_72_code
def yX11_countOf : MethodName := ⟨RX11, "countOf", "(I)I"⟩
abbrev cX11_count : ByteArray := prog_13_method_73_code
def yX11_count : MethodName := ⟨RX11, "count", "(I)I"⟩
abbrev cX11_digest : ByteArray := prog_13_method_74_code
def yX11_digest : MethodName := ⟨RX11, "digest", "()J"⟩
def RJ6 : String := "java/lang/Integer"
def TJ6 : u_T := fun k => match k with
  | _ => ("", "", "", false)
def tyJ6 : Nat → FieldType := fun k => match k with
  | _ => .int
abbrev wsJ60 : List Cond := u_ws RJ6 TJ6 0
theorem nmJ6 : ∀ a, a < 0 → ∀ b, b < 0 → a ≠ b → (TJ6 a).2.1 ≠ (TJ6 b).2.1 := by decide +kernel
theorem tyJ6_ok : ∀ k, k < 0 → parseFieldDescriptor (TJ6 k).2.2.1 = some (tyJ6 k) := by decide +kernel
abbrev cJ6_bitCount_0f7a4 : ByteArray := prog_14_method_49_code
def yJ6_bitCount_0f7a4 : MethodName := ⟨RJ6, "bitCount", "(I)I"⟩
def RJ9 : String := "java/lang/Math"
def TJ9 : u_T := fun k => match k with
  | _ => ("", "", "", false)
def tyJ9 : Nat → FieldType := fun k => match k with
  | _ => .int
abbrev wsJ90 : List Cond := u_ws RJ9 TJ9 0
theorem nmJ9 : ∀ a, a < 0 → ∀ b, b < 0 → a ≠ b → (TJ9 a).2.1 ≠ (TJ9 b).2.1 := by decide +kernel
theorem tyJ9_ok : ∀ k, k < 0 → parseFieldDescriptor (TJ9 k).2.2.1 = some (tyJ9 k) := by decide +kernel
abbrev cJ9_max_7cf53 : ByteArray := prog_15_method_65_code
def yJ9_max_7cf53 : MethodName := ⟨RJ9, "max", "(II)I"⟩
abbrev cJ9_min_7cf53 : ByteArray := prog_15_method_69_code
def yJ9_min_7cf53 : MethodName := ⟨RJ9, "min", "(II)I"⟩
def RJ0 : String := "java/lang/String"
def TJ0 : u_T := fun k => match k with
  | _ => ("", "", "", false)
def tyJ0 : Nat → FieldType := fun k => match k with
  | _ => .int
abbrev wsJ00 : List Cond := u_ws RJ0 TJ0 0
theorem nmJ0 : ∀ a, a < 0 → ∀ b, b < 0 → a ≠ b → (TJ0 a).2.1 ≠ (TJ0 b).2.1 := by decide +kernel
theorem tyJ0_ok : ∀ k, k < 0 → parseFieldDescriptor (TJ0 k).2.2.1 = some (tyJ0 k) := by decide +kernel
abbrev cJ0_length_8abf5 : ByteArray := prog_16_method_54_code
def yJ0_length_8abf5 : MethodName := ⟨RJ0, "length", "()I"⟩
abbrev cJ0_charAt_5068e : ByteArray := prog_16_method_56_code
def yJ0_charAt_5068e : MethodName := ⟨RJ0, "charAt", "(I)C"⟩
abbrev cJ0_coder_7d493 : ByteArray := prog_16_method_152_code
def yJ0_coder_7d493 : MethodName := ⟨RJ0, "coder", "()B"⟩
abbrev cJ0_isLatin1_aae02 : ByteArray := prog_16_method_154_code
def yJ0_isLatin1_aae02 : MethodName := ⟨RJ0, "isLatin1", "()Z"⟩
abbrev cJ0_checkIndex_df160 : ByteArray := prog_16_method_155_code
def yJ0_checkIndex_df160 : MethodName := ⟨RJ0, "checkIndex", "(II)V"⟩
def RJ1 : String := "java/lang/StringLatin1"
def TJ1 : u_T := fun k => match k with
  | _ => ("", "", "", false)
def tyJ1 : Nat → FieldType := fun k => match k with
  | _ => .int
abbrev wsJ10 : List Cond := u_ws RJ1 TJ1 0
theorem nmJ1 : ∀ a, a < 0 → ∀ b, b < 0 → a ≠ b → (TJ1 a).2.1 ≠ (TJ1 b).2.1 := by decide +kernel
theorem tyJ1_ok : ∀ k, k < 0 → parseFieldDescriptor (TJ1 k).2.2.1 = some (tyJ1 k) := by decide +kernel
abbrev cJ1_charAt_3b067 : ByteArray := prog_17_method_2_code
def yJ1_charAt_3b067 : MethodName := ⟨RJ1, "charAt", "([BI)C"⟩
def RJ2 : String := "java/lang/StringUTF16"
def TJ2 : u_T := fun k => match k with
  | _ => ("", "", "", false)
def tyJ2 : Nat → FieldType := fun k => match k with
  | _ => .int
abbrev wsJ20 : List Cond := u_ws RJ2 TJ2 0
theorem nmJ2 : ∀ a, a < 0 → ∀ b, b < 0 → a ≠ b → (TJ2 a).2.1 ≠ (TJ2 b).2.1 := by decide +kernel
theorem tyJ2_ok : ∀ k, k < 0 → parseFieldDescriptor (TJ2 k).2.2.1 = some (tyJ2 k) := by decide +kernel
abbrev cJ2_getChar_3b067 : ByteArray := prog_18_method_5_code
def yJ2_getChar_3b067 : MethodName := ⟨RJ2, "getChar", "([BI)C"⟩
abbrev cJ2_length_9d52b : ByteArray := prog_18_method_6_code
def yJ2_length_9d52b : MethodName := ⟨RJ2, "length", "([B)I"⟩
abbrev cJ2_charAt_3b067 : ByteArray := prog_18_method_83_code
def yJ2_charAt_3b067 : MethodName := ⟨RJ2, "charAt", "([BI)C"⟩
abbrev cJ2_checkIndex_2214a : ByteArray := prog_18_method_91_code
def yJ2_checkIndex_2214a : MethodName := ⟨RJ2, "checkIndex", "(I[B)V"⟩
def RJ10 : String := "java/lang/System"
def TJ10 : u_T := fun k => match k with
  | _ => ("", "", "", false)
def tyJ10 : Nat → FieldType := fun k => match k with
  | _ => .int
abbrev wsJ100 : List Cond := u_ws RJ10 TJ10 0
theorem nmJ10 : ∀ a, a < 0 → ∀ b, b < 0 → a ≠ b → (TJ10 a).2.1 ≠ (TJ10 b).2.1 := by decide +kernel
theorem tyJ10_ok : ∀ k, k < 0 → parseFieldDescriptor (TJ10 k).2.2.1 = some (tyJ10 k) := by decide +kernel
def RJ3 : String := "jdk/internal/util/Preconditions"
def TJ3 : u_T := fun k => match k with
  | _ => ("", "", "", false)
def tyJ3 : Nat → FieldType := fun k => match k with
  | _ => .int
abbrev wsJ30 : List Cond := u_ws RJ3 TJ3 0
theorem nmJ3 : ∀ a, a < 0 → ∀ b, b < 0 → a ≠ b → (TJ3 a).2.1 ≠ (TJ3 b).2.1 := by decide +kernel
theorem tyJ3_ok : ∀ k, k < 0 → parseFieldDescriptor (TJ3 k).2.2.1 = some (tyJ3 k) := by decide +kernel
abbrev cJ3_checkIndex_8e157 : ByteArray := prog_20_method_11_code
def yJ3_checkIndex_8e157 : MethodName := ⟨RJ3, "checkIndex", "(IILjava/util/function/BiFunction;)I"⟩
def RL : String := "GuestStaffLaw"
abbrev cL_law : ByteArray := code
def yL_law : MethodName := ⟨RL, "law", "([I)Z"⟩
abbrev vwCl : List vw_C := [(RX0, TX0, 0), (RX1, TX1, 16), (RX2, TX2, 0), (RX3, TX3, 2), (RX4, TX4, 0), (RX5, TX5, 0), (RX6, TX6, 0), (RX7, TX7, 5), (RX8, TX8, 0), (RX9, TX9, 6), (RX10, TX10, 9), (RX11, TX11, 28)]
end
section
/-! the memory of the whole system: a cell is (c, o); c is the house's number for o < 34, and 0 else; what a cell holds is M.1 c o (ints: fields by slot, elements by index) and M.2 o (longs by slot) -/
abbrev gMem : Type := (Nat → Nat → Nat → Int32) × (Nat → Nat → Int64)
def gup (M : gMem) (c o : Nat) (g : Nat → Int32) : gMem := (fun c' o' => if c' = c ∧ o' = o then g else M.1 c' o', M.2)
def gwr (M : gMem) (c o j : Nat) (v : Int32) : gMem := gup M c o (upd (M.1 c o) j v)
def gwl (M : gMem) (o k : Nat) (v : Int64) : gMem := (M.1, fun o' k' => if o' = o ∧ k' = k then v else M.2 o' k')
abbrev gY : Type := va_G × (Nat → Nat → Nat) × (Nat → ClassId) × (Nat → Nat) × (Nat → Nat)
abbrev gad (Y : gY) (c o : Nat) : Nat := Y.2.1 c o
abbrev gca (Y : gY) (k : Nat) : ClassId := Y.2.2.1 k
/-- lengths of the int arrays by their places; 0: no int array -/
def gtab : List Nat := [0, 7, 7, 7, 7, 7, 0, 0, 5, 5, 5, 5, 5, 5, 0, 7, 7, 7, 7, 7, 7, 7, 7, 0, 7, 7, 7, 7, 7, 7, 7, 7, 8, 8, 0, 0, 0, 150, 0, 7, 7, 0, 7, 7, 7, 7, 7, 7, 7, 128, 3, 0, 0, 0, 0, 0, 0, 0, 0, 0, 70, 3, 150, 2, 128, 7, 7, 7, 7, 16, 0, 140, 256, 2]
def glen (o : Nat) : Nat := gtab.getD o 0
def grow (Y : gY) (c b n : Nat) : Nat → Option Nat := fun i => if i < n then some (gad Y c (b + i)) else none
def gimg (Y : gY) : Nat → Option Nat := fun i => if i < 2 then some (gad Y (2 + i) 0) else none
def gob (Y : gY) (f : Nat → Int32) (g : Nat → Int64) (c o : Nat) : va_E := match o with
  | 0 => .inr (1, [.ref (gad Y 0 51), .ref (gad Y c 1), .ref (gad Y c 2), .ref (gad Y c 3), .ref (gad Y c 4), .ref (gad Y c 5), .ref (gad Y c 6), .ref (gad Y c 14), .ref (gad Y c 23), .ref (gad Y c 32), .ref (gad Y c 33), .int (f 11), .int (f 12), .int (f 13), .int (f 14), .int (f 15)])
  | 6 => .inr (3, [.ref (gad Y c 7), .int (f 1)])
  | 7 => .inl (gca Y 4, 6, .inr (.inr (.inr (.inr (grow Y c 8 6)))))
  | 14 => .inl (gca Y 4, 8, .inr (.inr (.inr (.inr (grow Y c 15 8)))))
  | 23 => .inl (gca Y 4, 8, .inr (.inr (.inr (.inr (grow Y c 24 8)))))
  | 34 => .inr (10, [.ref (gad Y 0 0), .ref (gad Y 1 0), .ref (gad Y 0 58), .ref (gad Y 0 35), .ref (gad Y 0 36), .ref (gad Y 0 38), .ref (gad Y 0 50), .long (g 7), .long (g 8)])
  | 35 => .inl (gca Y 1, 2, .inl f)
  | 36 => .inr (9, [.ref (gad Y 0 37), .int (f 1), .int (f 2), .int (f 3), .int (f 4), .int (f 5)])
  | 38 => .inr (7, [.ref (gad Y 0 39), .ref (gad Y 0 40), .ref (gad Y 0 41), .ref (gad Y 0 49), .int (f 4)])
  | 41 => .inl (gca Y 4, 7, .inr (.inr (.inr (.inr (grow Y 0 42 7)))))
  | 51 => .inl (gca Y 2, 6, .inr (.inr (.inr (.inr (grow Y 0 52 6)))))
  | 52 => .inr (4, [])
  | 53 => .inr (6, [])
  | 54 => .inr (0, [])
  | 55 => .inr (8, [])
  | 56 => .inr (2, [])
  | 57 => .inr (5, [])
  | 58 => .inl (gca Y 3, 2, .inr (.inr (.inr (.inr (gimg Y)))))
  | 59 => .inr (11, [.ref (gad Y 0 60), .long (g 1), .long (g 2), .ref (gad Y 0 61), .ref (gad Y 0 62), .int (f 5), .int (f 6), .int (f 7), .int (f 8), .int (f 9), .ref (gad Y 0 63), .int (f 11), .int (f 12), .ref (gad Y 0 64), .int (f 14), .ref (gad Y 0 65), .int (f 16), .ref (gad Y 0 66), .ref (gad Y 0 67), .int (f 19), .int (f 20), .int (f 21), .ref (gad Y 0 68), .ref (gad Y 0 69), .ref (gad Y 0 70), .ref (gad Y 0 71), .ref (gad Y 0 72), .ref (gad Y 0 73)])
  | _ => .inl (gca Y 1, 2, .inl f)
def gce (Y : gY) (f : Nat → Int32) (g : Nat → Int64) (c o : Nat) : va_E := if glen o = 0 then gob Y f g c o else .inl (gca Y 0, glen o, .inl f)
def gcel (Y : gY) (M : gMem) (c o : Nat) : va_E := gce Y (M.1 c o) (M.2 o) c o
def gPL : List (Nat × Nat) := (List.range 136).map (fun k => (k / 34, k % 34)) ++ (List.range 40).map (fun k => (0, 34 + k))
def gV (c o : Nat) : Prop := (o < 34 ∧ c < 4) ∨ (34 ≤ o ∧ o < 74 ∧ c = 0)
theorem gV_h {c o : Nat} (hc : c < 4) (ho : o < 34) : gV c o := Or.inl ⟨ho, hc⟩
theorem gV_t {o : Nat} (h1 : 34 ≤ o) (h2 : o < 74) : gV 0 o := Or.inr ⟨h1, h2, rfl⟩
theorem gV_in {c o : Nat} (h : gV c o) : (c, o) ∈ gPL := by
  rcases h with ⟨h1, h2⟩ | ⟨h1, h2, rfl⟩
  · refine List.mem_append_left _ (List.mem_map.mpr ⟨34 * c + o, List.mem_range.mpr (by omega), ?_⟩)
    rw [show (34 * c + o) / 34 = c by omega, show (34 * c + o) % 34 = o by omega]
  · exact List.mem_append_right _ (List.mem_map.mpr ⟨o - 34, List.mem_range.mpr (by omega), by rw [show 34 + (o - 34) = o by omega]⟩)
def gW (Y : gY) (M : gMem) : va_W := gPL.map (fun q => (gad Y q.1 q.2, gcel Y M q.1 q.2))
def gA (Y : gY) : Nat → Prop := fun q => ∃ p ∈ gPL, q = gad Y p.1 p.2
def gTys (Y : gY) : List (ClassId × FieldType) := [(gca Y 0, .int), (gca Y 1, .boolean), (gca Y 2, .object "GuestStaff$Plain"), (gca Y 3, .object "GuestStaff$House"), (gca Y 4, .array .int)]
def gTs : List Cond := lw_tbl.filter goodWord
def gNst (w : Cond) : Bool := match w with
  | .fieldLinkNest .. => true
  | .methodLinkNest .. => true
  | _ => false
def gNW : List Cond := tables_1.filter gNst
def gStr (Y : gY) (U : State) : Prop :=
  vk_S 3 [5, 5, 4] [[104, 111, 117, 115, 101], [103, 117, 101, 115, 116], [100, 117, 116, 121]] Y.2.2.2.1 Y.2.2.2.2 (gA Y) U U.heap ∧ (vk_R "GuestStaff$Text" 39 "house" (Y.2.2.2.1 0) U ∧ vk_R "GuestStaff$Text" 53 "guest" (Y.2.2.2.1 1) U ∧ vk_R "GuestStaff$Text" 61 "duty" (Y.2.2.2.1 2) U) ∧ va_Z "java/lang/String" "COMPACT_STRINGS" "Z" (.int 1) (gA Y) U U.heap
def gS0 (Y : gY) (M : gMem) (U : State) : Prop := va_P Y.1 vwCl (gW Y M) U.heap ∧ va_D (gA Y) (gW Y M) ∧ va_K Y.1 vwCl (gTys Y) U ∧ (∀ w ∈ gNW, va_Nw w U) ∧ gStr Y U
def gSt (s : State) (Y : gY) (M : gMem) (H : Heap) (locs : List Loc) : Prop := va_P Y.1 vwCl (gW Y M) H ∧ va_D (gA Y) (gW Y M) ∧ va_S (gA Y) s.heap H locs
abbrev gX : Type := Program × Launch × Env × Room × State × MethodId × Array Value × List Frame × Method × Code × (State → Prop)
abbrev gxs (X : gX) : State := X.2.2.2.2.1
abbrev gxR (X : gX) : Room := X.2.2.2.1
abbrev gxm (X : gX) : MethodId := X.2.2.2.2.2.1
abbrev gxa (X : gX) : Array Value := X.2.2.2.2.2.2.1
abbrev gxb (X : gX) : List Frame := X.2.2.2.2.2.2.2.1
abbrev gxM (X : gX) : Method := X.2.2.2.2.2.2.2.2.1
abbrev gxc (X : gX) : Code := X.2.2.2.2.2.2.2.2.2.1
abbrev gxQ (X : gX) : State → Prop := X.2.2.2.2.2.2.2.2.2.2
def gWW (X : gX) (Y : gY) (nL pc : Nat) (lv : List (Nat × Value)) (st : List Value) (M : gMem) : Prop :=
  ∀ (H : Heap) (locs : List Loc) (ls : Array Slot), gSt (gxs X) Y M H locs → lv_has ls nL lv → W X.1 X.2.1 X.2.2.1 (gxR X) (gxs X) (gxm X) (gxa X) (gxb X) (gxM X) (gxc X) H locs 0 0 (gxQ X) (F0 (gxm X) pc ls st)
def gC (X : gX) (Y : gY) (cc : ByteArray) (own : String) (nL fr lo : Nat) : Prop :=
  X.1.tables.exec = Jvm.exec ∧ (gxc X).code = cc ∧ (gxc X).maxLocals = nL ∧ (gxs X).vm.findClass own = some (gxm X).cls ∧ (∀ w ∈ gTs, w.before (gxa X) (gxs X) = true) ∧ va_K Y.1 vwCl (gTys Y) (gxs X) ∧ (∀ w ∈ gNW, va_Nw w (gxs X)) ∧ gStr Y (gxs X) ∧ (gxR X).frames = fr ∧ (gxR X).locals = lo ∧ (gxM X).locks = false
theorem gStr.kept {Y : gY} {s U : State} {H : Heap} {locs : List Loc} (h : gStr Y s) (hS : va_S (gA Y) s.heap H locs) (hU : U.heap = H) (hW : s.WarmedH U.vm) : gStr Y U := by
  obtain ⟨h1, ⟨h2, h3, h4⟩, h5⟩ := h
  exact ⟨by rw [hU]; exact (h1.kept hS.2.1).moved hW.alike, ⟨h2.warm hW, h3.warm hW, h4.warm hW⟩, by rw [hU]; exact (h5.kept hS.2.1).moved hW.alike⟩
theorem gNW.kept {s U : State} (h : ∀ w ∈ gNW, va_Nw w s) (hW : s.WarmedH U.vm) : ∀ w ∈ gNW, va_Nw w U := by
  intro w hw
  have h1 := h w hw
  have h2 := (List.mem_filter.mp hw).2
  cases w <;> first | (cases h2; done) | exact h1.warmF hW | exact h1.warmM hW
theorem gS0.blind {Y : gY} {M : gMem} (av : List Value) : FrameBlind (va_Pc av (gS0 Y M)) := by
  intro a U g mk q
  obtain ⟨q0, qP, qD, qK, qN, q1, ⟨q2, q3, q4⟩, q5⟩ := q
  exact ⟨q0, qP, qD, va_K.moved (u := U) (U := U.calling g mk a) (Vm.Alike.refl U.vm) qK, fun w hw => va_Nw.same (u := U) (U := U.calling g mk a) (by
    have h2 := (List.mem_filter.mp hw).2
    cases w <;> first | (cases h2; done) | rfl) rfl (qN w hw), vk_S.moved (u := U) (U := U.calling g mk a) (Vm.Alike.refl U.vm) q1, ⟨vk_R.same (u := U) rfl q2, vk_R.same (u := U) rfl q3, vk_R.same (u := U) rfl q4⟩, va_Z.moved (u := U) (U := U.calling g mk a) (Vm.Alike.refl U.vm) q5⟩
section GC
variable {X : gX} {Y : gY} {cc : ByteArray} {own : String} {nL fr lo : Nat}
theorem gC.s0 {M : gMem} {H : Heap} {locs : List Loc} {U : State} (hC : gC X Y cc own nL fr lo) (hS : gSt (gxs X) Y M H locs) (hU : U.heap = H) (hW : (gxs X).WarmedH U.vm) : gS0 Y M U := by
  obtain ⟨-, -, -, -, -, hK, hN, hZ, -⟩ := hC
  exact ⟨by rw [hU]; exact hS.1, hS.2.1, va_K.moved hW.alike hK, gNW.kept hN hW, hZ.kept hS.2.2 hU hW⟩
end GC
end
section
/-! rows at the level of gWW: an instruction, a row -/
def gd {α : Type} (p : Prop) [Decidable p] (x : Option α) : Option α := if p then x else none
theorem gd_e {α : Type} {p : Prop} [Decidable p] {x : Option α} {r : α} (h : gd p x = some r) : p ∧ x = some r := by
  unfold gd at h
  by_cases hp : p
  · rw [if_pos hp] at h; exact ⟨hp, h⟩
  · rw [if_neg hp] at h; cases h
theorem gd_i {α : Type} {p : Prop} [Decidable p] {x : Option α} (h : p) : gd p x = x := if_pos h
theorem gb_e {α β : Type} {x : Option α} {f : α → Option β} {r : β} (h : x.bind f = some r) : ∃ a, x = some a ∧ f a = some r := by
  cases x with
  | none => cases h
  | some a => exact ⟨a, rfl, h⟩
theorem gi_p {α : Type} {p : Prop} [Decidable p] {a b : Option α} {r : α} (hp : p) (h : (if p then a else b) = some r) : a = some r := by rw [if_pos hp] at h; exact h
theorem gi_n {α : Type} {p : Prop} [Decidable p] {a b : Option α} {r : α} (hp : ¬ p) (h : (if p then a else b) = some r) : b = some r := by rw [if_neg hp] at h; exact h
/-- a loop: 'inl' goes on, 'inr' leaves -/
def itr {σ ρ : Type} : Nat → (σ → Option (σ ⊕ ρ)) → σ → Option ρ
  | 0, _, _ => none
  | F + 1, step, s => (step s).bind fun o => match o with
    | .inl s' => itr F step s'
    | .inr r => some r
theorem itr_w {σ ρ : Type} {step : σ → Option (σ ⊕ ρ)} {e : ρ} (P : σ → Prop) (h : ∀ s o, step s = some o → (∀ s', o = .inl s' → P s') → (∀ r, o = .inr r → r = e) → P s) : ∀ (F : Nat) (s : σ), itr F step s = some e → P s
  | 0, s, hx => by cases hx
  | F + 1, s, hx => by
    obtain ⟨o, h1, h2⟩ := gb_e hx
    refine h s o h1 (fun s' ho => ?_) (fun r ho => ?_)
    · subst ho
      exact itr_w P h F s' h2
    · subst ho
      exact Option.some.inj h2
def FU : Nat := 1000000
theorem FU_ge : 1000000 ≤ FU := Nat.le_refl _
section GR
variable {X : gX} {Y : gY} {cc : ByteArray} {own : String} {nL fr lo pc : Nat} {lv : List (Nat × Value)} {st : List Value} {M : gMem}
theorem q_sub {lv' : List (Nat × Value)} (ks : List Nat) (hl : lv_pick lv ks = lv') (k : gWW X Y nL pc lv' st M) : gWW X Y nL pc lv st M := fun H locs ls hS h => k H locs ls hS (lv_sub h ks hl)
theorem q_eq {st' : List Value} (h : st = st') (k : gWW X Y nL pc lv st' M) : gWW X Y nL pc lv st M := h ▸ k
theorem q_iconst (hC : gC X Y cc own nL fr lo) {n : Int} (v : Int32) (hd : decode cc pc = .ok (.iconst n, 1)) (hv : Int32.ofInt n = v) (k : gWW X Y nL (pc + 1) lv (.int v :: st) M) : gWW X Y nL pc lv st M := fun H locs ls hS h => lv_iconst hC.1 hC.2.1 hd hv (k H locs ls hS h)
theorem q_bipush (hC : gC X Y cc own nL fr lo) {n : Int} (v : Int32) (hd : decode cc pc = .ok (.bipush n, 2)) (hv : (Int8.ofInt n).toInt32 = v) (k : gWW X Y nL (pc + 2) lv (.int v :: st) M) : gWW X Y nL pc lv st M := fun H locs ls hS h => lv_bipush hC.1 hC.2.1 hd hv (k H locs ls hS h)
theorem q_sipush (hC : gC X Y cc own nL fr lo) {n : Int} (v : Int32) (hd : decode cc pc = .ok (.sipush n, 3)) (hv : (Int16.ofInt n).toInt32 = v) (k : gWW X Y nL (pc + 3) lv (.int v :: st) M) : gWW X Y nL pc lv st M := fun H locs ls hS h => lv_sipush hC.1 hC.2.1 hd hv (k H locs ls hS h)
theorem q_ldc (hC : gC X Y cc own nL fr lo) {idx : Nat} (v : Int32) (hd : decode cc pc = .ok (.ldc idx, 2)) (hw : Cond.constant own idx v ∈ gTs) (k : gWW X Y nL (pc + 2) lv (.int v :: st) M) : gWW X Y nL pc lv st M := fun H locs ls hS h => lv_ldc hC.1 hC.2.1 hC.2.2.2.1 (hC.2.2.2.2.1 _ hw) hd (k H locs ls hS h)
theorem q_ldcw (hC : gC X Y cc own nL fr lo) {idx : Nat} (v : Int32) (hd : decode cc pc = .ok (.ldc_w idx, 3)) (hw : Cond.constant own idx v ∈ gTs) (k : gWW X Y nL (pc + 3) lv (.int v :: st) M) : gWW X Y nL pc lv st M := fun H locs ls hS h => lv_ldcw hC.1 hC.2.1 hC.2.2.2.1 (hC.2.2.2.2.1 _ hw) hd (k H locs ls hS h)
theorem q_ldc2 (hC : gC X Y cc own nL fr lo) {idx : Nat} (v : Int64) (hd : decode cc pc = .ok (.ldc2_w idx, 3)) (hw : Cond.constantLong own idx v ∈ gTs) (k : gWW X Y nL (pc + 3) lv (.long v :: st) M) : gWW X Y nL pc lv st M := fun H locs ls hS h => lv_ldc2 hC.1 hC.2.1 hC.2.2.2.1 (hC.2.2.2.2.1 _ hw) hd (k H locs ls hS h)
theorem q_lconst (hC : gC X Y cc own nL fr lo) {n : Fin 2} (v : Int64) (hd : decode cc pc = .ok (.lconst n, 1)) (hv : Int64.ofNat (n : Nat) = v) (k : gWW X Y nL (pc + 1) lv (.long v :: st) M) : gWW X Y nL pc lv st M := fun H locs ls hS h => lv_lconst hC.1 hC.2.1 hd hv (k H locs ls hS h)
theorem q_iload_n (hC : gC X Y cc own nL fr lo) {k : Fin 4} {i : Nat} (q : Nat) {x : Int32} (hd : decode cc pc = .ok (.iload_n k, 1)) (hi : (k : Nat) = i) (hq : lv[q]? = some (i, .int x)) (k : gWW X Y nL (pc + 1) lv (.int x :: st) M) : gWW X Y nL pc lv st M := fun H locs ls hS h => lv_iload_n hC.1 hC.2.1 hd hi (lv_at h q hq) (k H locs ls hS h)
theorem q_iload (hC : gC X Y cc own nL fr lo) {i : Nat} (q : Nat) {x : Int32} (hd : decode cc pc = .ok (.iload i, 2)) (hq : lv[q]? = some (i, .int x)) (k : gWW X Y nL (pc + 2) lv (.int x :: st) M) : gWW X Y nL pc lv st M := fun H locs ls hS h => lv_iload hC.1 hC.2.1 hd (lv_at h q hq) (k H locs ls hS h)
theorem q_lload_n (hC : gC X Y cc own nL fr lo) {k : Fin 4} {i : Nat} (q : Nat) {x : Int64} (hd : decode cc pc = .ok (.lload_n k, 1)) (hi : (k : Nat) = i) (hq : lv[q]? = some (i, .long x)) (k : gWW X Y nL (pc + 1) lv (.long x :: st) M) : gWW X Y nL pc lv st M := fun H locs ls hS h => lv_lload_n hC.1 hC.2.1 hd hi (lv_at h q hq) (k H locs ls hS h)
theorem q_lload (hC : gC X Y cc own nL fr lo) {i : Nat} (q : Nat) {x : Int64} (hd : decode cc pc = .ok (.lload i, 2)) (hq : lv[q]? = some (i, .long x)) (k : gWW X Y nL (pc + 2) lv (.long x :: st) M) : gWW X Y nL pc lv st M := fun H locs ls hS h => lv_lload hC.1 hC.2.1 hd (lv_at h q hq) (k H locs ls hS h)
theorem q_aload_n (hC : gC X Y cc own nL fr lo) {k : Fin 4} {i : Nat} (q : Nat) {x : Nat} (hd : decode cc pc = .ok (.aload_n k, 1)) (hi : (k : Nat) = i) (hq : lv[q]? = some (i, .ref x)) (k : gWW X Y nL (pc + 1) lv (.ref x :: st) M) : gWW X Y nL pc lv st M := fun H locs ls hS h => lv_aload_n hC.1 hC.2.1 hd hi (lv_at h q hq) (k H locs ls hS h)
theorem q_aload (hC : gC X Y cc own nL fr lo) {i : Nat} (q : Nat) {x : Nat} (hd : decode cc pc = .ok (.aload i, 2)) (hq : lv[q]? = some (i, .ref x)) (k : gWW X Y nL (pc + 2) lv (.ref x :: st) M) : gWW X Y nL pc lv st M := fun H locs ls hS h => lv_aload hC.1 hC.2.1 hd (lv_at h q hq) (k H locs ls hS h)
theorem q_istore_n (hC : gC X Y cc own nL fr lo) {k : Fin 4} {i : Nat} {x : Int32} (lv' : List (Nat × Value)) (hd : decode cc pc = .ok (.istore_n k, 1)) (hi : (k : Nat) = i) (hn : i < nL) (hl : (i, Value.int x) :: lv.filter (fun q => !(q.1 == i) && !(q.1 + 1 == i && q.2.category == 2)) = lv') (k : gWW X Y nL (pc + 1) lv' st M) : gWW X Y nL pc lv (.int x :: st) M := fun H locs ls hS h => lv_istore_n hC.1 hC.2.1 hd hi h hn hl (fun ls h => k H locs ls hS h)
theorem q_istore (hC : gC X Y cc own nL fr lo) {i : Nat} {x : Int32} (lv' : List (Nat × Value)) (hd : decode cc pc = .ok (.istore i, 2)) (hn : i < nL) (hl : (i, Value.int x) :: lv.filter (fun q => !(q.1 == i) && !(q.1 + 1 == i && q.2.category == 2)) = lv') (k : gWW X Y nL (pc + 2) lv' st M) : gWW X Y nL pc lv (.int x :: st) M := fun H locs ls hS h => lv_istore hC.1 hC.2.1 hd h hn hl (fun ls h => k H locs ls hS h)
theorem q_lstore_n (hC : gC X Y cc own nL fr lo) {k : Fin 4} {i : Nat} {x : Int64} (lv' : List (Nat × Value)) (hd : decode cc pc = .ok (.lstore_n k, 1)) (hi : (k : Nat) = i) (hn : i + 1 < nL) (hl : (i, Value.long x) :: lv.filter (fun q => !(q.1 == i) && (!(q.1 == i + 1) && !(q.1 + 1 == i && q.2.category == 2))) = lv') (k : gWW X Y nL (pc + 1) lv' st M) : gWW X Y nL pc lv (.long x :: st) M := fun H locs ls hS h => lv_lstore_n hC.1 hC.2.1 hd hi h hn hl (fun ls h => k H locs ls hS h)
theorem q_lstore (hC : gC X Y cc own nL fr lo) {i : Nat} {x : Int64} (lv' : List (Nat × Value)) (hd : decode cc pc = .ok (.lstore i, 2)) (hn : i + 1 < nL) (hl : (i, Value.long x) :: lv.filter (fun q => !(q.1 == i) && (!(q.1 == i + 1) && !(q.1 + 1 == i && q.2.category == 2))) = lv') (k : gWW X Y nL (pc + 2) lv' st M) : gWW X Y nL pc lv (.long x :: st) M := fun H locs ls hS h => lv_lstore hC.1 hC.2.1 hd h hn hl (fun ls h => k H locs ls hS h)
theorem q_astore_n (hC : gC X Y cc own nL fr lo) {k : Fin 4} {i : Nat} {x : Nat} (lv' : List (Nat × Value)) (hd : decode cc pc = .ok (.astore_n k, 1)) (hi : (k : Nat) = i) (hn : i < nL) (hl : (i, Value.ref x) :: lv.filter (fun q => !(q.1 == i) && !(q.1 + 1 == i && q.2.category == 2)) = lv') (k : gWW X Y nL (pc + 1) lv' st M) : gWW X Y nL pc lv (.ref x :: st) M := fun H locs ls hS h => lv_astore_n hC.1 hC.2.1 hd hi h hn hl (fun ls h => k H locs ls hS h)
theorem q_astore (hC : gC X Y cc own nL fr lo) {i : Nat} {x : Nat} (lv' : List (Nat × Value)) (hd : decode cc pc = .ok (.astore i, 2)) (hn : i < nL) (hl : (i, Value.ref x) :: lv.filter (fun q => !(q.1 == i) && !(q.1 + 1 == i && q.2.category == 2)) = lv') (k : gWW X Y nL (pc + 2) lv' st M) : gWW X Y nL pc lv (.ref x :: st) M := fun H locs ls hS h => lv_astore hC.1 hC.2.1 hd h hn hl (fun ls h => k H locs ls hS h)
theorem q_iinc (hC : gC X Y cc own nL fr lo) {i : Nat} {n : Int} {x : Int32} (q : Nat) (d : Int32) (lv' : List (Nat × Value)) (hd : decode cc pc = .ok (.iinc i n, 3)) (hq : lv[q]? = some (i, .int x)) (hv : Int32.ofInt n = d) (hn : i < nL) (hl : (i, Value.int (x + d)) :: lv.filter (fun q => !(q.1 == i) && !(q.1 + 1 == i && q.2.category == 2)) = lv') (k : gWW X Y nL (pc + 3) lv' st M) : gWW X Y nL pc lv st M := fun H locs ls hS h => lv_iinc hC.1 hC.2.1 hd h hq (by rw [hv]) hn hl (fun ls h => k H locs ls hS h)
theorem q_iadd (hC : gC X Y cc own nL fr lo) {x y : Int32} (hd : decode cc pc = .ok (.iadd, 1)) (k : gWW X Y nL (pc + 1) lv (.int (x + y) :: st) M) : gWW X Y nL pc lv (.int y :: .int x :: st) M := fun H locs ls hS h => lv_iadd hC.1 hC.2.1 hd (k H locs ls hS h)
theorem q_isub (hC : gC X Y cc own nL fr lo) {x y : Int32} (hd : decode cc pc = .ok (.isub, 1)) (k : gWW X Y nL (pc + 1) lv (.int (x - y) :: st) M) : gWW X Y nL pc lv (.int y :: .int x :: st) M := fun H locs ls hS h => lv_isub hC.1 hC.2.1 hd (k H locs ls hS h)
theorem q_imul (hC : gC X Y cc own nL fr lo) {x y : Int32} (hd : decode cc pc = .ok (.imul, 1)) (k : gWW X Y nL (pc + 1) lv (.int (x * y) :: st) M) : gWW X Y nL pc lv (.int y :: .int x :: st) M := fun H locs ls hS h => lv_imul hC.1 hC.2.1 hd (k H locs ls hS h)
theorem q_iand (hC : gC X Y cc own nL fr lo) {x y : Int32} (hd : decode cc pc = .ok (.iand, 1)) (k : gWW X Y nL (pc + 1) lv (.int (x &&& y) :: st) M) : gWW X Y nL pc lv (.int y :: .int x :: st) M := fun H locs ls hS h => lv_iand hC.1 hC.2.1 hd (k H locs ls hS h)
theorem q_ior (hC : gC X Y cc own nL fr lo) {x y : Int32} (hd : decode cc pc = .ok (.ior, 1)) (k : gWW X Y nL (pc + 1) lv (.int (x ||| y) :: st) M) : gWW X Y nL pc lv (.int y :: .int x :: st) M := fun H locs ls hS h => lv_ior hC.1 hC.2.1 hd (k H locs ls hS h)
theorem q_ixor (hC : gC X Y cc own nL fr lo) {x y : Int32} (hd : decode cc pc = .ok (.ixor, 1)) (k : gWW X Y nL (pc + 1) lv (.int (x ^^^ y) :: st) M) : gWW X Y nL pc lv (.int y :: .int x :: st) M := fun H locs ls hS h => lv_ixor hC.1 hC.2.1 hd (k H locs ls hS h)
theorem q_idiv (hC : gC X Y cc own nL fr lo) {x y : Int32} (hd : decode cc pc = .ok (.idiv, 1)) (hne : ¬ y = 0) (k : gWW X Y nL (pc + 1) lv (.int (x / y) :: st) M) : gWW X Y nL pc lv (.int y :: .int x :: st) M := fun H locs ls hS h => lv_idiv hC.1 hC.2.1 hd hne (k H locs ls hS h)
theorem q_irem (hC : gC X Y cc own nL fr lo) {x y : Int32} (hd : decode cc pc = .ok (.irem, 1)) (hne : ¬ y = 0) (k : gWW X Y nL (pc + 1) lv (.int (x - x / y * y) :: st) M) : gWW X Y nL pc lv (.int y :: .int x :: st) M := fun H locs ls hS h => lv_irem hC.1 hC.2.1 hd hne (k H locs ls hS h)
theorem q_ishl (hC : gC X Y cc own nL fr lo) {x y : Int32} (hd : decode cc pc = .ok (.ishl, 1)) (k : gWW X Y nL (pc + 1) lv (.int (x <<< (y &&& 31)) :: st) M) : gWW X Y nL pc lv (.int y :: .int x :: st) M := fun H locs ls hS h => lv_ishl hC.1 hC.2.1 hd (k H locs ls hS h)
theorem q_ishr (hC : gC X Y cc own nL fr lo) {x y : Int32} (hd : decode cc pc = .ok (.ishr, 1)) (k : gWW X Y nL (pc + 1) lv (.int (x >>> (y &&& 31)) :: st) M) : gWW X Y nL pc lv (.int y :: .int x :: st) M := fun H locs ls hS h => lv_ishr hC.1 hC.2.1 hd (k H locs ls hS h)
theorem q_ladd (hC : gC X Y cc own nL fr lo) {x y : Int64} (hd : decode cc pc = .ok (.ladd, 1)) (k : gWW X Y nL (pc + 1) lv (.long (x + y) :: st) M) : gWW X Y nL pc lv (.long y :: .long x :: st) M := fun H locs ls hS h => lv_ladd hC.1 hC.2.1 hd (k H locs ls hS h)
theorem q_lmul (hC : gC X Y cc own nL fr lo) {x y : Int64} (hd : decode cc pc = .ok (.lmul, 1)) (k : gWW X Y nL (pc + 1) lv (.long (x * y) :: st) M) : gWW X Y nL pc lv (.long y :: .long x :: st) M := fun H locs ls hS h => lv_lmul hC.1 hC.2.1 hd (k H locs ls hS h)
theorem q_ldiv (hC : gC X Y cc own nL fr lo) {x y : Int64} (hd : decode cc pc = .ok (.ldiv, 1)) (hne : ¬ y = 0) (k : gWW X Y nL (pc + 1) lv (.long (x / y) :: st) M) : gWW X Y nL pc lv (.long y :: .long x :: st) M := fun H locs ls hS h => lv_ldiv hC.1 hC.2.1 hd hne (k H locs ls hS h)
theorem q_lrem (hC : gC X Y cc own nL fr lo) {x y : Int64} (hd : decode cc pc = .ok (.lrem, 1)) (hne : ¬ y = 0) (k : gWW X Y nL (pc + 1) lv (.long (x - x / y * y) :: st) M) : gWW X Y nL pc lv (.long y :: .long x :: st) M := fun H locs ls hS h => lv_lrem hC.1 hC.2.1 hd hne (k H locs ls hS h)
theorem q_iushr (hC : gC X Y cc own nL fr lo) {x y : Int32} (hd : decode cc pc = .ok (.iushr, 1)) (k : gWW X Y nL (pc + 1) lv (.int ((x.toUInt32 >>> (y.toUInt32 &&& Int32.toUInt32 31)).toInt32) :: st) M) : gWW X Y nL pc lv (.int y :: .int x :: st) M := fun H locs ls hS h => lv_iushr hC.1 hC.2.1 hd rfl (k H locs ls hS h)
theorem q_ineg (hC : gC X Y cc own nL fr lo) {x : Int32} (hd : decode cc pc = .ok (.ineg, 1)) (k : gWW X Y nL (pc + 1) lv (.int (-x) :: st) M) : gWW X Y nL pc lv (.int x :: st) M := fun H locs ls hS h => lv_ineg hC.1 hC.2.1 hd (k H locs ls hS h)
theorem q_i2l (hC : gC X Y cc own nL fr lo) {x : Int32} (hd : decode cc pc = .ok (.i2l, 1)) (k : gWW X Y nL (pc + 1) lv (.long x.toInt64 :: st) M) : gWW X Y nL pc lv (.int x :: st) M := fun H locs ls hS h => lv_i2l hC.1 hC.2.1 hd rfl (k H locs ls hS h)
theorem q_l2i (hC : gC X Y cc own nL fr lo) {x : Int64} (hd : decode cc pc = .ok (.l2i, 1)) (k : gWW X Y nL (pc + 1) lv (.int x.toInt32 :: st) M) : gWW X Y nL pc lv (.long x :: st) M := fun H locs ls hS h => lv_l2i hC.1 hC.2.1 hd rfl (k H locs ls hS h)
theorem q_i2c (hC : gC X Y cc own nL fr lo) {x : Int32} (hd : decode cc pc = .ok (.i2c, 1)) (k : gWW X Y nL (pc + 1) lv (.int (x.toUInt32 % 65536).toInt32 :: st) M) : gWW X Y nL pc lv (.int x :: st) M := fun H locs ls hS h => lv_i2c hC.1 hC.2.1 hd rfl (k H locs ls hS h)
theorem q_lcmp (hC : gC X Y cc own nL fr lo) {x y : Int64} (hd : decode cc pc = .ok (.lcmp, 1)) (k : gWW X Y nL (pc + 1) lv (.int (lg_cmp x y) :: st) M) : gWW X Y nL pc lv (.long y :: .long x :: st) M := fun H locs ls hS h => W.lcmp hC.1 hC.2.1 hd (k H locs ls hS h)
theorem q_dup (hC : gC X Y cc own nL fr lo) {v : Value} (hd : decode cc pc = .ok (.dup, 1)) (hv : v.category = 1) (k : gWW X Y nL (pc + 1) lv (v :: v :: st) M) : gWW X Y nL pc lv (v :: st) M := fun H locs ls hS h => lv_dup hC.1 hC.2.1 hd hv (k H locs ls hS h)
theorem q_dup2 (hC : gC X Y cc own nL fr lo) {v w : Value} (hd : decode cc pc = .ok (.dup2, 1)) (hv : v.category = 1) (hw : w.category = 1) (k : gWW X Y nL (pc + 1) lv (v :: w :: v :: w :: st) M) : gWW X Y nL pc lv (v :: w :: st) M := fun H locs ls hS h => lv_dup2_11 hC.1 hC.2.1 hd hv hw (k H locs ls hS h)
theorem q_pop (hC : gC X Y cc own nL fr lo) {v : Value} (hd : decode cc pc = .ok (.pop, 1)) (hv : v.category = 1) (k : gWW X Y nL (pc + 1) lv st M) : gWW X Y nL pc lv (v :: st) M := fun H locs ls hS h => lv_pop hC.1 hC.2.1 hd hv (k H locs ls hS h)
theorem q_goto (hC : gC X Y cc own nL fr lo) {off : Int} (tgt : Nat) (hd : decode cc pc = .ok (.goto off, 3)) (ht : (pc : Int) + off = (tgt : Int)) (k : gWW X Y nL tgt lv st M) : gWW X Y nL pc lv st M := fun H locs ls hS h => lv_goto hC.1 hC.2.1 hd ht (k H locs ls hS h)
theorem q_if_eq (hC : gC X Y cc own nL fr lo) {x : Int32} {off : Int} (tgt : Nat) (hd : decode cc pc = .ok (.ifCond .eq off, 3)) (ht : (pc : Int) + off = (tgt : Int)) (kt : x = 0 → gWW X Y nL tgt lv st M) (kf : ¬ x = 0 → gWW X Y nL (pc + 3) lv st M) : gWW X Y nL pc lv (.int x :: st) M := fun H locs ls hS h => lv_if_eq hC.1 hC.2.1 hd ht (fun q => kt q H locs ls hS h) (fun q => kf q H locs ls hS h)
theorem q_if_ne (hC : gC X Y cc own nL fr lo) {x : Int32} {off : Int} (tgt : Nat) (hd : decode cc pc = .ok (.ifCond .ne off, 3)) (ht : (pc : Int) + off = (tgt : Int)) (kt : ¬ x = 0 → gWW X Y nL tgt lv st M) (kf : x = 0 → gWW X Y nL (pc + 3) lv st M) : gWW X Y nL pc lv (.int x :: st) M := fun H locs ls hS h => lv_if_ne hC.1 hC.2.1 hd ht (fun q => kt q H locs ls hS h) (fun q => kf q H locs ls hS h)
theorem q_if_lt (hC : gC X Y cc own nL fr lo) {x : Int32} {off : Int} (tgt : Nat) (hd : decode cc pc = .ok (.ifCond .lt off, 3)) (ht : (pc : Int) + off = (tgt : Int)) (kt : x < 0 → gWW X Y nL tgt lv st M) (kf : ¬ x < 0 → gWW X Y nL (pc + 3) lv st M) : gWW X Y nL pc lv (.int x :: st) M := fun H locs ls hS h => lv_if_lt hC.1 hC.2.1 hd ht (fun q => kt q H locs ls hS h) (fun q => kf q H locs ls hS h)
theorem q_if_ge (hC : gC X Y cc own nL fr lo) {x : Int32} {off : Int} (tgt : Nat) (hd : decode cc pc = .ok (.ifCond .ge off, 3)) (ht : (pc : Int) + off = (tgt : Int)) (kt : 0 ≤ x → gWW X Y nL tgt lv st M) (kf : ¬ 0 ≤ x → gWW X Y nL (pc + 3) lv st M) : gWW X Y nL pc lv (.int x :: st) M := fun H locs ls hS h => lv_if_ge hC.1 hC.2.1 hd ht (fun q => kt q H locs ls hS h) (fun q => kf q H locs ls hS h)
theorem q_if_gt (hC : gC X Y cc own nL fr lo) {x : Int32} {off : Int} (tgt : Nat) (hd : decode cc pc = .ok (.ifCond .gt off, 3)) (ht : (pc : Int) + off = (tgt : Int)) (kt : 0 < x → gWW X Y nL tgt lv st M) (kf : ¬ 0 < x → gWW X Y nL (pc + 3) lv st M) : gWW X Y nL pc lv (.int x :: st) M := fun H locs ls hS h => lv_if_gt hC.1 hC.2.1 hd ht (fun q => kt q H locs ls hS h) (fun q => kf q H locs ls hS h)
theorem q_if_le (hC : gC X Y cc own nL fr lo) {x : Int32} {off : Int} (tgt : Nat) (hd : decode cc pc = .ok (.ifCond .le off, 3)) (ht : (pc : Int) + off = (tgt : Int)) (kt : x ≤ 0 → gWW X Y nL tgt lv st M) (kf : ¬ x ≤ 0 → gWW X Y nL (pc + 3) lv st M) : gWW X Y nL pc lv (.int x :: st) M := fun H locs ls hS h => lv_if_le hC.1 hC.2.1 hd ht (fun q => kt q H locs ls hS h) (fun q => kf q H locs ls hS h)
theorem q_ic_eq (hC : gC X Y cc own nL fr lo) {x y : Int32} {off : Int} (tgt : Nat) (hd : decode cc pc = .ok (.if_icmp .eq off, 3)) (ht : (pc : Int) + off = (tgt : Int)) (kt : x = y → gWW X Y nL tgt lv st M) (kf : ¬ x = y → gWW X Y nL (pc + 3) lv st M) : gWW X Y nL pc lv (.int y :: .int x :: st) M := fun H locs ls hS h => lv_icmp_eq hC.1 hC.2.1 hd ht (fun q => kt q H locs ls hS h) (fun q => kf q H locs ls hS h)
theorem q_ic_ne (hC : gC X Y cc own nL fr lo) {x y : Int32} {off : Int} (tgt : Nat) (hd : decode cc pc = .ok (.if_icmp .ne off, 3)) (ht : (pc : Int) + off = (tgt : Int)) (kt : ¬ x = y → gWW X Y nL tgt lv st M) (kf : x = y → gWW X Y nL (pc + 3) lv st M) : gWW X Y nL pc lv (.int y :: .int x :: st) M := fun H locs ls hS h => lv_icmp_ne hC.1 hC.2.1 hd ht (fun q => kt q H locs ls hS h) (fun q => kf q H locs ls hS h)
theorem q_ic_lt (hC : gC X Y cc own nL fr lo) {x y : Int32} {off : Int} (tgt : Nat) (hd : decode cc pc = .ok (.if_icmp .lt off, 3)) (ht : (pc : Int) + off = (tgt : Int)) (kt : x < y → gWW X Y nL tgt lv st M) (kf : ¬ x < y → gWW X Y nL (pc + 3) lv st M) : gWW X Y nL pc lv (.int y :: .int x :: st) M := fun H locs ls hS h => lv_icmp_lt hC.1 hC.2.1 hd ht (fun q => kt q H locs ls hS h) (fun q => kf q H locs ls hS h)
theorem q_ic_ge (hC : gC X Y cc own nL fr lo) {x y : Int32} {off : Int} (tgt : Nat) (hd : decode cc pc = .ok (.if_icmp .ge off, 3)) (ht : (pc : Int) + off = (tgt : Int)) (kt : y ≤ x → gWW X Y nL tgt lv st M) (kf : ¬ y ≤ x → gWW X Y nL (pc + 3) lv st M) : gWW X Y nL pc lv (.int y :: .int x :: st) M := fun H locs ls hS h => lv_icmp_ge hC.1 hC.2.1 hd ht (fun q => kt q H locs ls hS h) (fun q => kf q H locs ls hS h)
theorem q_ic_gt (hC : gC X Y cc own nL fr lo) {x y : Int32} {off : Int} (tgt : Nat) (hd : decode cc pc = .ok (.if_icmp .gt off, 3)) (ht : (pc : Int) + off = (tgt : Int)) (kt : y < x → gWW X Y nL tgt lv st M) (kf : ¬ y < x → gWW X Y nL (pc + 3) lv st M) : gWW X Y nL pc lv (.int y :: .int x :: st) M := fun H locs ls hS h => lv_icmp_gt hC.1 hC.2.1 hd ht (fun q => kt q H locs ls hS h) (fun q => kf q H locs ls hS h)
theorem q_ic_le (hC : gC X Y cc own nL fr lo) {x y : Int32} {off : Int} (tgt : Nat) (hd : decode cc pc = .ok (.if_icmp .le off, 3)) (ht : (pc : Int) + off = (tgt : Int)) (kt : x ≤ y → gWW X Y nL tgt lv st M) (kf : ¬ x ≤ y → gWW X Y nL (pc + 3) lv st M) : gWW X Y nL pc lv (.int y :: .int x :: st) M := fun H locs ls hS h => lv_icmp_le hC.1 hC.2.1 hd ht (fun q => kt q H locs ls hS h) (fun q => kf q H locs ls hS h)
end GR
end
section
/-! memory rows, methods, calls -/
theorem gPL_V {c o : Nat} (h : (c, o) ∈ gPL) : gV c o := by
  rcases List.mem_append.mp h with h | h
  · obtain ⟨k, hk, e⟩ := List.mem_map.mp h
    have hk := List.mem_range.mp hk
    cases e
    exact Or.inl ⟨by omega, by omega⟩
  · obtain ⟨k, hk, e⟩ := List.mem_map.mp h
    have hk := List.mem_range.mp hk
    cases e
    exact Or.inr ⟨by omega, by omega, rfl⟩
theorem gW_at {Y : gY} {M : gMem} {c o : Nat} (hV : gV c o) : ∃ k : Nat, (gW Y M)[k]? = some (gad Y c o, gcel Y M c o) ∧ gPL[k]? = some (c, o) := by
  obtain ⟨k, hk⟩ := List.getElem?_of_mem (gV_in hV)
  exact ⟨k, by unfold gW; rw [List.getElem?_map, hk]; rfl, hk⟩
theorem gW_set {Y : gY} {M M' : gMem} {A : Nat → Prop} {c o k : Nat} {e : va_E} (hD : va_D A (gW Y M)) (hk : gPL[k]? = some (c, o)) (he : gcel Y M' c o = e) (hne : ∀ c' o', gV c' o' → ¬ (c' = c ∧ o' = o) → gcel Y M' c' o' = gcel Y M c' o') : (gW Y M).set k (gad Y c o, e) = gW Y M' := by
  have hW : (gW Y M)[k]? = some (gad Y c o, gcel Y M c o) := by unfold gW; rw [List.getElem?_map, hk]; rfl
  have hl := (List.getElem?_eq_some_iff.mp hW).1
  apply List.ext_getElem?
  intro j
  by_cases hj : j = k
  · subst hj
    rw [List.getElem?_set_self hl]
    unfold gW
    rw [List.getElem?_map, hk]
    show _ = some (gad Y c o, gcel Y M' c o)
    rw [he]
  · rw [List.getElem?_set_ne (Ne.symm hj)]
    unfold gW
    rw [List.getElem?_map, List.getElem?_map]
    cases hb : gPL[j]? with
    | none => rfl
    | some b =>
      obtain ⟨c', o'⟩ := b
      have h2 : ¬ (c' = c ∧ o' = o) := by
        rintro ⟨rfl, rfl⟩
        have h3 : (gW Y M)[j]? = some (gad Y c' o', gcel Y M c' o') := by unfold gW; rw [List.getElem?_map, hb]; rfl
        exact hj (hD.1 j k _ _ h3 hW rfl)
      show some (gad Y c' o', gcel Y M c' o') = some (gad Y c' o', gcel Y M' c' o')
      rw [hne c' o' (gPL_V (List.mem_of_getElem? hb)) h2]
theorem gup_ne {Y : gY} {M : gMem} {c o : Nat} {g : Nat → Int32} : ∀ c' o', gV c' o' → ¬ (c' = c ∧ o' = o) → gcel Y (gup M c o g) c' o' = gcel Y M c' o' := by
  intro c' o' _ h
  unfold gcel gup
  dsimp only
  rw [if_neg h]
theorem gup_at (M : gMem) (c o : Nat) (g : Nat → Int32) : (gup M c o g).1 c o = g := by
  unfold gup
  dsimp only
  rw [if_pos ⟨rfl, rfl⟩]
theorem gwl_ne {Y : gY} {M : gMem} {o k : Nat} {x : Int64} (ho : 34 ≤ o) : ∀ c' o', gV c' o' → ¬ (c' = 0 ∧ o' = o) → gcel Y (gwl M o k x) c' o' = gcel Y M c' o' := by
  intro c' o' hV h
  have h2 : o' ≠ o := by
    rcases hV with ⟨h1, h2⟩ | ⟨h1, h2, h3⟩
    · omega
    · exact fun q => h ⟨h3, q⟩
  unfold gcel gwl
  dsimp only
  congr 1
  funext k'
  rw [if_neg (fun q => h2 q.1)]
theorem gce_a {Y : gY} {M : gMem} {c o : Nat} (n : Nat) (hn : glen o = n + 1) : gcel Y M c o = .inl (gca Y 0, n + 1, .inl (M.1 c o)) := by
  unfold gcel gce
  rw [hn, if_neg (by omega)]
section GM
variable {X : gX} {Y : gY} {cc : ByteArray} {own : String} {nL fr lo pc : Nat} {lv : List (Nat × Value)} {st : List Value} {M : gMem}
theorem q_get (hC : gC X Y cc own nL fr lo) {c o ci k idx N : Nat} {C : String} {T : u_T} {fs : List Value} {v : Value} (hV : gV c o) (he : gcel Y M c o = .inr (ci, fs)) (hc : vwCl[ci]? = some (C, T, N)) (hin : ∀ w ∈ u_ws C T N, w ∈ gTs) (hk : k < N) (hl : Cond.fieldLink own idx (T k).1 (T k).2.1 (T k).2.2.1 ∈ gTs) (hv : fs[k]? = some v) (hd : decode cc pc = .ok (.getfield idx, 3)) (kk : gWW X Y nL (pc + 3) lv (v :: st) M) : gWW X Y nL pc lv (.ref (gad Y c o) :: st) M := by
  intro H locs ls hS h
  obtain ⟨q, hq, -⟩ := gW_at (Y := Y) (M := M) hV
  rw [he] at hq
  exact va_get (D := Y.1) (ref := (T k).1) hC.1 hC.2.1 hC.2.2.2.2.1 hin hC.2.2.2.1 hC.2.2.2.2.2.1 hS.1 q hq hc k hk (hC.2.2.2.2.1 _ hl) (fun _ h9 => h9) hv hd (kk H locs ls hS h)
theorem q_getN (hC : gC X Y cc own nL fr lo) {c o ci k idx N : Nat} {C host : String} {T : u_T} {fs : List Value} {v : Value} (hV : gV c o) (he : gcel Y M c o = .inr (ci, fs)) (hc : vwCl[ci]? = some (C, T, N)) (hin : ∀ w ∈ u_ws C T N, w ∈ gTs) (hk : k < N) (hl : Cond.fieldLinkNest own idx (T k).1 (T k).2.1 (T k).2.2.1 host ∈ gNW) (hv : fs[k]? = some v) (hd : decode cc pc = .ok (.getfield idx, 3)) (kk : gWW X Y nL (pc + 3) lv (v :: st) M) : gWW X Y nL pc lv (.ref (gad Y c o) :: st) M := by
  intro H locs ls hS h
  obtain ⟨q, hq, -⟩ := gW_at (Y := Y) (M := M) hV
  rw [he] at hq
  exact va_getN (D := Y.1) (ref := (T k).1) (host := host) hC.1 hC.2.1 hC.2.2.2.2.1 hin hC.2.2.2.1 hC.2.2.2.2.2.1 hS.1 q hq hc k hk ((hC.2.2.2.2.2.2.1 _ hl).use rfl) (fun _ h9 => h9) hv hd (kk H locs ls hS h)
theorem q_put (hC : gC X Y cc own nL fr lo) {c o ci k idx N : Nat} {C : String} {T : u_T} {fs : List Value} {v : Value} {ty : FieldType} {ty0 : Nat → FieldType} (M' : gMem) (hV : gV c o) (he : gcel Y M c o = .inr (ci, fs)) (hc : vwCl[ci]? = some (C, T, N)) (hin : ∀ w ∈ u_ws C T N, w ∈ gTs) (hty : ∀ k, k < N → parseFieldDescriptor (T k).2.2.1 = some (ty0 k)) (hnm : ∀ a, a < N → ∀ b, b < N → a ≠ b → (T a).2.1 ≠ (T b).2.1) (hk : k < N) (hl : Cond.fieldLink own idx (T k).1 (T k).2.1 (T k).2.2.1 ∈ gTs) (hfin : (T k).2.2.2 = false) (hdd : parseFieldDescriptor (T k).2.2.1 = some ty) (hn : narrow ty v = v) (hf : fits ty v = true) (hlen : k < fs.length) (he' : gcel Y M' c o = .inr (ci, fs.set k v)) (hne : ∀ c' o', gV c' o' → ¬ (c' = c ∧ o' = o) → gcel Y M' c' o' = gcel Y M c' o') (hd : decode cc pc = .ok (.putfield idx, 3)) (kk : gWW X Y nL (pc + 3) lv st M') : gWW X Y nL pc lv (v :: .ref (gad Y c o) :: st) M := by
  intro H locs ls hS h
  obtain ⟨q, hq, hq2⟩ := gW_at (Y := Y) (M := M) hV
  rw [he] at hq
  refine va_put (D := Y.1) (ref := (T k).1) (A := gA Y) hC.1 hC.2.1 hC.2.2.2.2.1 hin ty0 hty hnm hC.2.2.2.1 hC.2.2.2.2.2.1 hS.1 hS.2.1 hS.2.2 q hq hc k hk (hC.2.2.2.2.1 _ hl) (fun _ h9 => h9) hfin hdd hn hf hlen hd (fun H1 locs1 g1 g2 g3 => ?_)
  rw [gW_set hS.2.1 hq2 he' hne] at g1 g2
  exact kk H1 locs1 ls ⟨g1, g2, g3⟩ h
theorem q_putN (hC : gC X Y cc own nL fr lo) {c o ci k idx N : Nat} {C host : String} {T : u_T} {fs : List Value} {v : Value} {ty : FieldType} {ty0 : Nat → FieldType} (M' : gMem) (hV : gV c o) (he : gcel Y M c o = .inr (ci, fs)) (hc : vwCl[ci]? = some (C, T, N)) (hin : ∀ w ∈ u_ws C T N, w ∈ gTs) (hty : ∀ k, k < N → parseFieldDescriptor (T k).2.2.1 = some (ty0 k)) (hnm : ∀ a, a < N → ∀ b, b < N → a ≠ b → (T a).2.1 ≠ (T b).2.1) (hk : k < N) (hl : Cond.fieldLinkNest own idx (T k).1 (T k).2.1 (T k).2.2.1 host ∈ gNW) (hfin : (T k).2.2.2 = false) (hdd : parseFieldDescriptor (T k).2.2.1 = some ty) (hn : narrow ty v = v) (hf : fits ty v = true) (hlen : k < fs.length) (he' : gcel Y M' c o = .inr (ci, fs.set k v)) (hne : ∀ c' o', gV c' o' → ¬ (c' = c ∧ o' = o) → gcel Y M' c' o' = gcel Y M c' o') (hd : decode cc pc = .ok (.putfield idx, 3)) (kk : gWW X Y nL (pc + 3) lv st M') : gWW X Y nL pc lv (v :: .ref (gad Y c o) :: st) M := by
  intro H locs ls hS h
  obtain ⟨q, hq, hq2⟩ := gW_at (Y := Y) (M := M) hV
  rw [he] at hq
  refine va_putN (D := Y.1) (ref := (T k).1) (host := host) (A := gA Y) hC.1 hC.2.1 hC.2.2.2.2.1 hin ty0 hty hnm hC.2.2.2.1 hC.2.2.2.2.2.1 hS.1 hS.2.1 hS.2.2 q hq hc k hk ((hC.2.2.2.2.2.2.1 _ hl).use rfl) (fun _ h9 => h9) hfin hdd hn hf hlen hd (fun H1 locs1 g1 g2 g3 => ?_)
  rw [gW_set hS.2.1 hq2 he' hne] at g1 g2
  exact kk H1 locs1 ls ⟨g1, g2, g3⟩ h
theorem q_iald (hC : gC X Y cc own nL fr lo) {c o : Nat} {i : Int32} (n : Nat) (hV : gV c o) (hn : glen o = n + 1) (hi : vp_in i (n + 1)) (hd : decode cc pc = .ok (.iaload, 1)) (kk : gWW X Y nL (pc + 1) lv (.int (M.1 c o i.toNatClampNeg) :: st) M) : gWW X Y nL pc lv (.int i :: .ref (gad Y c o) :: st) M := by
  intro H locs ls hS h
  obtain ⟨q, hq, -⟩ := gW_at (Y := Y) (M := M) hV
  rw [gce_a n hn] at hq
  exact va_iald (D := Y.1) hC.1 hC.2.1 hC.2.2.2.2.2.1 hS.1 q 0 hq rfl hi hd (kk H locs ls hS h)
theorem q_iast (hC : gC X Y cc own nL fr lo) {c o : Nat} {i x : Int32} (n : Nat) (hV : gV c o) (hn : glen o = n + 1) (hi : vp_in i (n + 1)) (hd : decode cc pc = .ok (.iastore, 1)) (kk : gWW X Y nL (pc + 1) lv st (gwr M c o i.toNatClampNeg x)) : gWW X Y nL pc lv (.int x :: .int i :: .ref (gad Y c o) :: st) M := by
  intro H locs ls hS h
  obtain ⟨q, hq, hq2⟩ := gW_at (Y := Y) (M := M) hV
  rw [gce_a n hn] at hq
  refine va_iast (D := Y.1) (A := gA Y) hC.1 hC.2.1 hC.2.2.2.2.2.1 hS.1 hS.2.1 hS.2.2 q 0 hq rfl hi hd (fun H1 locs1 g1 g2 g3 => ?_)
  rw [gW_set (M' := gwr M c o i.toNatClampNeg x) hS.2.1 hq2 (by rw [gce_a n hn]; unfold gwr; rw [gup_at]) gup_ne] at g1 g2
  exact kk H1 locs1 ls ⟨g1, g2, g3⟩ h
theorem q_zald (hC : gC X Y cc own nL fr lo) {c o : Nat} {i : Int32} (hV : gV c o) (he : gcel Y M c o = .inl (gca Y 1, 2, .inl (M.1 c o))) (hi : vp_in i 2) (hd : decode cc pc = .ok (.baload, 1)) (kk : gWW X Y nL (pc + 1) lv (.int (M.1 c o i.toNatClampNeg) :: st) M) : gWW X Y nL pc lv (.int i :: .ref (gad Y c o) :: st) M := by
  intro H locs ls hS h
  obtain ⟨q, hq, -⟩ := gW_at (Y := Y) (M := M) hV
  rw [he] at hq
  exact va_zald (D := Y.1) hC.1 hC.2.1 hC.2.2.2.2.2.1 hS.1 q 1 hq rfl hi hd (kk H locs ls hS h)
theorem q_zast (hC : gC X Y cc own nL fr lo) {c o : Nat} {i x : Int32} (hV : gV c o) (he : ∀ M : gMem, gcel Y M c o = .inl (gca Y 1, 2, .inl (M.1 c o))) (hi : vp_in i 2) (hx : vp_nar .boolean x = x) (hd : decode cc pc = .ok (.bastore, 1)) (kk : gWW X Y nL (pc + 1) lv st (gwr M c o i.toNatClampNeg x)) : gWW X Y nL pc lv (.int x :: .int i :: .ref (gad Y c o) :: st) M := by
  intro H locs ls hS h
  obtain ⟨q, hq, hq2⟩ := gW_at (Y := Y) (M := M) hV
  rw [he] at hq
  refine va_zast (D := Y.1) (A := gA Y) hC.1 hC.2.1 hC.2.2.2.2.2.1 hS.1 hS.2.1 hS.2.2 q 1 hq rfl hi hd (fun H1 locs1 g1 g2 g3 => ?_)
  rw [hx] at g1 g2
  rw [gW_set (M' := gwr M c o i.toNatClampNeg x) hS.2.1 hq2 (by rw [he]; unfold gwr; rw [gup_at]) gup_ne] at g1 g2
  exact kk H1 locs1 ls ⟨g1, g2, g3⟩ h
theorem q_aald (hC : gC X Y cc own nL fr lo) {c o n b t0 : Nat} {i : Int32} {cA : ClassId} {ty : FieldType} {f : Nat → Option Nat} (hV : gV c o) (he : gcel Y M c o = .inl (cA, n, .inr (.inr (.inr (.inr f))))) (ht : (gTys Y)[t0]? = some (cA, ty)) (hty : ty.isReference = true) (hi : vp_in i n) (hf : f i.toNatClampNeg = some b) (hd : decode cc pc = .ok (.aaload, 1)) (kk : gWW X Y nL (pc + 1) lv (.ref b :: st) M) : gWW X Y nL pc lv (.int i :: .ref (gad Y c o) :: st) M := by
  intro H locs ls hS h
  obtain ⟨q, hq, -⟩ := gW_at (Y := Y) (M := M) hV
  rw [he] at hq
  have hlt : i.toNatClampNeg < n := Nat.not_le.mp fun q => hi (Or.inr q)
  refine W.aald (v := .ref b) (ty := ty) hC.1 hC.2.1 (hS.1 q _ hq) ((hC.2.2.2.2.2.1.2 t0 _ ht).1 n (fun j => va_rf (f j))) hty (fun q => by cases q) (by show ¬ (i < 0 ∨ (arrV _ _ _).slots.size ≤ _); rw [arrV_size]; exact hi) (by show (arrV _ _ _).slots[_]? = _; rw [arrV_read _ _ hlt, hf]; rfl) rfl rfl hd (kk H locs ls hS h)
theorem q_alen (hC : gC X Y cc own nL fr lo) {c o : Nat} (n : Nat) (v : Int32) (hV : gV c o) (hn : glen o = n + 1) (hv : Int32.ofNat (n + 1) = v) (hd : decode cc pc = .ok (.arraylength, 1)) (kk : gWW X Y nL (pc + 1) lv (.int v :: st) M) : gWW X Y nL pc lv (.ref (gad Y c o) :: st) M := by
  intro H locs ls hS h
  obtain ⟨q, hq, -⟩ := gW_at (Y := Y) (M := M) hV
  rw [gce_a n hn] at hq
  exact va_alen (D := Y.1) hC.1 hC.2.1 hC.2.2.2.2.2.1 hS.1 q 0 hq rfl hv hd (kk H locs ls hS h)
/-- System.arraycopy over int rows -/
theorem q_copy (hC : gC X Y cc own nL fr lo) {c0 o0 c1 o1 idx : Nat} {sp dp n : Int32} (n0 n1 : Nat) (hV0 : gV c0 o0) (hV1 : gV c1 o1) (hn0 : glen o0 = n0 + 1) (hn1 : glen o1 = n1 + 1) (hl : Cond.methodLink own idx arraycopyName ∈ gTs) (hg : (¬ sp < 0 ∧ ¬ dp < 0 ∧ ¬ n < 0) ∧ sp.toNatClampNeg + n.toNatClampNeg ≤ n0 + 1 ∧ dp.toNatClampNeg + n.toNatClampNeg ≤ n1 + 1) (hw : Cond.native arraycopyName ∈ gTs ∧ Cond.static arraycopyName ∈ gTs ∧ Cond.initialized "java/lang/System" ∈ gTs) (hfr : 1 ≤ fr) (hlo : (st.map fun v => v.category).sum + (nativeFrameWords "java/lang/System" "arraycopy" 5 + 11) ≤ lo) (hd : decode cc pc = .ok (.invokestatic idx, 3)) (kk : gWW X Y nL (pc + 3) lv st (gup M c1 o1 (va_cpy (M.1 c0 o0) (M.1 c1 o1) sp.toNatClampNeg dp.toNatClampNeg n.toNatClampNeg))) : gWW X Y nL pc lv (.int n :: .int dp :: .ref (gad Y c1 o1) :: .int sp :: .ref (gad Y c0 o0) :: st) M := by
  intro H locs ls hS h
  obtain ⟨q0, hq0, -⟩ := gW_at (Y := Y) (M := M) hV0
  obtain ⟨q1, hq1, hq2⟩ := gW_at (Y := Y) (M := M) hV1
  rw [gce_a n0 hn0] at hq0
  rw [gce_a n1 hn1] at hq1
  have hts := hC.2.2.2.2.1
  have hR := hC.2.2.2.2.2.2.2.2
  refine va_copyi (D := Y.1) (A := gA Y) hC.1 hC.2.1 (hC.2.2.1.trans h.1.symm) hC.2.2.2.1 (hts _ hl) (hts _ hw.1) (hts _ hw.2.1) (hts _ hw.2.2) hC.2.2.2.2.2.1 hS.1 hS.2.1 hS.2.2 q0 q1 0 0 hq0 hq1 rfl rfl rfl hg.1.1 hg.1.2.1 hg.1.2.2 hg.2.1 hg.2.2 (fun _ _ => rfl) (by rw [hR.1]; exact hfr) (by rw [hR.2.1]; exact hlo) hd (fun H1 locs1 g1 g2 g3 => ?_)
  rw [gW_set (M' := gup M c1 o1 (va_cpy (M.1 c0 o0) (M.1 c1 o1) sp.toNatClampNeg dp.toNatClampNeg n.toNatClampNeg)) hS.2.1 hq2 (by rw [gce_a n1 hn1, gup_at]) gup_ne] at g1 g2
  exact kk H1 locs1 ls ⟨g1, g2, g3⟩ h
end GM
end
section
/-! methods and calls -/
def gws (y : MethodName) (cc : ByteArray) (maxL : Nat) (ret : Option FieldType) : List Cond := Cond.code y cc maxL ret :: gTs
def gQi (Y : gY) (r : Int32 × gMem) : Array Value → State → Outcome → State → Prop := va_Qi (fun (v : Int32) (_ : Unit) => v = r.1) (fun _ t => gS0 Y r.2 t) (gA Y)
def gQz (Y : gY) (r : Int32 × gMem) : Array Value → State → Outcome → State → Prop := va_Qi (fun (v : Int32) (_ : Unit) => v = r.1 ∧ (v = 0 ∨ v = 1)) (fun _ t => gS0 Y r.2 t) (gA Y)
def gQl (Y : gY) (r : Int64 × gMem) : Array Value → State → Outcome → State → Prop := va_Ql (fun (v : Int64) (_ : Unit) => v = r.1) (fun _ t => gS0 Y r.2 t) (gA Y)
def gQv (Y : gY) (r : gMem) : Array Value → State → Outcome → State → Prop := va_Qv (fun (_ : Unit) => True) (fun _ t => gS0 Y r t) (gA Y)
/-- the method's end: what it must answer -/
def gF (X : gX) (Y : gY) (ret : Option FieldType) (Qc : Array Value → State → Outcome → State → Prop) : Prop := (gxM X).sig.returnType = ret ∧ gxQ X = MQ (gxb X) Qc (gxa X) (gxs X) 0 0 (gA Y)
theorem gmet {l : Launch} {y : MethodName} {cc : ByteArray} {nL : Nat} {ret : Option FieldType} {rm : Room} {Y : gY} {M : gMem} {av : List Value} {lv : List (Nat × Value)} {Qc : Array Value → State → Outcome → State → Prop} (own : String) (hy : plainName y.cls = true) (hown : y.cls = own) (hlen : (lg_sl av).length ≤ nL) (hlv : lv_args 0 av = lv)
    (body : ∀ X : gX, gC X Y cc own nL rm.frames rm.locals → gF X Y ret Qc → gWW X Y nL 0 lv [] M) : Met l y (gws y cc nL ret) rm (va_Pc av (gS0 Y M)) Qc 0 0 (gA Y) := by
  refine Met.ofW (cc := cc) (maxL := nL) (ret := ret) hy rfl ?_
  intro p e s m args below meth c s₁ B hml hv
  obtain ⟨rfl, hP, hD, hK, hN, hZ⟩ := hv
  have hts := atoms_spec (ws := gws y cc nL ret) B.pre
  have ho : s.vm.findClass y.cls = some m.cls := findClass_of_methodNamed B.named
  have hl := lv_entry av (n := nL) hlen
  rw [lg_entry_eq]
  rw [hlv] at hl
  exact body (p, l, e, rm, s, m, av.toArray, below, meth, c, MQ below Qc av.toArray s 0 0 (gA Y)) ⟨B.exec, B.bytes, hml, by rw [← hown]; exact ho, fun w hw => hts w (List.mem_cons_of_mem _ hw), hK, hN, hZ, rfl, rfl, B.notSynchronized⟩ ⟨B.returns, rfl⟩ s.heap [] _ ⟨hP, hD, va_S.rf⟩ hl
def gMth (y : MethodName) (cc : ByteArray) (maxL : Nat) (ret : Option FieldType) (n : Nat) : Prop := Cond.code y cc maxL ret ∈ gTs ∧ Cond.initialized y.cls ∈ gTs ∧ y.cls ≠ "java/lang/invoke/MethodHandle" ∧ y.cls ≠ "java/lang/invoke/VarHandle" ∧ (parseMethodDescriptor y.desc).map (fun d => d.parameters.length) = some n
def gMi (y : MethodName) (cc : ByteArray) (maxL : Nat) (ret : Option FieldType) (n : Nat) : Prop := gMth y cc maxL ret n ∧ Cond.instanceMethod y ∈ gTs ∧ Cond.selects y.cls y y ∈ gTs
def gMs (y : MethodName) (cc : ByteArray) (maxL : Nat) (ret : Option FieldType) (n : Nat) : Prop := gMth y cc maxL ret n ∧ Cond.static y ∈ gTs
theorem gws_good {y : MethodName} {cc : ByteArray} {maxL : Nat} {ret : Option FieldType} (h : Cond.code y cc maxL ret ∈ gTs) : GoodIn gTs (gws y cc maxL ret) := by
  intro w hw
  have h1 : w ∈ gTs := by
    rcases List.mem_cons.mp hw with rfl | hw
    · exact h
    · exact hw
  exact ⟨h1, good_of_word (List.mem_filter.mp h1).2⟩
section GK
variable {X : gX} {Y : gY} {cc : ByteArray} {own : String} {nL fr lo pc : Nat} {lv : List (Nat × Value)} {st : List Value} {M : gMem}
def gRun (X : gX) (Y : gY) (nL pc : Nat) (lv : List (Nat × Value)) (st rest : List Value) (M : gMem) (Qa : State → Outcome → State → Prop) : Prop :=
  ∀ (H : Heap) (locs : List Loc) (ls : Array Slot), gSt (gxs X) Y M H locs → lv_has ls nL lv → va_Run X.1 X.2.1 X.2.2.1 (gxR X) (gxs X) (gxm X) (gxa X) (gxb X) (gxM X) (gxc X) H locs 0 0 0 0 (F0 (gxm X) pc ls st) rest Qa (gA Y)
theorem gCf (hC : gC X Y cc own nL fr lo) : CallFix X.1 (gxm X) (gxc X) cc nL (gxs X) (gxa X) gTs own := ⟨hC.1, hC.2.1, hC.2.2.1, hC.2.2.2.1, hC.2.2.2.2.1⟩
theorem gCb (hC : gC X Y cc own nL fr lo) {y : MethodName} {bytes : ByteArray} {maxL n idx : Nat} {ret : Option FieldType} {rm : Room} (hm : gMth y bytes maxL ret n) (hl : Cond.methodLink own idx y ∈ gTs) (hR : rm.cells = 0 ∧ rm.slots = 0 ∧ rm.frames + 1 ≤ fr ∧ 8 + (maxL + 11) + rm.locals ≤ lo) : CallB (gxR X) (gxs X) (gxa X) own idx y bytes maxL ret (gws y bytes maxL ret) rm 0 0 n := by
  have hts := hC.2.2.2.2.1
  have h9 := hC.2.2.2.2.2.2.2.2
  exact callB_of n hts (gws_good hm.1) rfl hR.1 hR.2.1 (hts _ hm.2.1) (hts _ hl) hm.2.2 ⟨by rw [h9.1]; exact hR.2.2.1, by rw [h9.2.1]; exact hR.2.2.2⟩
theorem q_rV (hC : gC X Y cc own nL fr lo) {y : MethodName} {bytes : ByteArray} {maxL n idx c o ci N : Nat} {ret : Option FieldType} {rm : Room} {As rest fs : List Value} {T : u_T} {Qc : Array Value → State → Outcome → State → Prop} (hm : gMi y bytes maxL ret n) (hl : Cond.methodLink own idx y ∈ gTs)
    (hM : Met X.2.1 y (gws y bytes maxL ret) rm (va_Pc (.ref (gad Y c o) :: As) (gS0 Y M)) Qc 0 0 (gA Y)) (hR : rm.cells = 0 ∧ rm.slots = 0 ∧ rm.frames + 1 ≤ fr ∧ 8 + (maxL + 11) + rm.locals ≤ lo) (hV : gV c o) (he : gcel Y M c o = .inr (ci, fs)) (hc : vwCl[ci]? = some (y.cls, T, N)) (hn : As.length = n) (hst : st = As.reverse ++ .ref (gad Y c o) :: rest) (hrest : (rest.map fun v => v.category).sum ≤ 8) (hd : decode cc pc = .ok (.invokevirtual idx, 3)) :
    gRun X Y nL pc lv st rest M (Qc (Value.ref (gad Y c o) :: As).toArray) := by
  intro H locs ls hS h
  subst hst
  obtain ⟨q, hq, -⟩ := gW_at (Y := Y) (M := M) hV
  rw [he] at hq
  have hts := hC.2.2.2.2.1
  exact va_runV (gCf hC) hM ⟨gCb hC hm.1 hl hR, hts _ hm.2.1, hts _ hm.2.2⟩ ⟨gS0.blind _, va_recv hC.2.2.2.2.2.1 hS.1 (ci := ci) (q0 := q) hc hq, fun U hU hW => ⟨rfl, hC.s0 hS hU hW⟩⟩ rfl hn h.1 rfl (lv_room hrest) hd ⟨Nat.zero_le _, Nat.zero_le _⟩
theorem q_rS (hC : gC X Y cc own nL fr lo) {y : MethodName} {bytes : ByteArray} {maxL n idx : Nat} {ret : Option FieldType} {rm : Room} {As rest : List Value} {Qc : Array Value → State → Outcome → State → Prop} (hm : gMs y bytes maxL ret n) (hl : Cond.methodLink own idx y ∈ gTs)
    (hM : Met X.2.1 y (gws y bytes maxL ret) rm (va_Pc As (gS0 Y M)) Qc 0 0 (gA Y)) (hR : rm.cells = 0 ∧ rm.slots = 0 ∧ rm.frames + 1 ≤ fr ∧ 8 + (maxL + 11) + rm.locals ≤ lo) (hn : As.length = n) (hst : st = As.reverse ++ rest) (hrest : (rest.map fun v => v.category).sum ≤ 8) (hd : decode cc pc = .ok (.invokestatic idx, 3)) :
    gRun X Y nL pc lv st rest M (Qc As.toArray) := by
  intro H locs ls hS h
  subst hst
  have hts := hC.2.2.2.2.1
  exact va_runS (gCf hC) hM ⟨gCb hC hm.1 hl hR, hts _ hm.2⟩ ⟨gS0.blind _, fun U hU hW => ⟨rfl, hC.s0 hS hU hW⟩⟩ rfl hn h.1 rfl (lv_room hrest) hd ⟨Nat.zero_le _, Nat.zero_le _⟩
/-- super.m(..) -/
theorem q_rU (hC : gC X Y cc own nL fr lo) {y : MethodName} {bytes : ByteArray} {maxL n idx c o ci N : Nat} {ret : Option FieldType} {rm : Room} {As rest fs : List Value} {T : u_T} {C : String} {Qc : Array Value → State → Outcome → State → Prop} (hm : gMth y bytes maxL ret n) (hi : Cond.instanceMethod y ∈ gTs) (hl : Cond.methodLink own idx y ∈ gTs) (hsm : Cond.sameMethod y.cls y.cls y.name y.desc ∈ gTs) (hsu : Cond.superclass own y.cls ∈ gTs) (hno : y.name ≠ "<init>")
    (hM : Met X.2.1 y (gws y bytes maxL ret) rm (va_Pc (.ref (gad Y c o) :: As) (gS0 Y M)) Qc 0 0 (gA Y)) (hR : rm.cells = 0 ∧ rm.slots = 0 ∧ rm.frames + 1 ≤ fr ∧ 8 + (maxL + 11) + rm.locals ≤ lo) (hV : gV c o) (he : gcel Y M c o = .inr (ci, fs)) (hc : vwCl[ci]? = some (C, T, N)) (hn : As.length = n) (hst : st = As.reverse ++ .ref (gad Y c o) :: rest) (hrest : (rest.map fun v => v.category).sum ≤ 8) (hd : decode cc pc = .ok (.invokespecial idx, 3)) :
    gRun X Y nL pc lv st rest M (Qc (Value.ref (gad Y c o) :: As).toArray) := by
  intro H locs ls hS h
  subst hst
  obtain ⟨q, hq, -⟩ := gW_at (Y := Y) (M := M) hV
  rw [he] at hq
  have hts := hC.2.2.2.2.1
  obtain ⟨b1, b2, b3, b4, b5, b6, b7, b8, b9, b10, b11⟩ := gCb hC hm hl hR
  exact va_runSU (hC.2.2.2.2.2.1.1 ci _ hc).2 (gCf hC) hM ⟨⟨b1, b2, b3, b4, b5, b6⟩, b11, hts _ hsm, hts _ hsu, hts _ hi, b8, b7, hno, b10⟩ ⟨gS0.blind _, va_recv hC.2.2.2.2.2.1 hS.1 (ci := ci) (q0 := q) hc hq, fun U hU hW => ⟨rfl, hC.s0 hS hU hW⟩⟩ rfl hn h.1 rfl (lv_room hrest) hd ⟨Nat.zero_le _, Nat.zero_le _⟩
/-- a method named x, chosen as y by the receiver's class C -/
theorem q_rD (hC : gC X Y cc own nL fr lo) {x y : MethodName} {bytes : ByteArray} {maxL n idx c o ci N : Nat} {ret : Option FieldType} {rm : Room} {As rest fs : List Value} {T : u_T} {C : String} {Qc : Array Value → State → Outcome → State → Prop} (hm : gMth y bytes maxL ret n) (hi : Cond.instanceMethod y ∈ gTs) (hix : Cond.instanceMethod x ∈ gTs) (hmx : x.cls ≠ "java/lang/invoke/MethodHandle" ∧ x.cls ≠ "java/lang/invoke/VarHandle" ∧ y.desc = x.desc) (hl : Cond.methodLink own idx x ∈ gTs) (hsm : Cond.sameMethod x.cls x.cls x.name x.desc ∈ gTs) (hse : Cond.selects C x y ∈ gTs)
    (hcx : ∃ b mx rx, Cond.code x b mx rx ∈ gTs)
    (hM : Met X.2.1 y (gws y bytes maxL ret) rm (va_Pc (.ref (gad Y c o) :: As) (gS0 Y M)) Qc 0 0 (gA Y)) (hR : rm.cells = 0 ∧ rm.slots = 0 ∧ rm.frames + 1 ≤ fr ∧ 8 + (maxL + 11) + rm.locals ≤ lo) (hV : gV c o) (he : gcel Y M c o = .inr (ci, fs)) (hc : vwCl[ci]? = some (C, T, N)) (hn : As.length = n) (hst : st = As.reverse ++ .ref (gad Y c o) :: rest) (hrest : (rest.map fun v => v.category).sum ≤ 8) (hd : decode cc pc = .ok (.invokevirtual idx, 3)) :
    gRun X Y nL pc lv st rest M (Qc (Value.ref (gad Y c o) :: As).toArray) := by
  intro H locs ls hS h
  subst hst
  obtain ⟨q, hq, -⟩ := gW_at (Y := Y) (M := M) hV
  rw [he] at hq
  have hts := hC.2.2.2.2.1
  have h9 := hC.2.2.2.2.2.2.2.2
  have hG := gws_good hm.1
  have hdecl : va_Decl (gxs X) ⟨x.cls, x.name, x.desc⟩ := by
    obtain ⟨mk, methM, hnamed, hmethM, hstM, habM⟩ := Cond.instanceMethod_spec (hts _ hix)
    obtain ⟨b, mx, rx, hcd⟩ := hcx
    obtain ⟨methM', cM, hmethM', -, -, -, -, -, -, hsigM⟩ := Cond.code_spec hnamed (hts _ hcd)
    cases hmethM.symm.trans hmethM'
    exact ⟨mk, methM, hnamed, hmethM, hstM, hsigM⟩
  have hlen : ∀ sig, parseMethodDescriptor x.desc = some sig → n = sig.parameters.length := fun sig hs => by
    have h2 := hm.2.2.2.2
    rw [hmx.2.2, hs] at h2
    exact (Option.some.inj h2).symm
  exact va_runU (owner := x.cls) (gCf hC) hM ⟨⟨hR.1, hR.2.1, by rw [h9.1]; exact hR.2.2.1, by rw [h9.2.1]; exact hR.2.2.2, pay_in hts hG, List.mem_cons_self⟩, hts _ hm.1, hts _ hm.2.1, ⟨hmx.1, hmx.2.1⟩, hlen, hts _ hl, hts _ hsm, hdecl, hts _ hse, hts _ hi⟩ ⟨gS0.blind _, va_recv hC.2.2.2.2.2.1 hS.1 (ci := ci) (q0 := q) hc hq, fun U hU hW => ⟨rfl, hC.s0 hS hU hW⟩⟩ rfl hn h.1 rfl (lv_room hrest) hd ⟨Nat.zero_le _, Nat.zero_le _⟩
theorem q_ki {rest : List Value} {r : Int32 × gMem} {a : Array Value} (hr : gRun X Y nL pc lv st rest M (gQi Y r a)) (kk : gWW X Y nL (pc + 3) lv (.int r.1 :: rest) r.2) : gWW X Y nL pc lv st M := by
  intro H locs ls hS h
  refine va_calli (hr H locs ls hS h) hS.2.2 (fun q _ h => h) (fun q h => h) (fun v u t H1 locs1 ht hvm hw hB _ _ hS1 => ?_)
  subst hw
  exact kk H1 locs1 ls ⟨by rw [← ht]; exact hB.1, hB.2.1, hS1⟩ h
theorem q_kz {rest : List Value} {r : Int32 × gMem} {a : Array Value} (hr : gRun X Y nL pc lv st rest M (gQz Y r a)) (kk : (r.1 = 0 ∨ r.1 = 1) → gWW X Y nL (pc + 3) lv (.int r.1 :: rest) r.2) : gWW X Y nL pc lv st M := by
  intro H locs ls hS h
  refine va_calli (hr H locs ls hS h) hS.2.2 (fun q _ h => h) (fun q h => h) (fun v u t H1 locs1 ht hvm hw hB _ _ hS1 => ?_)
  obtain ⟨hw, hz⟩ := hw
  subst hw
  exact kk hz H1 locs1 ls ⟨by rw [← ht]; exact hB.1, hB.2.1, hS1⟩ h
theorem q_kl {rest : List Value} {r : Int64 × gMem} {a : Array Value} (hr : gRun X Y nL pc lv st rest M (gQl Y r a)) (kk : gWW X Y nL (pc + 3) lv (.long r.1 :: rest) r.2) : gWW X Y nL pc lv st M := by
  intro H locs ls hS h
  refine va_calll (hr H locs ls hS h) hS.2.2 (fun q _ h => h) (fun q h => h) (fun v u t H1 locs1 ht hvm hw hB _ _ hS1 => ?_)
  subst hw
  exact kk H1 locs1 ls ⟨by rw [← ht]; exact hB.1, hB.2.1, hS1⟩ h
theorem q_kv {rest : List Value} {r : gMem} {a : Array Value} (hr : gRun X Y nL pc lv st rest M (gQv Y r a)) (kk : gWW X Y nL (pc + 3) lv rest r) : gWW X Y nL pc lv st M := by
  intro H locs ls hS h
  refine va_callv (hr H locs ls hS h) hS.2.2 (fun q _ h => h) (fun q h => h) (fun u t H1 locs1 ht hvm hw hB _ _ hS1 => ?_)
  exact kk H1 locs1 ls ⟨by rw [← ht]; exact hB.1, hB.2.1, hS1⟩ h
theorem q_iret (hC : gC X Y cc own nL fr lo) {r : Int32 × gMem} {v : Int32} (hF : gF X Y (some .int) (gQi Y r)) (hd : decode cc pc = .ok (.ireturn, 1)) (he : (v, M) = r) : gWW X Y nL pc lv [.int v] M := by
  intro H locs ls hS h
  subst he
  rw [hF.2]
  exact W.iret hC.1 hC.2.1 hF.1 (fun t ht hW => ⟨⟨v, (), rfl, rfl, hC.s0 hS ht hW⟩, hS.2.2.F ht⟩) hS.2.2.2.2 hd hC.2.2.2.2.2.2.2.2.2.2
theorem gnz {v : Int32} (h : v = 0 ∨ v = 1) : narrow .boolean (.int v) = .int v := by
  rcases h with rfl | rfl <;> rfl
theorem q_zret (hC : gC X Y cc own nL fr lo) {r : Int32 × gMem} {v : Int32} (hF : gF X Y (some .boolean) (gQz Y r)) (hd : decode cc pc = .ok (.ireturn, 1)) (hz : v = 0 ∨ v = 1) (he : (v, M) = r) : gWW X Y nL pc lv [.int v] M := by
  intro H locs ls hS h
  subst he
  rw [hF.2]
  exact W.zret hC.1 hC.2.1 hF.1 (gnz hz) (fun t ht hW => ⟨⟨v, (), rfl, ⟨rfl, hz⟩, hC.s0 hS ht hW⟩, hS.2.2.F ht⟩) hS.2.2.2.2 hd hC.2.2.2.2.2.2.2.2.2.2
theorem q_nret (hC : gC X Y cc own nL fr lo) {r : Int32 × gMem} {v : Int32} {ty : FieldType} (hF : gF X Y (some ty) (gQi Y r)) (hd : decode cc pc = .ok (.ireturn, 1)) (hz : narrow ty (.int v) = .int v) (he : (v, M) = r) : gWW X Y nL pc lv [.int v] M := by
  intro H locs ls hS h
  subst he
  rw [hF.2]
  exact W.zret hC.1 hC.2.1 hF.1 hz (fun t ht hW => ⟨⟨v, (), rfl, rfl, hC.s0 hS ht hW⟩, hS.2.2.F ht⟩) hS.2.2.2.2 hd hC.2.2.2.2.2.2.2.2.2.2
theorem q_lret (hC : gC X Y cc own nL fr lo) {r : Int64 × gMem} {v : Int64} (hF : gF X Y (some .long) (gQl Y r)) (hd : decode cc pc = .ok (.lreturn, 1)) (he : (v, M) = r) : gWW X Y nL pc lv [.long v] M := by
  intro H locs ls hS h
  subst he
  rw [hF.2]
  exact W.lret hC.1 hC.2.1 hF.1 (fun t ht hW => ⟨⟨v, (), rfl, rfl, hC.s0 hS ht hW⟩, hS.2.2.F ht⟩) hS.2.2.2.2 hd hC.2.2.2.2.2.2.2.2.2.2
theorem q_vret (hC : gC X Y cc own nL fr lo) {r : gMem} (hF : gF X Y none (gQv Y r)) (hd : decode cc pc = .ok (.return_, 1)) (he : M = r) : gWW X Y nL pc lv [] M := by
  intro H locs ls hS h
  subst he
  rw [hF.2]
  exact W.vret hC.1 hC.2.1 hF.1 (fun t ht hW => ⟨⟨(), rfl, trivial, hC.s0 hS ht hW⟩, hS.2.2.F ht⟩) hS.2.2.2.2 hd hC.2.2.2.2.2.2.2.2.2.2
end GK
end
section
theorem zz_t : True := trivial
end
