section
-- ===== PART A: goes FIRST, ahead of the names: the tables' words, and 'selects' of the private methods out of them =====
/-- a private method of a class that the tables say can be made, by its rows of tables_1 -/
def lw_okq (q : MethodName × Nat) : Prop := (q.1.cls ≠ "java/lang/invoke/MethodHandle" ∧ q.1.cls ≠ "java/lang/invoke/VarHandle") ∧ Cond.instantiable q.1.cls q.2 ∈ tables_1 ∧ Cond.privateMethod q.1 ∈ tables_1 ∧ Cond.instanceMethod q.1 ∈ tables_1
theorem lw_p0 : lw_okq (⟨"PalmTastes", "finding", "(I)I"⟩, 13) := ⟨⟨by decide +kernel, by decide +kernel⟩, List.mem_of_getElem? (i := 17) (by decide +kernel), List.mem_of_getElem? (i := 229) (by decide +kernel), List.mem_of_getElem? (i := 230) (by decide +kernel)⟩
theorem lw_p1 : lw_okq (⟨"PalmTastes", "noFinding", "(I)I"⟩, 13) := ⟨⟨by decide +kernel, by decide +kernel⟩, List.mem_of_getElem? (i := 17) (by decide +kernel), List.mem_of_getElem? (i := 241) (by decide +kernel), List.mem_of_getElem? (i := 242) (by decide +kernel)⟩
theorem lw_p2 : lw_okq (⟨"PalmTastes$Tape", "toNextToken", "()V"⟩, 9) := ⟨⟨by decide +kernel, by decide +kernel⟩, List.mem_of_getElem? (i := 27) (by decide +kernel), List.mem_of_getElem? (i := 289) (by decide +kernel), List.mem_of_getElem? (i := 290) (by decide +kernel)⟩
theorem lw_p3 : lw_okq (⟨"PalmTastes$Tape", "at", "(I)I"⟩, 9) := ⟨⟨by decide +kernel, by decide +kernel⟩, List.mem_of_getElem? (i := 27) (by decide +kernel), List.mem_of_getElem? (i := 293) (by decide +kernel), List.mem_of_getElem? (i := 294) (by decide +kernel)⟩
theorem lw_p4 : lw_okq (⟨"PalmTastes$Tape", "toEndOfNumber", "()V"⟩, 9) := ⟨⟨by decide +kernel, by decide +kernel⟩, List.mem_of_getElem? (i := 27) (by decide +kernel), List.mem_of_getElem? (i := 306) (by decide +kernel), List.mem_of_getElem? (i := 307) (by decide +kernel)⟩
theorem lw_p5 : lw_okq (⟨"PalmTastes$Tape", "isWord", "(Ljava/lang/String;)Z"⟩, 9) := ⟨⟨by decide +kernel, by decide +kernel⟩, List.mem_of_getElem? (i := 27) (by decide +kernel), List.mem_of_getElem? (i := 311) (by decide +kernel), List.mem_of_getElem? (i := 312) (by decide +kernel)⟩
theorem lw_p6 : lw_okq (⟨"PalmTastes$Tape", "faulty", "(I)Z"⟩, 9) := ⟨⟨by decide +kernel, by decide +kernel⟩, List.mem_of_getElem? (i := 27) (by decide +kernel), List.mem_of_getElem? (i := 363) (by decide +kernel), List.mem_of_getElem? (i := 364) (by decide +kernel)⟩
theorem lw_p7 : lw_okq (⟨"PalmTastes$Tape", "tellWall", "()Z"⟩, 9) := ⟨⟨by decide +kernel, by decide +kernel⟩, List.mem_of_getElem? (i := 27) (by decide +kernel), List.mem_of_getElem? (i := 367) (by decide +kernel), List.mem_of_getElem? (i := 368) (by decide +kernel)⟩
theorem lw_p8 : lw_okq (⟨"PalmTastes$Tape", "tellNumbers", "([III)Z"⟩, 9) := ⟨⟨by decide +kernel, by decide +kernel⟩, List.mem_of_getElem? (i := 27) (by decide +kernel), List.mem_of_getElem? (i := 371) (by decide +kernel), List.mem_of_getElem? (i := 372) (by decide +kernel)⟩
theorem lw_p9 : lw_okq (⟨"PalmTastes$Tape", "tellSign", "()Z"⟩, 9) := ⟨⟨by decide +kernel, by decide +kernel⟩, List.mem_of_getElem? (i := 27) (by decide +kernel), List.mem_of_getElem? (i := 375) (by decide +kernel), List.mem_of_getElem? (i := 376) (by decide +kernel)⟩
theorem lw_p10 : lw_okq (⟨"PalmTastes$Tape", "tellReader", "()Z"⟩, 9) := ⟨⟨by decide +kernel, by decide +kernel⟩, List.mem_of_getElem? (i := 27) (by decide +kernel), List.mem_of_getElem? (i := 380) (by decide +kernel), List.mem_of_getElem? (i := 381) (by decide +kernel)⟩
theorem lw_p11 : lw_okq (⟨"PalmTastes$Tape", "kindOfSort", "()I"⟩, 9) := ⟨⟨by decide +kernel, by decide +kernel⟩, List.mem_of_getElem? (i := 27) (by decide +kernel), List.mem_of_getElem? (i := 384) (by decide +kernel), List.mem_of_getElem? (i := 385) (by decide +kernel)⟩
theorem lw_p12 : lw_okq (⟨"PalmTastes", "canWalk", "(III)Z"⟩, 13) := ⟨⟨by decide +kernel, by decide +kernel⟩, List.mem_of_getElem? (i := 17) (by decide +kernel), List.mem_of_getElem? (i := 454) (by decide +kernel), List.mem_of_getElem? (i := 455) (by decide +kernel)⟩
theorem lw_p13 : lw_okq (⟨"PalmTastes", "hearMessage", "(IIII)I"⟩, 13) := ⟨⟨by decide +kernel, by decide +kernel⟩, List.mem_of_getElem? (i := 17) (by decide +kernel), List.mem_of_getElem? (i := 548) (by decide +kernel), List.mem_of_getElem? (i := 549) (by decide +kernel)⟩
theorem lw_p14 : lw_okq (⟨"PalmTastes", "readsOtherwise", "(II)Z"⟩, 13) := ⟨⟨by decide +kernel, by decide +kernel⟩, List.mem_of_getElem? (i := 17) (by decide +kernel), List.mem_of_getElem? (i := 556) (by decide +kernel), List.mem_of_getElem? (i := 557) (by decide +kernel)⟩
theorem lw_p15 : lw_okq (⟨"PalmTastes", "findSpice", "(III[I)Z"⟩, 13) := ⟨⟨by decide +kernel, by decide +kernel⟩, List.mem_of_getElem? (i := 17) (by decide +kernel), List.mem_of_getElem? (i := 564) (by decide +kernel), List.mem_of_getElem? (i := 565) (by decide +kernel)⟩
def lw_privs_1 : List (MethodName × Nat) := [(⟨"PalmTastes", "finding", "(I)I"⟩, 13), (⟨"PalmTastes", "noFinding", "(I)I"⟩, 13), (⟨"PalmTastes$Tape", "toNextToken", "()V"⟩, 9), (⟨"PalmTastes$Tape", "at", "(I)I"⟩, 9), (⟨"PalmTastes$Tape", "toEndOfNumber", "()V"⟩, 9), (⟨"PalmTastes$Tape", "isWord", "(Ljava/lang/String;)Z"⟩, 9), (⟨"PalmTastes$Tape", "faulty", "(I)Z"⟩, 9), (⟨"PalmTastes$Tape", "tellWall", "()Z"⟩, 9), (⟨"PalmTastes$Tape", "tellNumbers", "([III)Z"⟩, 9), (⟨"PalmTastes$Tape", "tellSign", "()Z"⟩, 9), (⟨"PalmTastes$Tape", "tellReader", "()Z"⟩, 9), (⟨"PalmTastes$Tape", "kindOfSort", "()I"⟩, 9), (⟨"PalmTastes", "canWalk", "(III)Z"⟩, 13), (⟨"PalmTastes", "hearMessage", "(IIII)I"⟩, 13), (⟨"PalmTastes", "readsOtherwise", "(II)Z"⟩, 13), (⟨"PalmTastes", "findSpice", "(III[I)Z"⟩, 13)]
theorem lw_r1 : ∀ q ∈ lw_privs_1, lw_okq q := List.forall_mem_cons.mpr ⟨lw_p0, List.forall_mem_cons.mpr ⟨lw_p1, List.forall_mem_cons.mpr ⟨lw_p2, List.forall_mem_cons.mpr ⟨lw_p3, List.forall_mem_cons.mpr ⟨lw_p4, List.forall_mem_cons.mpr ⟨lw_p5, List.forall_mem_cons.mpr ⟨lw_p6, List.forall_mem_cons.mpr ⟨lw_p7, List.forall_mem_cons.mpr ⟨lw_p8, List.forall_mem_cons.mpr ⟨lw_p9, List.forall_mem_cons.mpr ⟨lw_p10, List.forall_mem_cons.mpr ⟨lw_p11, List.forall_mem_cons.mpr ⟨lw_p12, List.forall_mem_cons.mpr ⟨lw_p13, List.forall_mem_cons.mpr ⟨lw_p14, List.forall_mem_cons.mpr ⟨lw_p15, fun _ h => absurd h List.not_mem_nil⟩⟩⟩⟩⟩⟩⟩⟩⟩⟩⟩⟩⟩⟩⟩⟩
theorem lw_p16 : lw_okq (⟨"PalmTastes", "firstFelt", "(II)I"⟩, 13) := ⟨⟨by decide +kernel, by decide +kernel⟩, List.mem_of_getElem? (i := 17) (by decide +kernel), List.mem_of_getElem? (i := 584) (by decide +kernel), List.mem_of_getElem? (i := 585) (by decide +kernel)⟩
theorem lw_p17 : lw_okq (⟨"PalmTastes$Asks", "askAnew", "(LPalmTastes$Street;III)I"⟩, 2) := ⟨⟨by decide +kernel, by decide +kernel⟩, List.mem_of_getElem? (i := 128) (by decide +kernel), List.mem_of_getElem? (i := 626) (by decide +kernel), List.mem_of_getElem? (i := 627) (by decide +kernel)⟩
theorem lw_p18 : lw_okq (⟨"PalmTastes$Asks", "bodyFor", "(II)I"⟩, 2) := ⟨⟨by decide +kernel, by decide +kernel⟩, List.mem_of_getElem? (i := 128) (by decide +kernel), List.mem_of_getElem? (i := 630) (by decide +kernel), List.mem_of_getElem? (i := 631) (by decide +kernel)⟩
theorem lw_p19 : lw_okq (⟨"PalmTastes$Asks", "gives", "(LPalmTastes$Street;III)I"⟩, 2) := ⟨⟨by decide +kernel, by decide +kernel⟩, List.mem_of_getElem? (i := 128) (by decide +kernel), List.mem_of_getElem? (i := 639) (by decide +kernel), List.mem_of_getElem? (i := 640) (by decide +kernel)⟩
theorem lw_p20 : lw_okq (⟨"PalmTastes$Asks", "leave", "(I)V"⟩, 2) := ⟨⟨by decide +kernel, by decide +kernel⟩, List.mem_of_getElem? (i := 128) (by decide +kernel), List.mem_of_getElem? (i := 643) (by decide +kernel), List.mem_of_getElem? (i := 644) (by decide +kernel)⟩
theorem lw_p21 : lw_okq (⟨"PalmTastes", "rowsThere", "()I"⟩, 13) := ⟨⟨by decide +kernel, by decide +kernel⟩, List.mem_of_getElem? (i := 17) (by decide +kernel), List.mem_of_getElem? (i := 656) (by decide +kernel), List.mem_of_getElem? (i := 657) (by decide +kernel)⟩
theorem lw_p22 : lw_okq (⟨"PalmTastesModel", "finding", "(I)I"⟩, 29) := ⟨⟨by decide +kernel, by decide +kernel⟩, List.mem_of_getElem? (i := 668) (by decide +kernel), List.mem_of_getElem? (i := 776) (by decide +kernel), List.mem_of_getElem? (i := 777) (by decide +kernel)⟩
theorem lw_p23 : lw_okq (⟨"PalmTastesModel", "begin", "()V"⟩, 29) := ⟨⟨by decide +kernel, by decide +kernel⟩, List.mem_of_getElem? (i := 668) (by decide +kernel), List.mem_of_getElem? (i := 804) (by decide +kernel), List.mem_of_getElem? (i := 805) (by decide +kernel)⟩
theorem lw_p24 : lw_okq (⟨"PalmTastesModel", "next", "()V"⟩, 29) := ⟨⟨by decide +kernel, by decide +kernel⟩, List.mem_of_getElem? (i := 668) (by decide +kernel), List.mem_of_getElem? (i := 808) (by decide +kernel), List.mem_of_getElem? (i := 809) (by decide +kernel)⟩
theorem lw_p25 : lw_okq (⟨"PalmTastesModel", "byteAt", "(I)I"⟩, 29) := ⟨⟨by decide +kernel, by decide +kernel⟩, List.mem_of_getElem? (i := 668) (by decide +kernel), List.mem_of_getElem? (i := 812) (by decide +kernel), List.mem_of_getElem? (i := 813) (by decide +kernel)⟩
theorem lw_p26 : lw_okq (⟨"PalmTastesModel", "name", "()J"⟩, 29) := ⟨⟨by decide +kernel, by decide +kernel⟩, List.mem_of_getElem? (i := 668) (by decide +kernel), List.mem_of_getElem? (i := 823) (by decide +kernel), List.mem_of_getElem? (i := 824) (by decide +kernel)⟩
theorem lw_p27 : lw_okq (⟨"PalmTastesModel", "bad", "(I)V"⟩, 29) := ⟨⟨by decide +kernel, by decide +kernel⟩, List.mem_of_getElem? (i := 668) (by decide +kernel), List.mem_of_getElem? (i := 828) (by decide +kernel), List.mem_of_getElem? (i := 829) (by decide +kernel)⟩
theorem lw_p28 : lw_okq (⟨"PalmTastesModel", "readWall", "()V"⟩, 29) := ⟨⟨by decide +kernel, by decide +kernel⟩, List.mem_of_getElem? (i := 668) (by decide +kernel), List.mem_of_getElem? (i := 832) (by decide +kernel), List.mem_of_getElem? (i := 833) (by decide +kernel)⟩
theorem lw_p29 : lw_okq (⟨"PalmTastesModel", "begins", "(II)V"⟩, 29) := ⟨⟨by decide +kernel, by decide +kernel⟩, List.mem_of_getElem? (i := 668) (by decide +kernel), List.mem_of_getElem? (i := 836) (by decide +kernel), List.mem_of_getElem? (i := 837) (by decide +kernel)⟩
theorem lw_p30 : lw_okq (⟨"PalmTastesModel", "must", "(Z)V"⟩, 29) := ⟨⟨by decide +kernel, by decide +kernel⟩, List.mem_of_getElem? (i := 668) (by decide +kernel), List.mem_of_getElem? (i := 840) (by decide +kernel), List.mem_of_getElem? (i := 841) (by decide +kernel)⟩
theorem lw_p31 : lw_okq (⟨"PalmTastesModel", "number", "(II)I"⟩, 29) := ⟨⟨by decide +kernel, by decide +kernel⟩, List.mem_of_getElem? (i := 668) (by decide +kernel), List.mem_of_getElem? (i := 844) (by decide +kernel), List.mem_of_getElem? (i := 845) (by decide +kernel)⟩
def lw_privs_2 : List (MethodName × Nat) := [(⟨"PalmTastes", "firstFelt", "(II)I"⟩, 13), (⟨"PalmTastes$Asks", "askAnew", "(LPalmTastes$Street;III)I"⟩, 2), (⟨"PalmTastes$Asks", "bodyFor", "(II)I"⟩, 2), (⟨"PalmTastes$Asks", "gives", "(LPalmTastes$Street;III)I"⟩, 2), (⟨"PalmTastes$Asks", "leave", "(I)V"⟩, 2), (⟨"PalmTastes", "rowsThere", "()I"⟩, 13), (⟨"PalmTastesModel", "finding", "(I)I"⟩, 29), (⟨"PalmTastesModel", "begin", "()V"⟩, 29), (⟨"PalmTastesModel", "next", "()V"⟩, 29), (⟨"PalmTastesModel", "byteAt", "(I)I"⟩, 29), (⟨"PalmTastesModel", "name", "()J"⟩, 29), (⟨"PalmTastesModel", "bad", "(I)V"⟩, 29), (⟨"PalmTastesModel", "readWall", "()V"⟩, 29), (⟨"PalmTastesModel", "begins", "(II)V"⟩, 29), (⟨"PalmTastesModel", "must", "(Z)V"⟩, 29), (⟨"PalmTastesModel", "number", "(II)I"⟩, 29)]
theorem lw_r2 : ∀ q ∈ lw_privs_2, lw_okq q := List.forall_mem_cons.mpr ⟨lw_p16, List.forall_mem_cons.mpr ⟨lw_p17, List.forall_mem_cons.mpr ⟨lw_p18, List.forall_mem_cons.mpr ⟨lw_p19, List.forall_mem_cons.mpr ⟨lw_p20, List.forall_mem_cons.mpr ⟨lw_p21, List.forall_mem_cons.mpr ⟨lw_p22, List.forall_mem_cons.mpr ⟨lw_p23, List.forall_mem_cons.mpr ⟨lw_p24, List.forall_mem_cons.mpr ⟨lw_p25, List.forall_mem_cons.mpr ⟨lw_p26, List.forall_mem_cons.mpr ⟨lw_p27, List.forall_mem_cons.mpr ⟨lw_p28, List.forall_mem_cons.mpr ⟨lw_p29, List.forall_mem_cons.mpr ⟨lw_p30, List.forall_mem_cons.mpr ⟨lw_p31, fun _ h => absurd h List.not_mem_nil⟩⟩⟩⟩⟩⟩⟩⟩⟩⟩⟩⟩⟩⟩⟩⟩
theorem lw_p32 : lw_okq (⟨"PalmTastesModel", "figures", "()I"⟩, 29) := ⟨⟨by decide +kernel, by decide +kernel⟩, List.mem_of_getElem? (i := 668) (by decide +kernel), List.mem_of_getElem? (i := 848) (by decide +kernel), List.mem_of_getElem? (i := 849) (by decide +kernel)⟩
theorem lw_p33 : lw_okq (⟨"PalmTastesModel", "mustEnd", "()V"⟩, 29) := ⟨⟨by decide +kernel, by decide +kernel⟩, List.mem_of_getElem? (i := 668) (by decide +kernel), List.mem_of_getElem? (i := 852) (by decide +kernel), List.mem_of_getElem? (i := 853) (by decide +kernel)⟩
theorem lw_p34 : lw_okq (⟨"PalmTastesModel", "readReader", "()V"⟩, 29) := ⟨⟨by decide +kernel, by decide +kernel⟩, List.mem_of_getElem? (i := 668) (by decide +kernel), List.mem_of_getElem? (i := 857) (by decide +kernel), List.mem_of_getElem? (i := 858) (by decide +kernel)⟩
theorem lw_p35 : lw_okq (⟨"PalmTastesModel", "isWall", "(I)Z"⟩, 29) := ⟨⟨by decide +kernel, by decide +kernel⟩, List.mem_of_getElem? (i := 668) (by decide +kernel), List.mem_of_getElem? (i := 878) (by decide +kernel), List.mem_of_getElem? (i := 879) (by decide +kernel)⟩
theorem lw_p36 : lw_okq (⟨"PalmTastesModel", "keep", "()V"⟩, 29) := ⟨⟨by decide +kernel, by decide +kernel⟩, List.mem_of_getElem? (i := 668) (by decide +kernel), List.mem_of_getElem? (i := 887) (by decide +kernel), List.mem_of_getElem? (i := 888) (by decide +kernel)⟩
theorem lw_p37 : lw_okq (⟨"PalmTastesModel", "strong", "(II)I"⟩, 29) := ⟨⟨by decide +kernel, by decide +kernel⟩, List.mem_of_getElem? (i := 668) (by decide +kernel), List.mem_of_getElem? (i := 891) (by decide +kernel), List.mem_of_getElem? (i := 892) (by decide +kernel)⟩
theorem lw_p38 : lw_okq (⟨"PalmTastesModel", "isThere", "()Z"⟩, 29) := ⟨⟨by decide +kernel, by decide +kernel⟩, List.mem_of_getElem? (i := 668) (by decide +kernel), List.mem_of_getElem? (i := 899) (by decide +kernel), List.mem_of_getElem? (i := 900) (by decide +kernel)⟩
theorem lw_p39 : lw_okq (⟨"PalmTastesModel", "isWalk", "(III)Z"⟩, 29) := ⟨⟨by decide +kernel, by decide +kernel⟩, List.mem_of_getElem? (i := 668) (by decide +kernel), List.mem_of_getElem? (i := 909) (by decide +kernel), List.mem_of_getElem? (i := 910) (by decide +kernel)⟩
theorem lw_p40 : lw_okq (⟨"PalmTastesModel", "isReader", "(I)Z"⟩, 29) := ⟨⟨by decide +kernel, by decide +kernel⟩, List.mem_of_getElem? (i := 668) (by decide +kernel), List.mem_of_getElem? (i := 913) (by decide +kernel), List.mem_of_getElem? (i := 914) (by decide +kernel)⟩
theorem lw_p41 : lw_okq (⟨"PalmTastesModel", "layPalm", "(I)V"⟩, 29) := ⟨⟨by decide +kernel, by decide +kernel⟩, List.mem_of_getElem? (i := 668) (by decide +kernel), List.mem_of_getElem? (i := 917) (by decide +kernel), List.mem_of_getElem? (i := 918) (by decide +kernel)⟩
theorem lw_p42 : lw_okq (⟨"PalmTastesModel", "of", "(II)I"⟩, 29) := ⟨⟨by decide +kernel, by decide +kernel⟩, List.mem_of_getElem? (i := 668) (by decide +kernel), List.mem_of_getElem? (i := 921) (by decide +kernel), List.mem_of_getElem? (i := 922) (by decide +kernel)⟩
theorem lw_p43 : lw_okq (⟨"PalmTastesModel", "tastes", "(III)I"⟩, 29) := ⟨⟨by decide +kernel, by decide +kernel⟩, List.mem_of_getElem? (i := 668) (by decide +kernel), List.mem_of_getElem? (i := 931) (by decide +kernel), List.mem_of_getElem? (i := 932) (by decide +kernel)⟩
theorem lw_p44 : lw_okq (⟨"PalmTastesModel", "feels", "(II)I"⟩, 29) := ⟨⟨by decide +kernel, by decide +kernel⟩, List.mem_of_getElem? (i := 668) (by decide +kernel), List.mem_of_getElem? (i := 935) (by decide +kernel), List.mem_of_getElem? (i := 936) (by decide +kernel)⟩
theorem lw_p45 : lw_okq (⟨"PalmTastesModel", "getsUsed", "(I)V"⟩, 29) := ⟨⟨by decide +kernel, by decide +kernel⟩, List.mem_of_getElem? (i := 668) (by decide +kernel), List.mem_of_getElem? (i := 939) (by decide +kernel), List.mem_of_getElem? (i := 940) (by decide +kernel)⟩
theorem lw_p46 : lw_okq (⟨"PalmTastesModel", "usedOf", "(I)I"⟩, 29) := ⟨⟨by decide +kernel, by decide +kernel⟩, List.mem_of_getElem? (i := 668) (by decide +kernel), List.mem_of_getElem? (i := 947) (by decide +kernel), List.mem_of_getElem? (i := 948) (by decide +kernel)⟩
theorem lw_p47 : lw_okq (⟨"PalmTastesModel", "reads", "(I)I"⟩, 29) := ⟨⟨by decide +kernel, by decide +kernel⟩, List.mem_of_getElem? (i := 668) (by decide +kernel), List.mem_of_getElem? (i := 971) (by decide +kernel), List.mem_of_getElem? (i := 972) (by decide +kernel)⟩
def lw_privs_3 : List (MethodName × Nat) := [(⟨"PalmTastesModel", "figures", "()I"⟩, 29), (⟨"PalmTastesModel", "mustEnd", "()V"⟩, 29), (⟨"PalmTastesModel", "readReader", "()V"⟩, 29), (⟨"PalmTastesModel", "isWall", "(I)Z"⟩, 29), (⟨"PalmTastesModel", "keep", "()V"⟩, 29), (⟨"PalmTastesModel", "strong", "(II)I"⟩, 29), (⟨"PalmTastesModel", "isThere", "()Z"⟩, 29), (⟨"PalmTastesModel", "isWalk", "(III)Z"⟩, 29), (⟨"PalmTastesModel", "isReader", "(I)Z"⟩, 29), (⟨"PalmTastesModel", "layPalm", "(I)V"⟩, 29), (⟨"PalmTastesModel", "of", "(II)I"⟩, 29), (⟨"PalmTastesModel", "tastes", "(III)I"⟩, 29), (⟨"PalmTastesModel", "feels", "(II)I"⟩, 29), (⟨"PalmTastesModel", "getsUsed", "(I)V"⟩, 29), (⟨"PalmTastesModel", "usedOf", "(I)I"⟩, 29), (⟨"PalmTastesModel", "reads", "(I)I"⟩, 29)]
theorem lw_r3 : ∀ q ∈ lw_privs_3, lw_okq q := List.forall_mem_cons.mpr ⟨lw_p32, List.forall_mem_cons.mpr ⟨lw_p33, List.forall_mem_cons.mpr ⟨lw_p34, List.forall_mem_cons.mpr ⟨lw_p35, List.forall_mem_cons.mpr ⟨lw_p36, List.forall_mem_cons.mpr ⟨lw_p37, List.forall_mem_cons.mpr ⟨lw_p38, List.forall_mem_cons.mpr ⟨lw_p39, List.forall_mem_cons.mpr ⟨lw_p40, List.forall_mem_cons.mpr ⟨lw_p41, List.forall_mem_cons.mpr ⟨lw_p42, List.forall_mem_cons.mpr ⟨lw_p43, List.forall_mem_cons.mpr ⟨lw_p44, List.forall_mem_cons.mpr ⟨lw_p45, List.forall_mem_cons.mpr ⟨lw_p46, List.forall_mem_cons.mpr ⟨lw_p47, fun _ h => absurd h List.not_mem_nil⟩⟩⟩⟩⟩⟩⟩⟩⟩⟩⟩⟩⟩⟩⟩⟩
theorem lw_p48 : lw_okq (⟨"PalmTastesModel", "barred", "(III)I"⟩, 29) := ⟨⟨by decide +kernel, by decide +kernel⟩, List.mem_of_getElem? (i := 668) (by decide +kernel), List.mem_of_getElem? (i := 979) (by decide +kernel), List.mem_of_getElem? (i := 980) (by decide +kernel)⟩
theorem lw_p49 : lw_okq (⟨"PalmTastesModel", "laySpice", "(IIIII)Z"⟩, 29) := ⟨⟨by decide +kernel, by decide +kernel⟩, List.mem_of_getElem? (i := 668) (by decide +kernel), List.mem_of_getElem? (i := 991) (by decide +kernel), List.mem_of_getElem? (i := 992) (by decide +kernel)⟩
theorem lw_p50 : lw_okq (⟨"PalmTastesModel", "goes", "(III)Z"⟩, 29) := ⟨⟨by decide +kernel, by decide +kernel⟩, List.mem_of_getElem? (i := 668) (by decide +kernel), List.mem_of_getElem? (i := 1007) (by decide +kernel), List.mem_of_getElem? (i := 1008) (by decide +kernel)⟩
theorem lw_p51 : lw_okq (⟨"PalmTastesModel", "sizeOf", "(I)I"⟩, 29) := ⟨⟨by decide +kernel, by decide +kernel⟩, List.mem_of_getElem? (i := 668) (by decide +kernel), List.mem_of_getElem? (i := 1044) (by decide +kernel), List.mem_of_getElem? (i := 1045) (by decide +kernel)⟩
theorem lw_p52 : lw_okq (⟨"PalmTastesModel", "waxSize", "(I)I"⟩, 29) := ⟨⟨by decide +kernel, by decide +kernel⟩, List.mem_of_getElem? (i := 668) (by decide +kernel), List.mem_of_getElem? (i := 1048) (by decide +kernel), List.mem_of_getElem? (i := 1049) (by decide +kernel)⟩
theorem lw_p53 : lw_okq (⟨"PalmTastesModel", "began", "(I)V"⟩, 29) := ⟨⟨by decide +kernel, by decide +kernel⟩, List.mem_of_getElem? (i := 668) (by decide +kernel), List.mem_of_getElem? (i := 1052) (by decide +kernel), List.mem_of_getElem? (i := 1053) (by decide +kernel)⟩
theorem lw_p54 : lw_okq (⟨"PalmTastesModel", "plainSize", "(I)I"⟩, 29) := ⟨⟨by decide +kernel, by decide +kernel⟩, List.mem_of_getElem? (i := 668) (by decide +kernel), List.mem_of_getElem? (i := 1056) (by decide +kernel), List.mem_of_getElem? (i := 1057) (by decide +kernel)⟩
theorem lw_p55 : lw_okq (⟨"PalmTastesModel", "markOf", "(I)I"⟩, 29) := ⟨⟨by decide +kernel, by decide +kernel⟩, List.mem_of_getElem? (i := 668) (by decide +kernel), List.mem_of_getElem? (i := 1060) (by decide +kernel), List.mem_of_getElem? (i := 1061) (by decide +kernel)⟩
def lw_privs_4 : List (MethodName × Nat) := [(⟨"PalmTastesModel", "barred", "(III)I"⟩, 29), (⟨"PalmTastesModel", "laySpice", "(IIIII)Z"⟩, 29), (⟨"PalmTastesModel", "goes", "(III)Z"⟩, 29), (⟨"PalmTastesModel", "sizeOf", "(I)I"⟩, 29), (⟨"PalmTastesModel", "waxSize", "(I)I"⟩, 29), (⟨"PalmTastesModel", "began", "(I)V"⟩, 29), (⟨"PalmTastesModel", "plainSize", "(I)I"⟩, 29), (⟨"PalmTastesModel", "markOf", "(I)I"⟩, 29)]
theorem lw_r4 : ∀ q ∈ lw_privs_4, lw_okq q := List.forall_mem_cons.mpr ⟨lw_p48, List.forall_mem_cons.mpr ⟨lw_p49, List.forall_mem_cons.mpr ⟨lw_p50, List.forall_mem_cons.mpr ⟨lw_p51, List.forall_mem_cons.mpr ⟨lw_p52, List.forall_mem_cons.mpr ⟨lw_p53, List.forall_mem_cons.mpr ⟨lw_p54, List.forall_mem_cons.mpr ⟨lw_p55, fun _ h => absurd h List.not_mem_nil⟩⟩⟩⟩⟩⟩⟩⟩
def lw_privs : List (MethodName × Nat) := lw_privs_1 ++ (lw_privs_2 ++ (lw_privs_3 ++ (lw_privs_4)))
def lw_tbl : List Cond := k2_sels lw_privs ++ tables_1
theorem lw_privs_ok : ∀ q ∈ lw_privs, lw_okq q := by
  show ∀ q ∈ lw_privs_1 ++ (lw_privs_2 ++ (lw_privs_3 ++ (lw_privs_4))), lw_okq q
  exact List.forall_mem_append.mpr ⟨lw_r1, List.forall_mem_append.mpr ⟨lw_r2, List.forall_mem_append.mpr ⟨lw_r3, lw_r4⟩⟩⟩
def RX0 : String := "PalmTastes$Acts"
def TX0 : u_T := fun k => match k with
  | 0 => ("PalmTastes$Acts", "kept", "I", false)
  | 1 => ("PalmTastes$Acts", "next", "I", false)
  | _ => ("PalmTastes$Acts", "before", "[LPalmTastes$Street;", true)
def tyX0 : Nat → FieldType := fun k => match k with
  | 0 => .int
  | 1 => .int
  | _ => .array (.object "PalmTastes$Street")
abbrev wsX00 : List Cond := u_ws RX0 TX0 3
theorem nmX0 : ∀ a, a < 3 → ∀ b, b < 3 → a ≠ b → (TX0 a).2.1 ≠ (TX0 b).2.1 := by decide +kernel
theorem tyX0_ok : ∀ k, k < 3 → parseFieldDescriptor (TX0 k).2.2.1 = some (tyX0 k) := by decide +kernel
abbrev cX0_init : ByteArray := prog_2_method_1_code
def yX0_init : MethodName := ⟨RX0, "<init>", "()V"⟩
abbrev cX0_keep : ByteArray := prog_2_method_2_code
def yX0_keep : MethodName := ⟨RX0, "keep", "(LPalmTastes$Street;)V"⟩
abbrev cX0_undoLatest : ByteArray := prog_2_method_3_code
def yX0_undoLatest : MethodName := ⟨RX0, "undoLatest", "(LPalmTastes$Street;)V"⟩
abbrev cX0_forgetAll : ByteArray := prog_2_method_4_code
def yX0_forgetAll : MethodName := ⟨RX0, "forgetAll", "()V"⟩
def RX1 : String := "PalmTastes$Asks"
def TX1 : u_T := fun k => match k with
  | 0 => ("PalmTastes$Asks", "traced", "I", false)
  | _ => ("PalmTastes$Asks", "bodies", "[I", true)
def tyX1 : Nat → FieldType := fun k => match k with
  | 0 => .int
  | _ => .array .int
abbrev wsX10 : List Cond := u_ws RX1 TX1 2
theorem nmX1 : ∀ a, a < 2 → ∀ b, b < 2 → a ≠ b → (TX1 a).2.1 ≠ (TX1 b).2.1 := by decide +kernel
theorem tyX1_ok : ∀ k, k < 2 → parseFieldDescriptor (TX1 k).2.2.1 = some (tyX1 k) := by decide +kernel
abbrev cX1_init : ByteArray := prog_3_method_1_code
def yX1_init : MethodName := ⟨RX1, "<init>", "()V"⟩
abbrev cX1_answer : ByteArray := prog_3_method_2_code
def yX1_answer : MethodName := ⟨RX1, "answer", "(LPalmTastes$Street;II)I"⟩
abbrev cX1_askAnew : ByteArray := prog_3_method_3_code
def yX1_askAnew : MethodName := ⟨RX1, "askAnew", "(LPalmTastes$Street;III)I"⟩
abbrev cX1_bodyFor : ByteArray := prog_3_method_4_code
def yX1_bodyFor : MethodName := ⟨RX1, "bodyFor", "(II)I"⟩
abbrev cX1_gives : ByteArray := prog_3_method_5_code
def yX1_gives : MethodName := ⟨RX1, "gives", "(LPalmTastes$Street;III)I"⟩
abbrev cX1_leave : ByteArray := prog_3_method_6_code
def yX1_leave : MethodName := ⟨RX1, "leave", "(I)V"⟩
def RX2 : String := "PalmTastes$Palm"
def TX2 : u_T := fun k => match k with
  | 0 => ("PalmTastes$Palm", "kind", "I", false)
  | 1 => ("PalmTastes$Palm", "aftertaste", "I", false)
  | _ => ("PalmTastes$Palm", "used", "[I", true)
def tyX2 : Nat → FieldType := fun k => match k with
  | 0 => .int
  | 1 => .int
  | _ => .array .int
abbrev wsX20 : List Cond := u_ws RX2 TX2 3
theorem nmX2 : ∀ a, a < 3 → ∀ b, b < 3 → a ≠ b → (TX2 a).2.1 ≠ (TX2 b).2.1 := by decide +kernel
theorem tyX2_ok : ∀ k, k < 3 → parseFieldDescriptor (TX2 k).2.2.1 = some (tyX2 k) := by decide +kernel
abbrev cX2_init : ByteArray := prog_4_method_1_code
def yX2_init : MethodName := ⟨RX2, "<init>", "()V"⟩
abbrev cX2_take : ByteArray := prog_4_method_2_code
def yX2_take : MethodName := ⟨RX2, "take", "(LPalmTastes$Street;I)V"⟩
abbrev cX2_leave : ByteArray := prog_4_method_3_code
def yX2_leave : MethodName := ⟨RX2, "leave", "(LPalmTastes$Street;I)V"⟩
abbrev cX2_forgetAll : ByteArray := prog_4_method_4_code
def yX2_forgetAll : MethodName := ⟨RX2, "forgetAll", "()V"⟩
abbrev cX2_feels : ByteArray := prog_4_method_5_code
def yX2_feels : MethodName := ⟨RX2, "feels", "(II)I"⟩
abbrev cX2_tasteOn : ByteArray := prog_4_method_6_code
def yX2_tasteOn : MethodName := ⟨RX2, "tasteOn", "(LPalmTastes$Street;I)I"⟩
abbrev cX2_readOn : ByteArray := prog_4_method_7_code
def yX2_readOn : MethodName := ⟨RX2, "readOn", "(LPalmTastes$Street;I)I"⟩
abbrev cX2_swapped : ByteArray := prog_4_method_8_code
def yX2_swapped : MethodName := ⟨RX2, "swapped", "(I)I"⟩
abbrev cX2_getsUsedTo : ByteArray := prog_4_method_9_code
def yX2_getsUsedTo : MethodName := ⟨RX2, "getsUsedTo", "(I)V"⟩
abbrev cX2_leastSpice : ByteArray := prog_4_method_10_code
def yX2_leastSpice : MethodName := ⟨RX2, "leastSpice", "(LPalmTastes$Street;II)I"⟩
def RX3 : String := "PalmTastes$Row"
def TX3 : u_T := fun k => match k with
  | 0 => ("PalmTastes$Row", "there", "Z", false)
  | 1 => ("PalmTastes$Row", "lane", "I", false)
  | 2 => ("PalmTastes$Row", "size", "I", false)
  | _ => ("PalmTastes$Row", "items", "[I", true)
def tyX3 : Nat → FieldType := fun k => match k with
  | 0 => .boolean
  | 1 => .int
  | 2 => .int
  | _ => .array .int
abbrev wsX30 : List Cond := u_ws RX3 TX3 4
theorem nmX3 : ∀ a, a < 4 → ∀ b, b < 4 → a ≠ b → (TX3 a).2.1 ≠ (TX3 b).2.1 := by decide +kernel
theorem tyX3_ok : ∀ k, k < 4 → parseFieldDescriptor (TX3 k).2.2.1 = some (tyX3 k) := by decide +kernel
abbrev cX3_init : ByteArray := prog_5_method_1_code
def yX3_init : MethodName := ⟨RX3, "<init>", "()V"⟩
abbrev cX3_begin : ByteArray := prog_5_method_2_code
def yX3_begin : MethodName := ⟨RX3, "begin", "(II)V"⟩
abbrev cX3_hasPlaces : ByteArray := prog_5_method_3_code
def yX3_hasPlaces : MethodName := ⟨RX3, "hasPlaces", "(II)Z"⟩
abbrev cX3_inLane : ByteArray := prog_5_method_4_code
def yX3_inLane : MethodName := ⟨RX3, "inLane", "(I)I"⟩
def RX4 : String := "PalmTastes$Street"
def TX4 : u_T := fun k => match k with
  | 0 => ("PalmTastes$Street", "walls", "I", false)
  | 1 => ("PalmTastes$Street", "readers", "I", false)
  | 2 => ("PalmTastes$Street", "days", "I", false)
  | 3 => ("PalmTastes$Street", "strong", "[I", true)
  | 4 => ("PalmTastes$Street", "kinds", "[I", true)
  | _ => ("PalmTastes$Street", "palms", "[I", true)
def tyX4 : Nat → FieldType := fun k => match k with
  | 0 => .int
  | 1 => .int
  | 2 => .int
  | 3 => .array .int
  | 4 => .array .int
  | _ => .array .int
abbrev wsX40 : List Cond := u_ws RX4 TX4 6
theorem nmX4 : ∀ a, a < 6 → ∀ b, b < 6 → a ≠ b → (TX4 a).2.1 ≠ (TX4 b).2.1 := by decide +kernel
theorem tyX4_ok : ∀ k, k < 6 → parseFieldDescriptor (TX4 k).2.2.1 = some (tyX4 k) := by decide +kernel
abbrev cX4_init : ByteArray := prog_6_method_1_code
def yX4_init : MethodName := ⟨RX4, "<init>", "()V"⟩
abbrev cX4_clear : ByteArray := prog_6_method_2_code
def yX4_clear : MethodName := ⟨RX4, "clear", "()V"⟩
abbrev cX4_become : ByteArray := prog_6_method_3_code
def yX4_become : MethodName := ⟨RX4, "become", "(LPalmTastes$Street;)V"⟩
abbrev cX4_hasWall : ByteArray := prog_6_method_4_code
def yX4_hasWall : MethodName := ⟨RX4, "hasWall", "(I)Z"⟩
abbrev cX4_hasReader : ByteArray := prog_6_method_5_code
def yX4_hasReader : MethodName := ⟨RX4, "hasReader", "(I)Z"⟩
abbrev cX4_hasFlavour : ByteArray := prog_6_method_6_code
def yX4_hasFlavour : MethodName := ⟨RX4, "hasFlavour", "(II)Z"⟩
abbrev cX4_strength : ByteArray := prog_6_method_7_code
def yX4_strength : MethodName := ⟨RX4, "strength", "(II)I"⟩
abbrev cX4_strengthInAll : ByteArray := prog_6_method_8_code
def yX4_strengthInAll : MethodName := ⟨RX4, "strengthInAll", "()I"⟩
abbrev cX4_usedInAll : ByteArray := prog_6_method_9_code
def yX4_usedInAll : MethodName := ⟨RX4, "usedInAll", "(I)I"⟩
abbrev cX4_fadeByDay : ByteArray := prog_6_method_10_code
def yX4_fadeByDay : MethodName := ⟨RX4, "fadeByDay", "(I)I"⟩
def RX5 : String := "PalmTastes$Tape"
def TX5 : u_T := fun k => match k with
  | 0 => ("PalmTastes$Tape", "length", "I", false)
  | 1 => ("PalmTastes$Tape", "draft", "LPalmTastes$Street;", true)
  | 2 => ("PalmTastes$Tape", "fault", "I", false)
  | 3 => ("PalmTastes$Tape", "faultPlace", "I", false)
  | 4 => ("PalmTastes$Tape", "bytes", "[I", true)
  | 5 => ("PalmTastes$Tape", "token", "I", false)
  | 6 => ("PalmTastes$Tape", "begins", "I", false)
  | 7 => ("PalmTastes$Tape", "ends", "I", false)
  | _ => ("PalmTastes$Tape", "value", "I", false)
def tyX5 : Nat → FieldType := fun k => match k with
  | 0 => .int
  | 1 => .object "PalmTastes$Street"
  | 2 => .int
  | 3 => .int
  | 4 => .array .int
  | 5 => .int
  | 6 => .int
  | 7 => .int
  | _ => .int
abbrev wsX50 : List Cond := u_ws RX5 TX5 9
theorem nmX5 : ∀ a, a < 9 → ∀ b, b < 9 → a ≠ b → (TX5 a).2.1 ≠ (TX5 b).2.1 := by decide +kernel
theorem tyX5_ok : ∀ k, k < 9 → parseFieldDescriptor (TX5 k).2.2.1 = some (tyX5 k) := by decide +kernel
abbrev cX5_init : ByteArray := prog_7_method_1_code
def yX5_init : MethodName := ⟨RX5, "<init>", "()V"⟩
abbrev cX5_add : ByteArray := prog_7_method_2_code
def yX5_add : MethodName := ⟨RX5, "add", "(I)V"⟩
abbrev cX5_isStreet : ByteArray := prog_7_method_3_code
def yX5_isStreet : MethodName := ⟨RX5, "isStreet", "()Z"⟩
abbrev cX5_tellWall : ByteArray := prog_7_method_4_code
def yX5_tellWall : MethodName := ⟨RX5, "tellWall", "()Z"⟩
abbrev cX5_tellReader : ByteArray := prog_7_method_5_code
def yX5_tellReader : MethodName := ⟨RX5, "tellReader", "()Z"⟩
abbrev cX5_tellNumbers : ByteArray := prog_7_method_6_code
def yX5_tellNumbers : MethodName := ⟨RX5, "tellNumbers", "([III)Z"⟩
abbrev cX5_tellSign : ByteArray := prog_7_method_7_code
def yX5_tellSign : MethodName := ⟨RX5, "tellSign", "()Z"⟩
abbrev cX5_kindOfSort : ByteArray := prog_7_method_8_code
def yX5_kindOfSort : MethodName := ⟨RX5, "kindOfSort", "()I"⟩
abbrev cX5_at : ByteArray := prog_7_method_9_code
def yX5_at : MethodName := ⟨RX5, "at", "(I)I"⟩
abbrev cX5_faulty : ByteArray := prog_7_method_10_code
def yX5_faulty : MethodName := ⟨RX5, "faulty", "(I)Z"⟩
abbrev cX5_isWord : ByteArray := prog_7_method_11_code
def yX5_isWord : MethodName := ⟨RX5, "isWord", "(Ljava/lang/String;)Z"⟩
abbrev cX5_toNextToken : ByteArray := prog_7_method_12_code
def yX5_toNextToken : MethodName := ⟨RX5, "toNextToken", "()V"⟩
abbrev cX5_toEndOfNumber : ByteArray := prog_7_method_13_code
def yX5_toEndOfNumber : MethodName := ⟨RX5, "toEndOfNumber", "()V"⟩
abbrev cX5_isBlank : ByteArray := prog_7_method_14_code
def yX5_isBlank : MethodName := ⟨RX5, "isBlank", "(I)Z"⟩
abbrev cX5_isLetter : ByteArray := prog_7_method_15_code
def yX5_isLetter : MethodName := ⟨RX5, "isLetter", "(I)Z"⟩
abbrev cX5_isFigure : ByteArray := prog_7_method_16_code
def yX5_isFigure : MethodName := ⟨RX5, "isFigure", "(I)Z"⟩
def RX6 : String := "PalmTastes"
def TX6 : u_T := fun k => match k with
  | 0 => ("PalmTastes", "rows", "[LPalmTastes$Row;", true)
  | 1 => ("PalmTastes", "tape", "LPalmTastes$Tape;", true)
  | 2 => ("PalmTastes", "street", "LPalmTastes$Street;", true)
  | 3 => ("PalmTastes", "acts", "LPalmTastes$Acts;", true)
  | 4 => ("PalmTastes", "images", "[LPalmTastes$Street;", true)
  | 5 => ("PalmTastes", "asks", "LPalmTastes$Asks;", true)
  | 6 => ("PalmTastes", "latestFault", "I", false)
  | 7 => ("PalmTastes", "latestFinding", "I", false)
  | 8 => ("PalmTastes", "palm", "LPalmTastes$Palm;", true)
  | 9 => ("PalmTastes", "told", "[I", true)
  | 10 => ("PalmTastes", "readFirst", "[I", true)
  | 11 => ("PalmTastes", "spiceThere", "[I", true)
  | _ => ("PalmTastes", "spiceBack", "[I", true)
def tyX6 : Nat → FieldType := fun k => match k with
  | 0 => .array (.object "PalmTastes$Row")
  | 1 => .object "PalmTastes$Tape"
  | 2 => .object "PalmTastes$Street"
  | 3 => .object "PalmTastes$Acts"
  | 4 => .array (.object "PalmTastes$Street")
  | 5 => .object "PalmTastes$Asks"
  | 6 => .int
  | 7 => .int
  | 8 => .object "PalmTastes$Palm"
  | 9 => .array .int
  | 10 => .array .int
  | 11 => .array .int
  | _ => .array .int
abbrev wsX60 : List Cond := u_ws RX6 TX6 13
theorem nmX6 : ∀ a, a < 13 → ∀ b, b < 13 → a ≠ b → (TX6 a).2.1 ≠ (TX6 b).2.1 := by decide +kernel
theorem tyX6_ok : ∀ k, k < 13 → parseFieldDescriptor (TX6 k).2.2.1 = some (tyX6 k) := by decide +kernel
abbrev cX6_init : ByteArray := prog_1_method_1_code
def yX6_init : MethodName := ⟨RX6, "<init>", "()V"⟩
abbrev cX6_row : ByteArray := prog_1_method_2_code
def yX6_row : MethodName := ⟨RX6, "row", "(III)I"⟩
abbrev cX6_set : ByteArray := prog_1_method_3_code
def yX6_set : MethodName := ⟨RX6, "set", "(III)I"⟩
abbrev cX6_copy : ByteArray := prog_1_method_4_code
def yX6_copy : MethodName := ⟨RX6, "copy", "(IIIII)I"⟩
abbrev cX6_drop : ByteArray := prog_1_method_5_code
def yX6_drop : MethodName := ⟨RX6, "drop", "(I)I"⟩
abbrev cX6_isRow : ByteArray := prog_1_method_6_code
def yX6_isRow : MethodName := ⟨RX6, "isRow", "(I)Z"⟩
abbrev cX6_finding : ByteArray := prog_1_method_7_code
def yX6_finding : MethodName := ⟨RX6, "finding", "(I)I"⟩
abbrev cX6_noFinding : ByteArray := prog_1_method_8_code
def yX6_noFinding : MethodName := ⟨RX6, "noFinding", "(I)I"⟩
abbrev cX6_feed : ByteArray := prog_1_method_9_code
def yX6_feed : MethodName := ⟨RX6, "feed", "(JI)I"⟩
abbrev cX6_street : ByteArray := prog_1_method_10_code
def yX6_street : MethodName := ⟨RX6, "street", "()I"⟩
abbrev cX6_fault : ByteArray := prog_1_method_11_code
def yX6_fault : MethodName := ⟨RX6, "fault", "()I"⟩
abbrev cX6_paint : ByteArray := prog_1_method_12_code
def yX6_paint : MethodName := ⟨RX6, "paint", "(III)I"⟩
abbrev cX6_day : ByteArray := prog_1_method_13_code
def yX6_day : MethodName := ⟨RX6, "day", "(I)I"⟩
abbrev cX6_walk : ByteArray := prog_1_method_14_code
def yX6_walk : MethodName := ⟨RX6, "walk", "(III)I"⟩
abbrev cX6_rest : ByteArray := prog_1_method_15_code
def yX6_rest : MethodName := ⟨RX6, "rest", "(I)I"⟩
abbrev cX6_undo : ByteArray := prog_1_method_16_code
def yX6_undo : MethodName := ⟨RX6, "undo", "()I"⟩
abbrev cX6_wall : ByteArray := prog_1_method_17_code
def yX6_wall : MethodName := ⟨RX6, "wall", "(II)I"⟩
abbrev cX6_reader : ByteArray := prog_1_method_18_code
def yX6_reader : MethodName := ⟨RX6, "reader", "(II)I"⟩
abbrev cX6_felt : ByteArray := prog_1_method_19_code
def yX6_felt : MethodName := ⟨RX6, "felt", "(III)I"⟩
abbrev cX6_isFlavour : ByteArray := prog_1_method_20_code
def yX6_isFlavour : MethodName := ⟨RX6, "isFlavour", "(I)Z"⟩
abbrev cX6_canWalk : ByteArray := prog_1_method_21_code
def yX6_canWalk : MethodName := ⟨RX6, "canWalk", "(III)Z"⟩
abbrev cX6_wallsOnWay : ByteArray := prog_1_method_22_code
def yX6_wallsOnWay : MethodName := ⟨RX6, "wallsOnWay", "(II)I"⟩
abbrev cX6_wallOnWay : ByteArray := prog_1_method_23_code
def yX6_wallOnWay : MethodName := ⟨RX6, "wallOnWay", "(III)I"⟩
abbrev cX6_read : ByteArray := prog_1_method_24_code
def yX6_read : MethodName := ⟨RX6, "read", "(IIII)I"⟩
abbrev cX6_wrong : ByteArray := prog_1_method_25_code
def yX6_wrong : MethodName := ⟨RX6, "wrong", "(IIII)I"⟩
abbrev cX6_often : ByteArray := prog_1_method_26_code
def yX6_often : MethodName := ⟨RX6, "often", "(III)I"⟩
abbrev cX6_spice : ByteArray := prog_1_method_27_code
def yX6_spice : MethodName := ⟨RX6, "spice", "(IIIII)I"⟩
abbrev cX6_both : ByteArray := prog_1_method_28_code
def yX6_both : MethodName := ⟨RX6, "both", "(IIII)I"⟩
abbrev cX6_order : ByteArray := prog_1_method_29_code
def yX6_order : MethodName := ⟨RX6, "order", "(III)I"⟩
abbrev cX6_written : ByteArray := prog_1_method_30_code
def yX6_written : MethodName := ⟨RX6, "written", "(IIII)I"⟩
abbrev cX6_forged : ByteArray := prog_1_method_31_code
def yX6_forged : MethodName := ⟨RX6, "forged", "(II)I"⟩
abbrev cX6_image : ByteArray := prog_1_method_32_code
def yX6_image : MethodName := ⟨RX6, "image", "(I)I"⟩
abbrev cX6_restore : ByteArray := prog_1_method_33_code
def yX6_restore : MethodName := ⟨RX6, "restore", "(I)I"⟩
abbrev cX6_hearMessage : ByteArray := prog_1_method_34_code
def yX6_hearMessage : MethodName := ⟨RX6, "hearMessage", "(IIII)I"⟩
abbrev cX6_readsOtherwise : ByteArray := prog_1_method_35_code
def yX6_readsOtherwise : MethodName := ⟨RX6, "readsOtherwise", "(II)Z"⟩
abbrev cX6_findSpice : ByteArray := prog_1_method_36_code
def yX6_findSpice : MethodName := ⟨RX6, "findSpice", "(III[I)Z"⟩
abbrev cX6_firstFelt : ByteArray := prog_1_method_37_code
def yX6_firstFelt : MethodName := ⟨RX6, "firstFelt", "(II)I"⟩
abbrev cX6_fadesByDay : ByteArray := prog_1_method_38_code
def yX6_fadesByDay : MethodName := ⟨RX6, "fadesByDay", "(I)I"⟩
abbrev cX6_kind : ByteArray := prog_1_method_39_code
def yX6_kind : MethodName := ⟨RX6, "kind", "(I)I"⟩
abbrev cX6_as : ByteArray := prog_1_method_40_code
def yX6_as : MethodName := ⟨RX6, "as", "(II)I"⟩
abbrev cX6_ask : ByteArray := prog_1_method_41_code
def yX6_ask : MethodName := ⟨RX6, "ask", "(II)I"⟩
abbrev cX6_trace : ByteArray := prog_1_method_42_code
def yX6_trace : MethodName := ⟨RX6, "trace", "(I)I"⟩
abbrev cX6_count : ByteArray := prog_1_method_43_code
def yX6_count : MethodName := ⟨RX6, "count", "(I)I"⟩
abbrev cX6_status : ByteArray := prog_1_method_44_code
def yX6_status : MethodName := ⟨RX6, "status", "()I"⟩
abbrev cX6_isOfKind : ByteArray := prog_1_method_45_code
def yX6_isOfKind : MethodName := ⟨RX6, "isOfKind", "(II)Z"⟩
abbrev cX6_rowsThere : ByteArray := prog_1_method_46_code
def yX6_rowsThere : MethodName := ⟨RX6, "rowsThere", "()I"⟩
def RX7 : String := "PalmTastesModel"
def TX7 : u_T := fun k => match k with
  | 0 => ("PalmTastesModel", "thrown", "I", false)
  | 1 => ("PalmTastesModel", "status", "I", false)
  | 2 => ("PalmTastesModel", "lane", "[I", true)
  | 3 => ("PalmTastesModel", "many", "[I", true)
  | 4 => ("PalmTastesModel", "item", "[I", true)
  | 5 => ("PalmTastesModel", "street", "[I", true)
  | 6 => ("PalmTastesModel", "fresh", "[I", true)
  | 7 => ("PalmTastesModel", "was", "[I", true)
  | 8 => ("PalmTastesModel", "acts", "I", false)
  | 9 => ("PalmTastesModel", "tape", "[I", true)
  | 10 => ("PalmTastesModel", "taped", "I", false)
  | 11 => ("PalmTastesModel", "latest", "I", false)
  | 12 => ("PalmTastesModel", "length", "I", false)
  | 13 => ("PalmTastesModel", "cursor", "I", false)
  | 14 => ("PalmTastesModel", "token", "I", false)
  | 15 => ("PalmTastesModel", "start", "I", false)
  | 16 => ("PalmTastesModel", "till", "I", false)
  | 17 => ("PalmTastesModel", "fault", "I", false)
  | 18 => ("PalmTastesModel", "faultAt", "I", false)
  | 19 => ("PalmTastesModel", "sort", "I", false)
  | 20 => ("PalmTastesModel", "used", "[I", true)
  | 21 => ("PalmTastesModel", "after", "I", false)
  | 22 => ("PalmTastesModel", "first", "[I", true)
  | 23 => ("PalmTastesModel", "spice", "[I", true)
  | 24 => ("PalmTastesModel", "there", "[I", true)
  | 25 => ("PalmTastesModel", "isKept", "[Z", true)
  | 26 => ("PalmTastesModel", "kept", "[I", true)
  | 27 => ("PalmTastesModel", "trace", "[I", true)
  | _ => ("PalmTastesModel", "traced", "I", false)
def tyX7 : Nat → FieldType := fun k => match k with
  | 0 => .int
  | 1 => .int
  | 2 => .array .int
  | 3 => .array .int
  | 4 => .array .int
  | 5 => .array .int
  | 6 => .array .int
  | 7 => .array .int
  | 8 => .int
  | 9 => .array .int
  | 10 => .int
  | 11 => .int
  | 12 => .int
  | 13 => .int
  | 14 => .int
  | 15 => .int
  | 16 => .int
  | 17 => .int
  | 18 => .int
  | 19 => .int
  | 20 => .array .int
  | 21 => .int
  | 22 => .array .int
  | 23 => .array .int
  | 24 => .array .int
  | 25 => .array .boolean
  | 26 => .array .int
  | 27 => .array .int
  | _ => .int
abbrev wsX70 : List Cond := u_ws RX7 TX7 29
theorem nmX7 : ∀ a, a < 29 → ∀ b, b < 29 → a ≠ b → (TX7 a).2.1 ≠ (TX7 b).2.1 := by decide +kernel
theorem tyX7_ok : ∀ k, k < 29 → parseFieldDescriptor (TX7 k).2.2.1 = some (tyX7 k) := by decide +kernel
abbrev cX7_init : ByteArray := prog_9_method_1_code
def yX7_init : MethodName := ⟨RX7, "<init>", "()V"⟩
abbrev cX7_in : ByteArray := prog_9_method_3_code
def yX7_in : MethodName := ⟨RX7, "in", "(JJJ)Z"⟩
abbrev cX7_finding : ByteArray := prog_9_method_4_code
def yX7_finding : MethodName := ⟨RX7, "finding", "(I)I"⟩
abbrev cX7_isRow : ByteArray := prog_9_method_5_code
def yX7_isRow : MethodName := ⟨RX7, "isRow", "(I)Z"⟩
abbrev cX7_row : ByteArray := prog_9_method_6_code
def yX7_row : MethodName := ⟨RX7, "row", "(III)I"⟩
abbrev cX7_set : ByteArray := prog_9_method_7_code
def yX7_set : MethodName := ⟨RX7, "set", "(III)I"⟩
abbrev cX7_copy : ByteArray := prog_9_method_8_code
def yX7_copy : MethodName := ⟨RX7, "copy", "(IIIII)I"⟩
abbrev cX7_drop : ByteArray := prog_9_method_9_code
def yX7_drop : MethodName := ⟨RX7, "drop", "(I)I"⟩
abbrev cX7_feed : ByteArray := prog_9_method_10_code
def yX7_feed : MethodName := ⟨RX7, "feed", "(JI)I"⟩
abbrev cX7_byteAt : ByteArray := prog_9_method_11_code
def yX7_byteAt : MethodName := ⟨RX7, "byteAt", "(I)I"⟩
abbrev cX7_isLetter : ByteArray := prog_9_method_12_code
def yX7_isLetter : MethodName := ⟨RX7, "isLetter", "(I)Z"⟩
abbrev cX7_isFigure : ByteArray := prog_9_method_13_code
def yX7_isFigure : MethodName := ⟨RX7, "isFigure", "(I)Z"⟩
abbrev cX7_next : ByteArray := prog_9_method_14_code
def yX7_next : MethodName := ⟨RX7, "next", "()V"⟩
abbrev cX7_begin : ByteArray := prog_9_method_15_code
def yX7_begin : MethodName := ⟨RX7, "begin", "()V"⟩
abbrev cX7_bad : ByteArray := prog_9_method_16_code
def yX7_bad : MethodName := ⟨RX7, "bad", "(I)V"⟩
abbrev cX7_must : ByteArray := prog_9_method_17_code
def yX7_must : MethodName := ⟨RX7, "must", "(Z)V"⟩
abbrev cX7_name : ByteArray := prog_9_method_18_code
def yX7_name : MethodName := ⟨RX7, "name", "()J"⟩
abbrev cX7_figures : ByteArray := prog_9_method_19_code
def yX7_figures : MethodName := ⟨RX7, "figures", "()I"⟩
abbrev cX7_number : ByteArray := prog_9_method_20_code
def yX7_number : MethodName := ⟨RX7, "number", "(II)I"⟩
abbrev cX7_kindBy : ByteArray := prog_9_method_21_code
def yX7_kindBy : MethodName := ⟨RX7, "kindBy", "(J)I"⟩
abbrev cX7_mustEnd : ByteArray := prog_9_method_22_code
def yX7_mustEnd : MethodName := ⟨RX7, "mustEnd", "()V"⟩
abbrev cX7_begins : ByteArray := prog_9_method_23_code
def yX7_begins : MethodName := ⟨RX7, "begins", "(II)V"⟩
abbrev cX7_readWall : ByteArray := prog_9_method_24_code
def yX7_readWall : MethodName := ⟨RX7, "readWall", "()V"⟩
abbrev cX7_readReader : ByteArray := prog_9_method_25_code
def yX7_readReader : MethodName := ⟨RX7, "readReader", "()V"⟩
abbrev cX7_street : ByteArray := prog_9_method_26_code
def yX7_street : MethodName := ⟨RX7, "street", "()I"⟩
abbrev cX7_fault : ByteArray := prog_9_method_27_code
def yX7_fault : MethodName := ⟨RX7, "fault", "()I"⟩
abbrev cX7_isThere : ByteArray := prog_9_method_28_code
def yX7_isThere : MethodName := ⟨RX7, "isThere", "()Z"⟩
abbrev cX7_isWall : ByteArray := prog_9_method_29_code
def yX7_isWall : MethodName := ⟨RX7, "isWall", "(I)Z"⟩
abbrev cX7_isReader : ByteArray := prog_9_method_30_code
def yX7_isReader : MethodName := ⟨RX7, "isReader", "(I)Z"⟩
abbrev cX7_isFlavour : ByteArray := prog_9_method_31_code
def yX7_isFlavour : MethodName := ⟨RX7, "isFlavour", "(I)Z"⟩
abbrev cX7_isWalk : ByteArray := prog_9_method_32_code
def yX7_isWalk : MethodName := ⟨RX7, "isWalk", "(III)Z"⟩
abbrev cX7_of : ByteArray := prog_9_method_33_code
def yX7_of : MethodName := ⟨RX7, "of", "(II)I"⟩
abbrev cX7_strong : ByteArray := prog_9_method_34_code
def yX7_strong : MethodName := ⟨RX7, "strong", "(II)I"⟩
abbrev cX7_layPalm : ByteArray := prog_9_method_35_code
def yX7_layPalm : MethodName := ⟨RX7, "layPalm", "(I)V"⟩
abbrev cX7_feels : ByteArray := prog_9_method_36_code
def yX7_feels : MethodName := ⟨RX7, "feels", "(II)I"⟩
abbrev cX7_tastes : ByteArray := prog_9_method_37_code
def yX7_tastes : MethodName := ⟨RX7, "tastes", "(III)I"⟩
abbrev cX7_reads : ByteArray := prog_9_method_38_code
def yX7_reads : MethodName := ⟨RX7, "reads", "(I)I"⟩
abbrev cX7_getsUsed : ByteArray := prog_9_method_39_code
def yX7_getsUsed : MethodName := ⟨RX7, "getsUsed", "(I)V"⟩
abbrev cX7_wallsOf : ByteArray := prog_9_method_40_code
def yX7_wallsOf : MethodName := ⟨RX7, "wallsOf", "(II)I"⟩
abbrev cX7_wallAt : ByteArray := prog_9_method_41_code
def yX7_wallAt : MethodName := ⟨RX7, "wallAt", "(III)I"⟩
abbrev cX7_keep : ByteArray := prog_9_method_42_code
def yX7_keep : MethodName := ⟨RX7, "keep", "()V"⟩
abbrev cX7_paint : ByteArray := prog_9_method_43_code
def yX7_paint : MethodName := ⟨RX7, "paint", "(III)I"⟩
abbrev cX7_day : ByteArray := prog_9_method_44_code
def yX7_day : MethodName := ⟨RX7, "day", "(I)I"⟩
abbrev cX7_walk : ByteArray := prog_9_method_45_code
def yX7_walk : MethodName := ⟨RX7, "walk", "(III)I"⟩
abbrev cX7_usedOf : ByteArray := prog_9_method_46_code
def yX7_usedOf : MethodName := ⟨RX7, "usedOf", "(I)I"⟩
abbrev cX7_rest : ByteArray := prog_9_method_47_code
def yX7_rest : MethodName := ⟨RX7, "rest", "(I)I"⟩
abbrev cX7_undo : ByteArray := prog_9_method_48_code
def yX7_undo : MethodName := ⟨RX7, "undo", "()I"⟩
abbrev cX7_wall : ByteArray := prog_9_method_49_code
def yX7_wall : MethodName := ⟨RX7, "wall", "(II)I"⟩
abbrev cX7_reader : ByteArray := prog_9_method_50_code
def yX7_reader : MethodName := ⟨RX7, "reader", "(II)I"⟩
abbrev cX7_felt : ByteArray := prog_9_method_51_code
def yX7_felt : MethodName := ⟨RX7, "felt", "(III)I"⟩
abbrev cX7_read : ByteArray := prog_9_method_52_code
def yX7_read : MethodName := ⟨RX7, "read", "(IIII)I"⟩
abbrev cX7_barred : ByteArray := prog_9_method_53_code
def yX7_barred : MethodName := ⟨RX7, "barred", "(III)I"⟩
abbrev cX7_wrong : ByteArray := prog_9_method_54_code
def yX7_wrong : MethodName := ⟨RX7, "wrong", "(IIII)I"⟩
abbrev cX7_often : ByteArray := prog_9_method_55_code
def yX7_often : MethodName := ⟨RX7, "often", "(III)I"⟩
abbrev cX7_laySpice : ByteArray := prog_9_method_56_code
def yX7_laySpice : MethodName := ⟨RX7, "laySpice", "(IIIII)Z"⟩
abbrev cX7_spice : ByteArray := prog_9_method_57_code
def yX7_spice : MethodName := ⟨RX7, "spice", "(IIIII)I"⟩
abbrev cX7_both : ByteArray := prog_9_method_58_code
def yX7_both : MethodName := ⟨RX7, "both", "(IIII)I"⟩
abbrev cX7_goes : ByteArray := prog_9_method_59_code
def yX7_goes : MethodName := ⟨RX7, "goes", "(III)Z"⟩
abbrev cX7_isOrder : ByteArray := prog_9_method_60_code
def yX7_isOrder : MethodName := ⟨RX7, "isOrder", "(I)Z"⟩
abbrev cX7_order : ByteArray := prog_9_method_61_code
def yX7_order : MethodName := ⟨RX7, "order", "(III)I"⟩
abbrev cX7_written : ByteArray := prog_9_method_62_code
def yX7_written : MethodName := ⟨RX7, "written", "(IIII)I"⟩
abbrev cX7_forged : ByteArray := prog_9_method_63_code
def yX7_forged : MethodName := ⟨RX7, "forged", "(II)I"⟩
abbrev cX7_image : ByteArray := prog_9_method_64_code
def yX7_image : MethodName := ⟨RX7, "image", "(I)I"⟩
abbrev cX7_restore : ByteArray := prog_9_method_65_code
def yX7_restore : MethodName := ⟨RX7, "restore", "(I)I"⟩
abbrev cX7_isOf : ByteArray := prog_9_method_66_code
def yX7_isOf : MethodName := ⟨RX7, "isOf", "(II)Z"⟩
abbrev cX7_kind : ByteArray := prog_9_method_67_code
def yX7_kind : MethodName := ⟨RX7, "kind", "(I)I"⟩
abbrev cX7_as : ByteArray := prog_9_method_68_code
def yX7_as : MethodName := ⟨RX7, "as", "(II)I"⟩
abbrev cX7_began : ByteArray := prog_9_method_69_code
def yX7_began : MethodName := ⟨RX7, "began", "(I)V"⟩
abbrev cX7_plainSize : ByteArray := prog_9_method_70_code
def yX7_plainSize : MethodName := ⟨RX7, "plainSize", "(I)I"⟩
abbrev cX7_waxSize : ByteArray := prog_9_method_71_code
def yX7_waxSize : MethodName := ⟨RX7, "waxSize", "(I)I"⟩
abbrev cX7_markOf : ByteArray := prog_9_method_72_code
def yX7_markOf : MethodName := ⟨RX7, "markOf", "(I)I"⟩
abbrev cX7_sizeOf : ByteArray := prog_9_method_73_code
def yX7_sizeOf : MethodName := ⟨RX7, "sizeOf", "(I)I"⟩
abbrev cX7_ask : ByteArray := prog_9_method_74_code
def yX7_ask : MethodName := ⟨RX7, "ask", "(II)I"⟩
abbrev cX7_trace : ByteArray := prog_9_method_75_code
def yX7_trace : MethodName := ⟨RX7, "trace", "(I)I"⟩
abbrev cX7_count : ByteArray := prog_9_method_76_code
def yX7_count : MethodName := ⟨RX7, "count", "(I)I"⟩
abbrev cX7_status : ByteArray := prog_9_method_77_code
def yX7_status : MethodName := ⟨RX7, "status", "()I"⟩
def RJ9 : String := "java/lang/Math"
abbrev cJ9_abs_0f7a4 : ByteArray := prog_10_method_59_code
def yJ9_abs_0f7a4 : MethodName := ⟨RJ9, "abs", "(I)I"⟩
abbrev cJ9_max_7cf53 : ByteArray := prog_10_method_65_code
def yJ9_max_7cf53 : MethodName := ⟨RJ9, "max", "(II)I"⟩
abbrev cJ9_min_7cf53 : ByteArray := prog_10_method_69_code
def yJ9_min_7cf53 : MethodName := ⟨RJ9, "min", "(II)I"⟩
def RJ0 : String := "java/lang/String"
abbrev cJ0_length_8abf5 : ByteArray := prog_11_method_54_code
def yJ0_length_8abf5 : MethodName := ⟨RJ0, "length", "()I"⟩
abbrev cJ0_charAt_5068e : ByteArray := prog_11_method_56_code
def yJ0_charAt_5068e : MethodName := ⟨RJ0, "charAt", "(I)C"⟩
abbrev cJ0_coder_7d493 : ByteArray := prog_11_method_152_code
def yJ0_coder_7d493 : MethodName := ⟨RJ0, "coder", "()B"⟩
abbrev cJ0_isLatin1_aae02 : ByteArray := prog_11_method_154_code
def yJ0_isLatin1_aae02 : MethodName := ⟨RJ0, "isLatin1", "()Z"⟩
abbrev cJ0_checkIndex_df160 : ByteArray := prog_11_method_155_code
def yJ0_checkIndex_df160 : MethodName := ⟨RJ0, "checkIndex", "(II)V"⟩
def RJ1 : String := "java/lang/StringLatin1"
abbrev cJ1_charAt_3b067 : ByteArray := prog_12_method_2_code
def yJ1_charAt_3b067 : MethodName := ⟨RJ1, "charAt", "([BI)C"⟩
def RJ7 : String := "java/util/Arrays"
abbrev cJ7_fill_53178 : ByteArray := prog_15_method_103_code
def yJ7_fill_53178 : MethodName := ⟨RJ7, "fill", "([II)V"⟩
def RJ3 : String := "jdk/internal/util/Preconditions"
abbrev cJ3_checkIndex_8e157 : ByteArray := prog_16_method_11_code
def yJ3_checkIndex_8e157 : MethodName := ⟨RJ3, "checkIndex", "(IILjava/util/function/BiFunction;)I"⟩
def RL : String := "PalmTastesLaw"
abbrev cL_law : ByteArray := code
def yL_law : MethodName := ⟨RL, "law", "([I)Z"⟩
abbrev vwCl : List vw_C := [(RX0, TX0, 3), (RX1, TX1, 2), (RX2, TX2, 3), (RX3, TX3, 4), (RX4, TX4, 6), (RX5, TX5, 9), (RX6, TX6, 13), (RX7, TX7, 29)]
end
section
/-! 02.mach: a small machine over one memory of ints (cell, place): values, states, worlds, contexts. Own work. -/
abbrev pt_V : Type := Int32 ⊕ (Int64 ⊕ (Nat × Nat))
abbrev pt_M : Type := Nat → Nat → Int32
abbrev pt_Q : Type := Option pt_V → pt_M → Prop
abbrev pt_L : Type := List (Option pt_V)
abbrev pt_S : Type := List pt_V
abbrev pt_K : Type := Nat → pt_L → pt_S → pt_M → Prop
abbrev pt_C : Type := Nat → List pt_V → pt_M → pt_Q → Prop
abbrev pt_O : Type := pt_C → pt_L → pt_S → pt_M → pt_K → pt_Q → Prop
abbrev zI (x : Int32) : pt_V := Sum.inl x
abbrev zL (x : Int64) : pt_V := Sum.inr (Sum.inl x)
abbrev zR (t o : Nat) : pt_V := Sum.inr (Sum.inr (t, o))
/-! the cells: 0 the class's object .. 142, 143 the model's object .. 157; a tag each: 0..7 an object of that class, 8 rows, 9 and 10 streets, 11 booleans, 1000 + n ints -/
def pt_tags : List Nat := [6, 8, 3, 1040, 3, 1040, 3, 1040, 3, 1040, 3, 1040, 3, 1040, 3, 1040, 3, 1040, 5, 1400, 4, 1040, 1005, 1030, 4, 1040, 1005, 1030, 0, 9] ++ ((List.replicate 24 [4, 1040, 1005, 1030]).flatten ++ ([10, 4, 1040, 1005, 1030, 4, 1040, 1005, 1030, 1, 1016, 2, 1005, 1008, 1008, 1008, 1008] ++ [7, 1008, 1008, 1320, 1078, 1078, 2872, 1400, 1005, 1008, 1008, 1008, 11, 1156, 1016]))
theorem pt_tags_len : pt_tags.length = 158 := by decide +kernel
def pt_N : Nat → Nat := fun t => [3, 2, 3, 4, 6, 9, 13, 29].getD t 0
/-- a field that holds a reference: the tag there, and how far behind the object it lies -/
def pt_fr : Nat → Nat → Option (Nat × Nat) := fun t k => match t with
  | 0 => match k with | 2 => some (9, 1) | _ => none
  | 1 => match k with | 1 => some (1016, 1) | _ => none
  | 2 => match k with | 2 => some (1005, 1) | _ => none
  | 3 => match k with | 3 => some (1040, 1) | _ => none
  | 4 => match k with | 3 => some (1040, 1) | 4 => some (1005, 2) | 5 => some (1030, 3) | _ => none
  | 5 => match k with | 1 => some (4, 2) | 4 => some (1400, 1) | _ => none
  | 6 => match k with | 0 => some (8, 1) | 1 => some (5, 18) | 2 => some (4, 24) | 3 => some (0, 28) | 4 => some (10, 126) | 5 => some (1, 135) | 8 => some (2, 137) | 9 => some (1008, 139) | 10 => some (1008, 140) | 11 => some (1008, 141) | 12 => some (1008, 142) | _ => none
  | 7 => match k with | 2 => some (1008, 1) | 3 => some (1008, 2) | 4 => some (1320, 3) | 5 => some (1078, 4) | 6 => some (1078, 5) | 7 => some (2872, 6) | 9 => some (1400, 7) | 20 => some (1005, 8) | 22 => some (1008, 9) | 23 => some (1008, 10) | 24 => some (1008, 11) | 25 => some (11, 12) | 26 => some (1156, 13) | 27 => some (1016, 14) | _ => none
  | _ => none
/-- class ids and field places; class ids of the array classes; addresses of the cells, of the texts, of their bytes, of the static tables; the script; the formatter; the lowest address that may change -/
abbrev pt_G : Type := va_G × (Nat → ClassId) × (Nat → Nat) × (Nat → Nat) × (Nat → Nat) × (Nat → Nat) × (Nat × Nat × (Nat → Int32)) × Value × Nat
abbrev gD (G : pt_G) : va_G := G.1
abbrev gC (G : pt_G) : Nat → ClassId := G.2.1
abbrev gA (G : pt_G) : Nat → Nat := G.2.2.1
abbrev gK (G : pt_G) : Nat → Nat := G.2.2.2.1
abbrev gV (G : pt_G) : Nat → Nat := G.2.2.2.2.1
abbrev gT (G : pt_G) : Nat → Nat := G.2.2.2.2.2.1
abbrev gX (G : pt_G) : Nat × Nat × (Nat → Int32) := G.2.2.2.2.2.2.1
abbrev gF (G : pt_G) : Value := G.2.2.2.2.2.2.2.1
abbrev gO (G : pt_G) : Nat := G.2.2.2.2.2.2.2.2
def pt_A (G : pt_G) : Nat → Prop := fun q => gO G ≤ q
def pt_rv (G : pt_G) (t o : Nat) : Value := if t = 12 then .ref (gK G o) else if t = 13 then .ref (gV G o) else if t = 20 then .ref (gT G o) else if t = 21 then .ref (gX G).1 else if t = 22 then gF G else .ref (gA G o)
def pt_cv (G : pt_G) : pt_V → Value
  | .inl x => .int x
  | .inr (.inl x) => .long x
  | .inr (.inr (t, o)) => pt_rv G t o
def pt_ok : pt_V → Prop
  | .inr (.inr (t, o)) => (t = 12 ∧ o < 7) ∨ (t = 13 ∧ o < 7) ∨ (t = 20 ∧ o < 3) ∨ t = 21 ∨ t = 22 ∨ pt_tags[o]? = some t
  | _ => True
theorem pt_tag_lt {t o : Nat} (h : pt_tags[o]? = some t) : o < 158 := by
  have := (List.getElem?_eq_some_iff.mp h).1
  rwa [pt_tags_len] at this
theorem pt_tag_all : ∀ t ∈ pt_tags, t < 12 ∨ (1000 ≤ t ∧ t < 4000) := by decide +kernel
theorem pt_tag_w {t o : Nat} (h : pt_tags[o]? = some t) : t < 12 ∨ (1000 ≤ t ∧ t < 4000) := pt_tag_all t (List.mem_of_getElem? h)
theorem pt_ok_w {t o : Nat} (h : pt_ok (zR t o)) (ht : t < 12 ∨ 1000 ≤ t) : pt_tags[o]? = some t := by
  rcases h with h | h | h | h | h | h <;> first | exact h | omega
theorem pt_rv_w {G : pt_G} {t o : Nat} (ht : t < 12 ∨ 1000 ≤ t) : pt_rv G t o = .ref (gA G o) := by
  unfold pt_rv
  rw [if_neg (by omega), if_neg (by omega), if_neg (by omega), if_neg (by omega), if_neg (by omega)]
theorem pt_cv_w {G : pt_G} {t o : Nat} (ht : t < 12 ∨ 1000 ≤ t) : pt_cv G (zR t o) = .ref (gA G o) := pt_rv_w ht
/-- what a field holds -/
def pt_fv (G : pt_G) (m : pt_M) (t o k : Nat) : Value := match pt_fr t k with
  | some (_, d) => .ref (gA G (o + d))
  | none => .int (m o k)
def pt_fs (G : pt_G) (m : pt_M) (t o : Nat) : List Value := (List.range (pt_N t)).map (pt_fv G m t o)
/-- a cell -/
def pt_E (G : pt_G) (m : pt_M) (t o : Nat) : va_E :=
  if t < 8 then .inr (t, pt_fs G m t o)
  else if t = 8 then .inl (gC G 2, 8, .inr (.inr (.inr (.inr fun j => some (gA G (o + 1 + 2 * j))))))
  else if t = 9 then .inl (gC G 3, 24, .inr (.inr (.inr (.inr fun j => some (gA G (o + 1 + 4 * j))))))
  else if t = 10 then .inl (gC G 3, 2, .inr (.inr (.inr (.inr fun j => some (gA G (o + 1 + 4 * j))))))
  else if t = 11 then .inl (gC G 1, 2, .inl (m o))
  else .inl (gC G 0, t - 1000, .inl (m o))
def pt_W (G : pt_G) (m : pt_M) : va_W := (List.range 158).map (fun o => (gA G o, pt_E G m (pt_tags.getD o 0) o))
theorem pt_W_at {G : pt_G} {m : pt_M} {t o : Nat} (h : pt_tags[o]? = some t) : (pt_W G m)[o]? = some (gA G o, pt_E G m t o) := by
  have ho := pt_tag_lt h
  unfold pt_W
  rw [List.getElem?_map, List.getElem?_range ho]
  show some (gA G o, pt_E G m (pt_tags.getD o 0) o) = _
  rw [List.getD_eq_getElem?_getD, h]
  rfl
theorem pt_E_m {G : pt_G} {m m' : pt_M} {t o : Nat} (h : m' o = m o) : pt_E G m' t o = pt_E G m t o := by
  have e : pt_fs G m' t o = pt_fs G m t o := by
    unfold pt_fs
    congr 1
    funext k
    unfold pt_fv
    rw [h]
  unfold pt_E
  rw [e, h]
theorem pt_W_set {G : pt_G} {m m' : pt_M} {t o : Nat} (h : pt_tags[o]? = some t) (hm : ∀ q, q ≠ o → m' q = m q) : pt_W G m' = (pt_W G m).set o (gA G o, pt_E G m' t o) := by
  have ho := pt_tag_lt h
  apply List.ext_getElem?
  intro q
  rw [List.getElem?_set]
  by_cases hq : o = q
  · subst hq
    rw [if_pos rfl, if_pos (by unfold pt_W; rw [List.length_map, List.length_range]; exact ho), pt_W_at h]
  · rw [if_neg hq]
    unfold pt_W
    rw [List.getElem?_map, List.getElem?_map]
    by_cases hq2 : q < 158
    · rw [List.getElem?_range hq2]
      show some (gA G q, pt_E G m' (pt_tags.getD q 0) q) = some (gA G q, pt_E G m (pt_tags.getD q 0) q)
      rw [pt_E_m (hm q (fun e => hq e.symm))]
    · rw [List.getElem?_eq_none (by rw [List.length_range]; omega)]
      rfl
/-- a store -/
def st (m : pt_M) (o k : Nat) (x : Int32) : pt_M := fun q => if q = o then (fun j => if j = k then x else m o j) else m q
theorem st_o {m : pt_M} {o k : Nat} {x : Int32} : st m o k x o = upd (m o) k x := by
  unfold st upd
  rw [if_pos rfl]
theorem st_ne {m : pt_M} {o k q : Nat} {x : Int32} (h : q ≠ o) : st m o k x q = m q := by
  unfold st
  rw [if_neg h]
/-- a copy -/
def cpm (m : pt_M) (o1 a o2 b n : Nat) : pt_M := fun q => if q = o2 then (fun j => if b ≤ j ∧ j < b + n then m o1 (a + (j - b)) else m o2 j) else m q
theorem cpm_o {m : pt_M} {o1 a o2 b n : Nat} : cpm m o1 a o2 b n o2 = va_cpy (m o1) (m o2) a b n := by
  unfold cpm va_cpy
  rw [if_pos rfl]
theorem cpm_ne {m : pt_M} {o1 a o2 b n q : Nat} (h : q ≠ o2) : cpm m o1 a o2 b n q = m q := by
  unfold cpm
  rw [if_neg h]
/-! fields of the objects -/
theorem pt_E_obj {G : pt_G} {m : pt_M} {t o : Nat} (h : t < 8) : pt_E G m t o = .inr (t, pt_fs G m t o) := by
  unfold pt_E
  rw [if_pos h]
theorem pt_fs_at {G : pt_G} {m : pt_M} {t o k : Nat} (hk : k < pt_N t) : (pt_fs G m t o)[k]? = some (pt_fv G m t o k) := by
  unfold pt_fs
  rw [List.getElem?_map, List.getElem?_range hk]
  rfl
theorem pt_fs_len {G : pt_G} {m : pt_M} {t o : Nat} : (pt_fs G m t o).length = pt_N t := by
  unfold pt_fs
  rw [List.length_map, List.length_range]
theorem pt_fs_set {G : pt_G} {m : pt_M} {t o k : Nat} {x : Int32} (hf : pt_fr t k = none) : (pt_fs G m t o).set k (.int x) = pt_fs G (st m o k x) t o := by
  apply List.ext_getElem?
  intro q
  rw [List.getElem?_set, pt_fs_len]
  by_cases hq : k = q
  · subst hq
    rw [if_pos rfl]
    by_cases hk : k < pt_N t
    · rw [if_pos hk, pt_fs_at hk]
      show some _ = some _
      unfold pt_fv
      rw [hf, st_o]
      show some _ = some (Value.int (upd (m o) k x k))
      rw [show upd (m o) k x k = x from if_pos rfl]
    · rw [if_neg hk, List.getElem?_eq_none (by rw [pt_fs_len]; omega)]
  · rw [if_neg hq]
    by_cases hk : q < pt_N t
    · rw [pt_fs_at hk, pt_fs_at hk]
      show some _ = some _
      unfold pt_fv
      rw [st_o, show upd (m o) k x q = m o q from if_neg (fun e => hq e.symm)]
    · rw [List.getElem?_eq_none (by rw [pt_fs_len]; omega), List.getElem?_eq_none (by rw [pt_fs_len]; omega)]
theorem pt_E_int {G : pt_G} {m : pt_M} {t o : Nat} (h : 1000 ≤ t) : pt_E G m t o = .inl (gC G 0, t - 1000, .inl (m o)) := by
  unfold pt_E
  rw [if_neg (by omega), if_neg (by omega), if_neg (by omega), if_neg (by omega), if_neg (by omega)]
/-! locals -/
def pt_get : pt_L → Nat → Option pt_V
  | [], _ => none
  | x :: _, 0 => x
  | _ :: l, i + 1 => pt_get l i
def pt_lset : pt_L → Nat → Option pt_V → pt_L
  | [], _, _ => []
  | _ :: l, 0, v => v :: l
  | x :: l, i + 1, v => x :: pt_lset l i v
def pt_clr (L : pt_L) : Nat → pt_L
  | 0 => L
  | i + 1 => match pt_get L i with
    | some (.inr (.inl _)) => pt_lset L i none
    | _ => L
def pt_put (L : pt_L) (i : Nat) (v : pt_V) : pt_L := pt_lset (pt_clr L i) i (some v)
def pt_putL (L : pt_L) (i : Nat) (v : pt_V) : pt_L := pt_lset (pt_lset (pt_clr L i) i (some v)) (i + 1) none
theorem pt_lset_len : ∀ (L : pt_L) (i : Nat) (v : Option pt_V), (pt_lset L i v).length = L.length
  | [], _, _ => rfl
  | _ :: _, 0, _ => rfl
  | _ :: l, i + 1, v => by
    show (pt_lset l i v).length + 1 = l.length + 1
    rw [pt_lset_len l i v]
theorem pt_get_lset : ∀ (L : pt_L) (i : Nat) (v : Option pt_V) (j : Nat), pt_get (pt_lset L i v) j = if j = i ∧ j < L.length then v else pt_get L j
  | [], i, v, j => by
    rw [if_neg (by intro h; exact absurd h.2 (Nat.not_lt_zero _))]
    rfl
  | x :: l, 0, v, 0 => by
    rw [if_pos ⟨rfl, Nat.succ_pos _⟩]
    rfl
  | x :: l, 0, v, j + 1 => by
    rw [if_neg (by omega)]
    rfl
  | x :: l, i + 1, v, 0 => by
    rw [if_neg (by omega)]
    rfl
  | x :: l, i + 1, v, j + 1 => by
    show pt_get (pt_lset l i v) j = _
    rw [pt_get_lset l i v j]
    show _ = if j + 1 = i + 1 ∧ j + 1 < l.length + 1 then v else pt_get l j
    by_cases h : j = i ∧ j < l.length
    · rw [if_pos h, if_pos (by omega)]
    · rw [if_neg h, if_neg (by omega)]
theorem pt_clr_s (L : pt_L) (i : Nat) : pt_clr L (i + 1) = match pt_get L i with
    | some (.inr (.inl _)) => pt_lset L i none
    | _ => L := rfl
theorem pt_clr_len (L : pt_L) (i : Nat) : (pt_clr L i).length = L.length := by
  cases i with
  | zero => rfl
  | succ i =>
    rw [pt_clr_s]
    split
    · exact pt_lset_len _ _ _
    · rfl
theorem pt_clr_get {L : pt_L} {i j : Nat} {w : pt_V} (h : pt_get (pt_clr L i) j = some w) : pt_get L j = some w ∧ ¬ (j + 1 = i ∧ ∃ x, w = zL x) := by
  cases i with
  | zero => exact ⟨h, by omega⟩
  | succ i =>
    rw [pt_clr_s] at h
    split at h
    next x hx =>
      rw [pt_get_lset] at h
      by_cases hj : j = i ∧ j < L.length
      · rw [if_pos hj] at h
        cases h
      · rw [if_neg hj] at h
        refine ⟨h, fun q => ?_⟩
        have hji : j = i := by omega
        subst hji
        by_cases hl : j < L.length
        · exact hj ⟨rfl, hl⟩
        · have : ∀ (L : pt_L) (j : Nat), L.length ≤ j → pt_get L j = none := by
            intro L
            induction L with
            | nil => intro j _; rfl
            | cons a l ih =>
              intro j hj
              cases j with
              | zero => exact absurd hj (by simp)
              | succ j => exact ih j (by simpa using hj)
          rw [this L j (by omega)] at h
          cases h
    next hx =>
      refine ⟨h, fun q => ?_⟩
      have hji : j = i := by omega
      subst hji
      obtain ⟨x, rfl⟩ := q.2
      exact hx x h
theorem pt_put_len (L : pt_L) (i : Nat) (v : pt_V) : (pt_put L i v).length = L.length := by
  unfold pt_put
  rw [pt_lset_len, pt_clr_len]
theorem pt_putL_len (L : pt_L) (i : Nat) (v : pt_V) : (pt_putL L i v).length = L.length := by
  unfold pt_putL
  rw [pt_lset_len, pt_lset_len, pt_clr_len]
theorem pt_put_get {L : pt_L} {i j : Nat} {v w : pt_V} (h : pt_get (pt_put L i v) j = some w) : (j = i ∧ w = v) ∨ (j ≠ i ∧ pt_get L j = some w ∧ ¬ (j + 1 = i ∧ ∃ x, w = zL x)) := by
  unfold pt_put at h
  rw [pt_get_lset] at h
  by_cases hj : j = i ∧ j < (pt_clr L i).length
  · rw [if_pos hj] at h
    cases h
    exact Or.inl ⟨hj.1, rfl⟩
  · rw [if_neg hj] at h
    by_cases hji : j = i
    · subst hji
      have hlen : ¬ j < L.length := fun q => hj ⟨rfl, by rw [pt_clr_len]; exact q⟩
      have key : ∀ (L : pt_L) (j : Nat), ¬ j < L.length → pt_get L j = none := by
        intro L
        induction L with
        | nil => intro j _; rfl
        | cons a l ih =>
          intro j hj
          cases j with
          | zero => exact absurd (by simp) hj
          | succ j => exact ih j (fun q => hj (by simpa using q))
      rw [key _ j (by rw [pt_clr_len]; exact hlen)] at h
      cases h
    · have := pt_clr_get h
      exact Or.inr ⟨hji, this.1, this.2⟩
theorem pt_putL_get {L : pt_L} {i j : Nat} {v w : pt_V} (h : pt_get (pt_putL L i v) j = some w) : (j = i ∧ w = v) ∨ (j ≠ i ∧ j ≠ i + 1 ∧ pt_get L j = some w ∧ ¬ (j + 1 = i ∧ ∃ x, w = zL x)) := by
  unfold pt_putL at h
  rw [pt_get_lset] at h
  by_cases hj : j = i + 1 ∧ j < (pt_lset (pt_clr L i) i (some v)).length
  · rw [if_pos hj] at h
    cases h
  · rw [if_neg hj] at h
    rcases pt_put_get (L := L) (i := i) (v := v) h with q | q
    · exact Or.inl q
    · refine Or.inr ⟨q.1, fun e => ?_, q.2⟩
      have hlen : ¬ j < L.length := fun z => hj ⟨e, by rw [pt_lset_len, pt_clr_len]; exact z⟩
      have key : ∀ (L : pt_L) (j : Nat), ¬ j < L.length → pt_get L j = none := by
        intro L
        induction L with
        | nil => intro j _; rfl
        | cons a l ih =>
          intro j hj
          cases j with
          | zero => exact absurd (by simp) hj
          | succ j => exact ih j (fun q => hj (by simpa using q))
      rw [key L j hlen] at q
      cases q.2.1
/-- the locals as the kit lists them -/
def pt_lv (G : pt_G) (L : pt_L) : List (Nat × Value) := (List.range L.length).filterMap (fun i => (pt_get L i).map (fun v => (i, pt_cv G v)))
theorem pt_get_lt : ∀ {L : pt_L} {i : Nat} {v : pt_V}, pt_get L i = some v → i < L.length
  | [], _, _, h => by cases h
  | _ :: _, 0, _, _ => Nat.succ_pos _
  | _ :: l, i + 1, v, h => Nat.succ_lt_succ (pt_get_lt (L := l) h)
theorem pt_lv_mem {G : pt_G} {L : pt_L} {i : Nat} {v : pt_V} (h : pt_get L i = some v) : (i, pt_cv G v) ∈ pt_lv G L :=
  List.mem_filterMap.mpr ⟨i, List.mem_range.mpr (pt_get_lt h), by rw [h]; rfl⟩
theorem pt_lv_of {G : pt_G} {L : pt_L} {q : Nat × Value} (h : q ∈ pt_lv G L) : ∃ v, pt_get L q.1 = some v ∧ q.2 = pt_cv G v := by
  obtain ⟨i, -, e⟩ := List.mem_filterMap.mp h
  cases hg : pt_get L i with
  | none => rw [hg] at e; cases e
  | some v =>
    rw [hg] at e
    cases e
    exact ⟨v, hg, rfl⟩
theorem pt_lv_at {G : pt_G} {ls : Array Slot} {nL : Nat} {L : pt_L} {i : Nat} {v : pt_V} (hl : lv_has ls nL (pt_lv G L)) (h : pt_get L i = some v) : ls[i]? = some (.val (pt_cv G v)) := hl.2.2 _ (pt_lv_mem h)
/-- that reference's category is 1 -/
def pt_J (G : pt_G) : Prop := (∀ i j, i < 158 → j < 158 → gA G i = gA G j → i = j) ∧ (∀ i, i < 158 → gO G ≤ gA G i) ∧ (gF G).category = 1
theorem pt_cat2 {G : pt_G} (J : pt_J G) {v : pt_V} (h : (pt_cv G v).category = 2) : ∃ x, v = zL x := by
  rcases v with x | x | ⟨t, o⟩
  · cases h
  · exact ⟨x, rfl⟩
  · exfalso
    have h : (pt_rv G t o).category = 2 := h
    unfold pt_rv at h
    repeat (first | (split at h) | (rw [J.2.2] at h) | (cases h))
theorem pt_cat1 {G : pt_G} (J : pt_J G) {v : pt_V} (h : ¬ ∃ x, v = zL x) : (pt_cv G v).category = 1 := by
  rcases lv_cat (pt_cv G v) with q | q
  · exact q
  · exact absurd (pt_cat2 J q) h
theorem pt_lv_put {G : pt_G} (J : pt_J G) {ls : Array Slot} {nL i : Nat} {L : pt_L} {v : pt_V}
    (h : lv_has ls nL ((i, pt_cv G v) :: (pt_lv G L).filter (fun q => !(q.1 == i) && !(q.1 + 1 == i && q.2.category == 2)))) : lv_has ls nL (pt_lv G (pt_put L i v)) := by
  refine ⟨h.1, h.2.1, fun q hq => ?_⟩
  obtain ⟨w, hw, e⟩ := pt_lv_of hq
  obtain ⟨j, z⟩ := q
  dsimp only at hw e
  subst e
  rcases pt_put_get hw with ⟨rfl, rfl⟩ | ⟨h1, h2, h3⟩
  · exact h.2.2 _ List.mem_cons_self
  · refine h.2.2 _ (List.mem_cons_of_mem _ (List.mem_filter.mpr ⟨pt_lv_mem h2, ?_⟩))
    have g1 : (j == i) = false := by simpa using h1
    dsimp only
    rw [g1]
    by_cases h4 : j + 1 = i
    · have g2 : ¬ (pt_cv G w).category = 2 := fun c => h3 ⟨h4, pt_cat2 J c⟩
      have g3 : ((pt_cv G w).category == 2) = false := by simpa using g2
      rw [g3]
      simp
    · have g3 : (j + 1 == i) = false := by simpa using h4
      rw [g3]
      rfl
theorem pt_lv_putL {G : pt_G} (J : pt_J G) {ls : Array Slot} {nL i : Nat} {L : pt_L} {v : pt_V}
    (h : lv_has ls nL ((i, pt_cv G v) :: (pt_lv G L).filter (fun q => !(q.1 == i) && (!(q.1 == i + 1) && !(q.1 + 1 == i && q.2.category == 2))))) : lv_has ls nL (pt_lv G (pt_putL L i v)) := by
  refine ⟨h.1, h.2.1, fun q hq => ?_⟩
  obtain ⟨w, hw, e⟩ := pt_lv_of hq
  obtain ⟨j, z⟩ := q
  dsimp only at hw e
  subst e
  rcases pt_putL_get hw with ⟨rfl, rfl⟩ | ⟨h1, h2, h3, h4⟩
  · exact h.2.2 _ List.mem_cons_self
  · refine h.2.2 _ (List.mem_cons_of_mem _ (List.mem_filter.mpr ⟨pt_lv_mem h3, ?_⟩))
    have g1 : (j == i) = false := by simpa using h1
    have g4 : (j == i + 1) = false := by simpa using h2
    dsimp only
    rw [g1, g4]
    by_cases h5 : j + 1 = i
    · have g2 : ¬ (pt_cv G w).category = 2 := fun c => h4 ⟨h5, pt_cat2 J c⟩
      have g3 : ((pt_cv G w).category == 2) = false := by simpa using g2
      rw [g3]
      simp
    · have g3 : (j + 1 == i) = false := by simpa using h5
      rw [g3]
      rfl
end
section
/-! 03.table: the methods by number (written by gen_mt.py): name, code, locals, answer -/
abbrev pt_R : Type := MethodName × ByteArray × Nat × Option FieldType
abbrev mm_0 : pt_R := (yX0_keep, cX0_keep, 2, none)
abbrev mm_1 : pt_R := (yX0_undoLatest, cX0_undoLatest, 2, none)
abbrev mm_2 : pt_R := (yX0_forgetAll, cX0_forgetAll, 1, none)
abbrev mm_3 : pt_R := (yX1_answer, cX1_answer, 4, (some .int))
abbrev mm_4 : pt_R := (yX1_askAnew, cX1_askAnew, 5, (some .int))
abbrev mm_5 : pt_R := (yX1_bodyFor, cX1_bodyFor, 6, (some .int))
abbrev mm_6 : pt_R := (yX1_gives, cX1_gives, 6, (some .int))
abbrev mm_7 : pt_R := (yX1_leave, cX1_leave, 2, none)
abbrev mm_8 : pt_R := (yX2_take, cX2_take, 3, none)
abbrev mm_9 : pt_R := (yX2_leave, cX2_leave, 3, none)
abbrev mm_10 : pt_R := (yX2_forgetAll, cX2_forgetAll, 1, none)
abbrev mm_11 : pt_R := (yX2_feels, cX2_feels, 4, (some .int))
abbrev mm_12 : pt_R := (yX2_tasteOn, cX2_tasteOn, 7, (some .int))
abbrev mm_13 : pt_R := (yX2_readOn, cX2_readOn, 3, (some .int))
abbrev mm_14 : pt_R := (yX2_swapped, cX2_swapped, 2, (some .int))
abbrev mm_15 : pt_R := (yX2_getsUsedTo, cX2_getsUsedTo, 3, none)
abbrev mm_16 : pt_R := (yX2_leastSpice, cX2_leastSpice, 7, (some .int))
abbrev mm_17 : pt_R := (yX3_begin, cX3_begin, 3, none)
abbrev mm_18 : pt_R := (yX3_hasPlaces, cX3_hasPlaces, 3, (some .boolean))
abbrev mm_19 : pt_R := (yX3_inLane, cX3_inLane, 2, (some .int))
abbrev mm_20 : pt_R := (yX4_clear, cX4_clear, 1, none)
abbrev mm_21 : pt_R := (yX4_become, cX4_become, 2, none)
abbrev mm_22 : pt_R := (yX4_hasWall, cX4_hasWall, 2, (some .boolean))
abbrev mm_23 : pt_R := (yX4_hasReader, cX4_hasReader, 2, (some .boolean))
abbrev mm_24 : pt_R := (yX4_hasFlavour, cX4_hasFlavour, 3, (some .boolean))
abbrev mm_25 : pt_R := (yX4_strength, cX4_strength, 3, (some .int))
abbrev mm_26 : pt_R := (yX4_strengthInAll, cX4_strengthInAll, 3, (some .int))
abbrev mm_27 : pt_R := (yX4_usedInAll, cX4_usedInAll, 4, (some .int))
abbrev mm_28 : pt_R := (yX4_fadeByDay, cX4_fadeByDay, 5, (some .int))
abbrev mm_29 : pt_R := (yX5_add, cX5_add, 2, none)
abbrev mm_30 : pt_R := (yX5_isStreet, cX5_isStreet, 2, (some .boolean))
abbrev mm_31 : pt_R := (yX5_tellWall, cX5_tellWall, 1, (some .boolean))
abbrev mm_32 : pt_R := (yX5_tellReader, cX5_tellReader, 3, (some .boolean))
abbrev mm_33 : pt_R := (yX5_tellNumbers, cX5_tellNumbers, 5, (some .boolean))
abbrev mm_34 : pt_R := (yX5_tellSign, cX5_tellSign, 1, (some .boolean))
abbrev mm_35 : pt_R := (yX5_kindOfSort, cX5_kindOfSort, 1, (some .int))
abbrev mm_36 : pt_R := (yX5_at, cX5_at, 2, (some .int))
abbrev mm_37 : pt_R := (yX5_faulty, cX5_faulty, 2, (some .boolean))
abbrev mm_38 : pt_R := (yX5_isWord, cX5_isWord, 3, (some .boolean))
abbrev mm_39 : pt_R := (yX5_toNextToken, cX5_toNextToken, 2, none)
abbrev mm_40 : pt_R := (yX5_toEndOfNumber, cX5_toEndOfNumber, 1, none)
abbrev mm_41 : pt_R := (yX5_isBlank, cX5_isBlank, 1, (some .boolean))
abbrev mm_42 : pt_R := (yX5_isLetter, cX5_isLetter, 1, (some .boolean))
abbrev mm_43 : pt_R := (yX5_isFigure, cX5_isFigure, 1, (some .boolean))
abbrev mm_44 : pt_R := (yX6_row, cX6_row, 4, (some .int))
abbrev mm_45 : pt_R := (yX6_set, cX6_set, 5, (some .int))
abbrev mm_46 : pt_R := (yX6_copy, cX6_copy, 8, (some .int))
abbrev mm_47 : pt_R := (yX6_drop, cX6_drop, 3, (some .int))
abbrev mm_48 : pt_R := (yX6_isRow, cX6_isRow, 1, (some .boolean))
abbrev mm_49 : pt_R := (yX6_finding, cX6_finding, 2, (some .int))
abbrev mm_50 : pt_R := (yX6_noFinding, cX6_noFinding, 2, (some .int))
abbrev mm_51 : pt_R := (yX6_feed, cX6_feed, 5, (some .int))
abbrev mm_52 : pt_R := (yX6_street, cX6_street, 2, (some .int))
abbrev mm_53 : pt_R := (yX6_fault, cX6_fault, 1, (some .int))
abbrev mm_54 : pt_R := (yX6_paint, cX6_paint, 5, (some .int))
abbrev mm_55 : pt_R := (yX6_day, cX6_day, 2, (some .int))
abbrev mm_56 : pt_R := (yX6_walk, cX6_walk, 6, (some .int))
abbrev mm_57 : pt_R := (yX6_rest, cX6_rest, 3, (some .int))
abbrev mm_58 : pt_R := (yX6_undo, cX6_undo, 1, (some .int))
abbrev mm_59 : pt_R := (yX6_wall, cX6_wall, 3, (some .int))
abbrev mm_60 : pt_R := (yX6_reader, cX6_reader, 3, (some .int))
abbrev mm_61 : pt_R := (yX6_felt, cX6_felt, 4, (some .int))
abbrev mm_62 : pt_R := (yX6_isFlavour, cX6_isFlavour, 1, (some .boolean))
abbrev mm_63 : pt_R := (yX6_canWalk, cX6_canWalk, 4, (some .boolean))
abbrev mm_64 : pt_R := (yX6_wallsOnWay, cX6_wallsOnWay, 2, (some .int))
abbrev mm_65 : pt_R := (yX6_wallOnWay, cX6_wallOnWay, 3, (some .int))
abbrev mm_66 : pt_R := (yX6_read, cX6_read, 7, (some .int))
abbrev mm_67 : pt_R := (yX6_wrong, cX6_wrong, 8, (some .int))
abbrev mm_68 : pt_R := (yX6_often, cX6_often, 6, (some .int))
abbrev mm_69 : pt_R := (yX6_spice, cX6_spice, 9, (some .int))
abbrev mm_70 : pt_R := (yX6_both, cX6_both, 9, (some .int))
abbrev mm_71 : pt_R := (yX6_order, cX6_order, 8, (some .int))
abbrev mm_72 : pt_R := (yX6_written, cX6_written, 7, (some .int))
abbrev mm_73 : pt_R := (yX6_forged, cX6_forged, 8, (some .int))
abbrev mm_74 : pt_R := (yX6_image, cX6_image, 2, (some .int))
abbrev mm_75 : pt_R := (yX6_restore, cX6_restore, 2, (some .int))
abbrev mm_76 : pt_R := (yX6_hearMessage, cX6_hearMessage, 9, (some .int))
abbrev mm_77 : pt_R := (yX6_readsOtherwise, cX6_readsOtherwise, 6, (some .boolean))
abbrev mm_78 : pt_R := (yX6_findSpice, cX6_findSpice, 8, (some .boolean))
abbrev mm_79 : pt_R := (yX6_firstFelt, cX6_firstFelt, 4, (some .int))
abbrev mm_80 : pt_R := (yX6_fadesByDay, cX6_fadesByDay, 1, (some .int))
abbrev mm_81 : pt_R := (yX6_kind, cX6_kind, 2, (some .int))
abbrev mm_82 : pt_R := (yX6_as, cX6_as, 3, (some .int))
abbrev mm_83 : pt_R := (yX6_ask, cX6_ask, 3, (some .int))
abbrev mm_84 : pt_R := (yX6_trace, cX6_trace, 2, (some .int))
abbrev mm_85 : pt_R := (yX6_count, cX6_count, 2, (some .int))
abbrev mm_86 : pt_R := (yX6_status, cX6_status, 1, (some .int))
abbrev mm_87 : pt_R := (yX6_isOfKind, cX6_isOfKind, 4, (some .boolean))
abbrev mm_88 : pt_R := (yX6_rowsThere, cX6_rowsThere, 3, (some .int))
abbrev mm_89 : pt_R := (yX7_in, cX7_in, 6, (some .boolean))
abbrev mm_90 : pt_R := (yX7_finding, cX7_finding, 2, (some .int))
abbrev mm_91 : pt_R := (yX7_isRow, cX7_isRow, 1, (some .boolean))
abbrev mm_92 : pt_R := (yX7_row, cX7_row, 5, (some .int))
abbrev mm_93 : pt_R := (yX7_set, cX7_set, 4, (some .int))
abbrev mm_94 : pt_R := (yX7_copy, cX7_copy, 9, (some .int))
abbrev mm_95 : pt_R := (yX7_drop, cX7_drop, 2, (some .int))
abbrev mm_96 : pt_R := (yX7_feed, cX7_feed, 5, (some .int))
abbrev mm_97 : pt_R := (yX7_byteAt, cX7_byteAt, 2, (some .int))
abbrev mm_98 : pt_R := (yX7_isLetter, cX7_isLetter, 1, (some .boolean))
abbrev mm_99 : pt_R := (yX7_isFigure, cX7_isFigure, 1, (some .boolean))
abbrev mm_100 : pt_R := (yX7_next, cX7_next, 2, none)
abbrev mm_101 : pt_R := (yX7_begin, cX7_begin, 1, none)
abbrev mm_102 : pt_R := (yX7_bad, cX7_bad, 2, none)
abbrev mm_103 : pt_R := (yX7_must, cX7_must, 2, none)
abbrev mm_104 : pt_R := (yX7_name, cX7_name, 4, (some .long))
abbrev mm_105 : pt_R := (yX7_figures, cX7_figures, 3, (some .int))
abbrev mm_106 : pt_R := (yX7_number, cX7_number, 4, (some .int))
abbrev mm_107 : pt_R := (yX7_kindBy, cX7_kindBy, 2, (some .int))
abbrev mm_108 : pt_R := (yX7_mustEnd, cX7_mustEnd, 1, none)
abbrev mm_109 : pt_R := (yX7_begins, cX7_begins, 3, none)
abbrev mm_110 : pt_R := (yX7_readWall, cX7_readWall, 3, none)
abbrev mm_111 : pt_R := (yX7_readReader, cX7_readReader, 4, none)
abbrev mm_112 : pt_R := (yX7_street, cX7_street, 2, (some .int))
abbrev mm_113 : pt_R := (yX7_fault, cX7_fault, 1, (some .int))
abbrev mm_114 : pt_R := (yX7_isThere, cX7_isThere, 1, (some .boolean))
abbrev mm_115 : pt_R := (yX7_isWall, cX7_isWall, 2, (some .boolean))
abbrev mm_116 : pt_R := (yX7_isReader, cX7_isReader, 2, (some .boolean))
abbrev mm_117 : pt_R := (yX7_isFlavour, cX7_isFlavour, 1, (some .boolean))
abbrev mm_118 : pt_R := (yX7_isWalk, cX7_isWalk, 4, (some .boolean))
abbrev mm_119 : pt_R := (yX7_of, cX7_of, 3, (some .int))
abbrev mm_120 : pt_R := (yX7_strong, cX7_strong, 3, (some .int))
abbrev mm_121 : pt_R := (yX7_layPalm, cX7_layPalm, 3, none)
abbrev mm_122 : pt_R := (yX7_feels, cX7_feels, 4, (some .int))
abbrev mm_123 : pt_R := (yX7_tastes, cX7_tastes, 8, (some .int))
abbrev mm_124 : pt_R := (yX7_reads, cX7_reads, 2, (some .int))
abbrev mm_125 : pt_R := (yX7_getsUsed, cX7_getsUsed, 4, none)
abbrev mm_126 : pt_R := (yX7_wallsOf, cX7_wallsOf, 2, (some .int))
abbrev mm_127 : pt_R := (yX7_wallAt, cX7_wallAt, 3, (some .int))
abbrev mm_128 : pt_R := (yX7_keep, cX7_keep, 2, none)
abbrev mm_129 : pt_R := (yX7_paint, cX7_paint, 5, (some .int))
abbrev mm_130 : pt_R := (yX7_day, cX7_day, 7, (some .int))
abbrev mm_131 : pt_R := (yX7_walk, cX7_walk, 7, (some .int))
abbrev mm_132 : pt_R := (yX7_usedOf, cX7_usedOf, 4, (some .int))
abbrev mm_133 : pt_R := (yX7_rest, cX7_rest, 4, (some .int))
abbrev mm_134 : pt_R := (yX7_undo, cX7_undo, 2, (some .int))
abbrev mm_135 : pt_R := (yX7_wall, cX7_wall, 3, (some .int))
abbrev mm_136 : pt_R := (yX7_reader, cX7_reader, 3, (some .int))
abbrev mm_137 : pt_R := (yX7_felt, cX7_felt, 4, (some .int))
abbrev mm_138 : pt_R := (yX7_read, cX7_read, 7, (some .int))
abbrev mm_139 : pt_R := (yX7_barred, cX7_barred, 5, (some .int))
abbrev mm_140 : pt_R := (yX7_wrong, cX7_wrong, 8, (some .int))
abbrev mm_141 : pt_R := (yX7_often, cX7_often, 8, (some .int))
abbrev mm_142 : pt_R := (yX7_laySpice, cX7_laySpice, 10, (some .boolean))
abbrev mm_143 : pt_R := (yX7_spice, cX7_spice, 10, (some .int))
abbrev mm_144 : pt_R := (yX7_both, cX7_both, 10, (some .int))
abbrev mm_145 : pt_R := (yX7_goes, cX7_goes, 8, (some .boolean))
abbrev mm_146 : pt_R := (yX7_isOrder, cX7_isOrder, 4, (some .boolean))
abbrev mm_147 : pt_R := (yX7_order, cX7_order, 7, (some .int))
abbrev mm_148 : pt_R := (yX7_written, cX7_written, 7, (some .int))
abbrev mm_149 : pt_R := (yX7_forged, cX7_forged, 6, (some .int))
abbrev mm_150 : pt_R := (yX7_image, cX7_image, 3, (some .int))
abbrev mm_151 : pt_R := (yX7_restore, cX7_restore, 3, (some .int))
abbrev mm_152 : pt_R := (yX7_isOf, cX7_isOf, 2, (some .boolean))
abbrev mm_153 : pt_R := (yX7_kind, cX7_kind, 2, (some .int))
abbrev mm_154 : pt_R := (yX7_as, cX7_as, 3, (some .int))
abbrev mm_155 : pt_R := (yX7_began, cX7_began, 2, none)
abbrev mm_156 : pt_R := (yX7_plainSize, cX7_plainSize, 2, (some .int))
abbrev mm_157 : pt_R := (yX7_waxSize, cX7_waxSize, 3, (some .int))
abbrev mm_158 : pt_R := (yX7_markOf, cX7_markOf, 4, (some .int))
abbrev mm_159 : pt_R := (yX7_sizeOf, cX7_sizeOf, 4, (some .int))
abbrev mm_160 : pt_R := (yX7_ask, cX7_ask, 3, (some .int))
abbrev mm_161 : pt_R := (yX7_trace, cX7_trace, 2, (some .int))
abbrev mm_162 : pt_R := (yX7_count, cX7_count, 4, (some .int))
abbrev mm_163 : pt_R := (yX7_status, cX7_status, 1, (some .int))
abbrev mm_164 : pt_R := (yJ9_abs_0f7a4, cJ9_abs_0f7a4, 1, (some .int))
abbrev mm_165 : pt_R := (yJ9_max_7cf53, cJ9_max_7cf53, 2, (some .int))
abbrev mm_166 : pt_R := (yJ9_min_7cf53, cJ9_min_7cf53, 2, (some .int))
abbrev mm_167 : pt_R := (yJ0_length_8abf5, cJ0_length_8abf5, 1, (some .int))
abbrev mm_168 : pt_R := (yJ0_charAt_5068e, cJ0_charAt_5068e, 2, (some .char))
abbrev mm_169 : pt_R := (yJ0_coder_7d493, cJ0_coder_7d493, 1, (some .byte))
abbrev mm_170 : pt_R := (yJ0_isLatin1_aae02, cJ0_isLatin1_aae02, 1, (some .boolean))
abbrev mm_171 : pt_R := (yJ0_checkIndex_df160, cJ0_checkIndex_df160, 2, none)
abbrev mm_172 : pt_R := (yJ1_charAt_3b067, cJ1_charAt_3b067, 2, (some .char))
abbrev mm_173 : pt_R := (yJ7_fill_53178, cJ7_fill_53178, 4, none)
abbrev mm_174 : pt_R := (yJ3_checkIndex_8e157, cJ3_checkIndex_8e157, 3, (some .int))
def pt_mt : Nat → Option pt_R := fun k => ([mm_0, mm_1, mm_2, mm_3, mm_4, mm_5, mm_6, mm_7, mm_8, mm_9, mm_10, mm_11, mm_12, mm_13, mm_14, mm_15, mm_16, mm_17, mm_18, mm_19, mm_20, mm_21, mm_22, mm_23, mm_24, mm_25, mm_26, mm_27, mm_28, mm_29, mm_30, mm_31, mm_32, mm_33, mm_34, mm_35, mm_36, mm_37, mm_38, mm_39, mm_40, mm_41, mm_42, mm_43, mm_44, mm_45, mm_46, mm_47, mm_48, mm_49, mm_50, mm_51, mm_52, mm_53, mm_54, mm_55, mm_56, mm_57, mm_58, mm_59, mm_60, mm_61, mm_62, mm_63, mm_64, mm_65, mm_66, mm_67, mm_68, mm_69, mm_70, mm_71, mm_72, mm_73, mm_74, mm_75, mm_76, mm_77, mm_78, mm_79, mm_80, mm_81, mm_82, mm_83, mm_84, mm_85, mm_86, mm_87, mm_88, mm_89, mm_90, mm_91, mm_92, mm_93, mm_94, mm_95, mm_96, mm_97, mm_98, mm_99, mm_100, mm_101, mm_102, mm_103, mm_104, mm_105, mm_106, mm_107, mm_108, mm_109, mm_110, mm_111, mm_112, mm_113, mm_114, mm_115, mm_116, mm_117, mm_118, mm_119, mm_120, mm_121, mm_122, mm_123, mm_124, mm_125, mm_126, mm_127, mm_128, mm_129, mm_130, mm_131, mm_132, mm_133, mm_134, mm_135, mm_136, mm_137, mm_138, mm_139, mm_140, mm_141, mm_142, mm_143, mm_144, mm_145, mm_146, mm_147, mm_148, mm_149, mm_150, mm_151, mm_152, mm_153, mm_154, mm_155, mm_156, mm_157, mm_158, mm_159, mm_160, mm_161, mm_162, mm_163, mm_164, mm_165, mm_166, mm_167, mm_168, mm_169, mm_170, mm_171, mm_172, mm_173, mm_174] : List pt_R)[k]?
def pt_tbl : List Cond := lw_tbl.filter goodWord
theorem pt_tbl_in {w : Cond} (h : w ∈ lw_tbl) (hg : goodWord w = true) : w ∈ pt_tbl := List.mem_filter.mpr ⟨h, hg⟩
end
section
/-! 04.ctx: what is known at a method's start, and of the methods called -/
def pt_tab (i j : Nat) : Int32 := (([[-1, 0, 1, 1, 0, 4], [10, 11, 12, 0, 13, 14], [20, 21, 24, 22, 23, 0]] : List (List Int32)).getD i []).getD j 0
def pt_sn (i : Nat) : String := (["NEAREST", "SIZE_BODIES", "MARK_BODIES"] : List String).getD i ""
def pt_ki (i : Nat) : Nat := ([50, 64, 95, 97, 99, 101, 103] : List Nat).getD i 0
def pt_tx (i : Nat) : String := (["wall", "reader", "plain", "child", "wax", "fever", "scholar"] : List String).getD i ""
def pt_len : List Nat := [4, 6, 5, 5, 3, 5, 7]
def pt_byt : List (List Int32) := [[119, 97, 108, 108], [114, 101, 97, 100, 101, 114], [112, 108, 97, 105, 110], [99, 104, 105, 108, 100], [119, 97, 120], [102, 101, 118, 101, 114], [115, 99, 104, 111, 108, 97, 114]]
def pt_ty (G : pt_G) : List (ClassId × FieldType) := [(gC G 0, .int), (gC G 1, .boolean), (gC G 2, .object RX3), (gC G 3, .object RX4)]
def pt_nM : List (String × Nat × MethodName × String) := [(RX4, 41, yX6_isFlavour, RX6), (RX4, 44, yX6_fadesByDay, RX6)]
def pt_nF : List (String × Nat × String × String × String × String) := [(RX1, 35, RX6, "SIZE_BODIES", "[I", RX6), (RX1, 38, RX6, "MARK_BODIES", "[I", RX6), (RX1, 41, RX6, "NEAREST", "[I", RX6)]
def pt_St (G : pt_G) (U : State) (H : Heap) : Prop :=
  (∀ i : Nat, i < 3 → va_Z RX6 (pt_sn i) "[I" (.ref (gT G i)) (pt_A G) U H ∧ va_T .int (gT G i) 6 (fun j => .int (pt_tab i j)) (pt_A G) U H) ∧
  va_Z RJ0 "COMPACT_STRINGS" "Z" (.int 1) (pt_A G) U H ∧
  va_Z RJ3 "SIOOBE_FORMATTER" "Ljava/util/function/BiFunction;" (gF G) (pt_A G) U H ∧
  vk_S 7 pt_len pt_byt (gK G) (gV G) (pt_A G) U H ∧
  (∀ i : Nat, i < 7 → vk_R RX5 (pt_ki i) (pt_tx i) (gK G i) U) ∧
  (∀ q ∈ pt_nM, va_Nw (.methodLinkNest q.1 q.2.1 q.2.2.1 q.2.2.2) U) ∧
  (∀ q ∈ pt_nF, va_Nw (.fieldLinkNest q.1 q.2.1 q.2.2.1 q.2.2.2.1 q.2.2.2.2.1 q.2.2.2.2.2) U) ∧
  va_X (gX G).1 (gX G).2.1 (gX G).2.2 U H ∧ ¬ pt_A G (gX G).1
theorem pt_St.use {G : pt_G} {s U : State} {H : Heap} {locs : List Loc} (h : pt_St G s s.heap) (hW : s.WarmedH U.vm) (hS : va_S (pt_A G) s.heap H locs) : pt_St G U H := by
  obtain ⟨h1, h2, h3, h4, h5, h6, h7, h8, h9⟩ := h
  have hv := hW.alike
  have hk : ∀ a : Nat, a < s.heap.size → ¬ pt_A G a → H[a]? = s.heap[a]? := hS.2.1
  refine ⟨fun i hi => ⟨va_Z.moved hv ((h1 i hi).1.kept hk), va_T.moved hv ((h1 i hi).2.kept hk)⟩, va_Z.moved hv (h2.kept hk), va_Z.moved hv (h3.kept hk), vk_S.moved hv (h4.kept hk), fun i hi => vk_R.warm hW (h5 i hi), fun q hq => va_Nw.warmM hW (h6 q hq), fun q hq => va_Nw.warmF hW (h7 q hq), va_X.moved hv (h8.kept ?_), h9⟩
  obtain ⟨scr, g1, -⟩ := h8
  exact hk _ (Array.getElem?_eq_some_iff.mp g1).1 h9
theorem pt_St.calling {G : pt_G} {U : State} (g : JFrame) (mk : MethodId) (a : Array Value) (h : pt_St G U U.heap) : pt_St G (U.calling g mk a) (U.calling g mk a).heap := by
  obtain ⟨h1, h2, h3, h4, h5, h6, h7, h8, h9⟩ := h
  have hv : U.vm.Alike (U.calling g mk a).vm := Vm.Alike.refl U.vm
  exact ⟨fun i hi => ⟨va_Z.moved hv (h1 i hi).1, va_T.moved hv (h1 i hi).2⟩, va_Z.moved hv h2, va_Z.moved hv h3, vk_S.moved hv h4, fun i hi => vk_R.same rfl (h5 i hi), fun q hq => va_Nw.same rfl rfl (h6 q hq), fun q hq => va_Nw.same rfl rfl (h7 q hq), va_X.moved hv h8, h9⟩
def pt_Pre (G : pt_G) (mm : pt_M) (U : State) : Prop := va_P (gD G) vwCl (pt_W G mm) U.heap ∧ va_K (gD G) vwCl (pt_ty G) U ∧ pt_St G U U.heap
theorem pt_blind (G : pt_G) (av : List Value) (mm : pt_M) : FrameBlind (va_Pc av (pt_Pre G mm)) := fun a U g mk q => ⟨q.1, q.2.1, va_K.moved (u := U) (U := U.calling g mk a) (Vm.Alike.refl U.vm) q.2.2.1, q.2.2.2.calling g mk a⟩
def pt_Post (G : pt_G) (Q : pt_Q) : Array Value → State → Outcome → State → Prop := fun _ s0 oc t =>
  (∃ (r : Option pt_V) (mm : pt_M), oc = .returned (r.map (pt_cv G)) ∧ Q r mm ∧ (∀ v, r = some v → pt_ok v) ∧ va_P (gD G) vwCl (pt_W G mm) t.heap) ∧ va_F (pt_A G) s0 t
def pt_rm (d : Nat) : Room := { frames := d, cells := 0, slots := 0, locals := 60 * d }
def pt_ws (r : pt_R) : List Cond := Cond.code r.1 r.2.1 r.2.2.1 r.2.2.2 :: pt_tbl
/-- the methods that C tells of, as the machine runs them, with d frames of room -/
def pt_IH (G : pt_G) (l : Launch) (d : Nat) (C : pt_C) : Prop := ∀ (k : Nat) (r : pt_R) (as : List pt_V) (mm : pt_M) (Q : pt_Q), pt_mt k = some r → (∀ v ∈ as, pt_ok v) → C k as mm Q →
  Met l r.1 (pt_ws r) (pt_rm d) (va_Pc (as.map (pt_cv G)) (pt_Pre G mm)) (pt_Post G Q) 0 0 (pt_A G)
def pt_X (G : pt_G) (p : Program) (s : State) (m : MethodId) (args : Array Value) (c : Code) (cc : ByteArray) (own : String) (nL : Nat) : Prop :=
  p.tables.exec = Jvm.exec ∧ c.code = cc ∧ c.maxLocals = nL ∧ s.vm.findClass own = some m.cls ∧ (∀ w ∈ pt_tbl, w.before args s = true) ∧ va_K (gD G) vwCl (pt_ty G) s ∧ pt_J G ∧ pt_St G s s.heap
def pt_RM (R : Room) (d cells slots : Nat) : Prop := d + 1 ≤ R.frames ∧ 60 * d + 60 ≤ R.locals ∧ cells ≤ R.cells ∧ slots ≤ R.slots
/-- the machine, now at pc, comes to its end -/
def pt_SK (G : pt_G) (p : Program) (l : Launch) (e : Env) (R : Room) (s : State) (m : MethodId) (args : Array Value) (below : List Frame) (meth : Method) (c : Code) (nL cells slots : Nat) (Qw : State → Prop) : pt_K := fun pc L S mm =>
  (∀ v ∈ S, pt_ok v) → (∀ (i : Nat) (v : pt_V), pt_get L i = some v → pt_ok v) → L.length = nL → ∀ (ls : Array Slot) (H : Heap) (locs : List Loc), lv_has ls nL (pt_lv G L) → va_P (gD G) vwCl (pt_W G mm) H → va_S (pt_A G) s.heap H locs → W p l e R s m args below meth c H locs cells slots Qw (F0 m pc ls (S.map (pt_cv G)))
def pt_RT (cc : ByteArray) (rt : Option FieldType) (pc : Nat) : Option pt_V → Prop
  | none => decode cc pc = .ok (.return_, 1) ∧ rt = none
  | some (.inl x) => decode cc pc = .ok (.ireturn, 1) ∧ ∃ ty, rt = some ty ∧ narrow ty (.int x) = .int x
  | some (.inr (.inl _)) => decode cc pc = .ok (.lreturn, 1) ∧ rt = some .long
  | some (.inr (.inr _)) => False
/-- an instruction's row: what its op asks is enough -/
def pt_OK (cc : ByteArray) (own : String) (nL : Nat) (rt : Option FieldType) (pc : Nat) (o : pt_O) : Prop :=
  ∀ (G : pt_G) (p : Program) (l : Launch) (e : Env) (R : Room) (s : State) (m : MethodId) (args : Array Value) (below : List Frame) (meth : Method) (c : Code) (cells slots : Nat) (Qw : State → Prop) (d : Nat) (C : pt_C), pt_X G p s m args c cc own nL → pt_IH G l d C → pt_RM R d cells slots →
  ∀ (K : pt_K) (Q : pt_Q), (∀ pc L S mm, K pc L S mm → pt_SK G p l e R s m args below meth c nL cells slots Qw pc L S mm) →
  (∀ (pc : Nat) (ls : Array Slot) (H : Heap) (locs : List Loc) (r : Option pt_V) (mm : pt_M), Q r mm → pt_RT cc rt pc r → va_P (gD G) vwCl (pt_W G mm) H → va_S (pt_A G) s.heap H locs → W p l e R s m args below meth c H locs cells slots Qw (F0 m pc ls ((r.map (pt_cv G)).toList))) →
  ∀ L S mm, o C L S mm K Q → pt_SK G p l e R s m args below meth c nL cells slots Qw pc L S mm
theorem pt_D {G : pt_G} (J : pt_J G) (mm : pt_M) : va_D (pt_A G) (pt_W G mm) := by
  have key : ∀ (k : Nat) (q : Nat × va_E), (pt_W G mm)[k]? = some q → k < 158 ∧ q.1 = gA G k := by
    intro k q hk
    have hl : k < 158 := by
      have := (List.getElem?_eq_some_iff.mp hk).1
      unfold pt_W at this
      rwa [List.length_map, List.length_range] at this
    unfold pt_W at hk
    rw [List.getElem?_map, List.getElem?_range hl] at hk
    cases hk
    exact ⟨hl, rfl⟩
  refine ⟨fun i j x y hi hj hxy => ?_, fun k q hk => ?_⟩
  · obtain ⟨h1, h2⟩ := key i x hi
    obtain ⟨h3, h4⟩ := key j y hj
    exact J.1 i j h1 h3 (by rw [← h2, ← h4]; exact hxy)
  · obtain ⟨h1, h2⟩ := key k q hk
    rw [h2]
    exact J.2.1 k h1
theorem pt_okS_tl {v : pt_V} {S : pt_S} (h : ∀ w ∈ v :: S, pt_ok w) : ∀ w ∈ S, pt_ok w := fun w hw => h w (List.mem_cons_of_mem _ hw)
theorem pt_okS_hd {v : pt_V} {S : pt_S} (h : ∀ w ∈ v :: S, pt_ok w) : pt_ok v := h v List.mem_cons_self
theorem pt_okS_cons {v : pt_V} {S : pt_S} (h1 : pt_ok v) (h2 : ∀ w ∈ S, pt_ok w) : ∀ w ∈ v :: S, pt_ok w := fun w hw => (List.mem_cons.mp hw).elim (fun e => e ▸ h1) (h2 w)
theorem pt_okI (x : Int32) : pt_ok (zI x) := trivial
theorem pt_okL (x : Int64) : pt_ok (zL x) := trivial
section PTC
variable {G : pt_G} {p : Program} {l : Launch} {e : Env} {R : Room} {s : State} {m : MethodId} {args : Array Value} {below : List Frame} {meth : Method} {c : Code} {H : Heap} {locs : List Loc} {cells slots : Nat} {Qw : State → Prop}
/-- behind a call -/
theorem pt_back {pc : Nat} {ls : Array Slot} {rest st0 : List Value} {a : Array Value} {Q : pt_Q} (hr : va_Run p l e R s m args below meth c H locs cells slots 0 0 (F0 m pc ls st0) rest (pt_Post G Q a) (pt_A G)) (hS : va_S (pt_A G) s.heap H locs)
    (kk : ∀ (r : Option pt_V) (mm : pt_M) (H1 : Heap) (locs1 : List Loc), Q r mm → (∀ v, r = some v → pt_ok v) → va_P (gD G) vwCl (pt_W G mm) H1 → va_S (pt_A G) s.heap H1 locs1 → W p l e R s m args below meth c H1 locs1 cells slots Qw (F0 m (pc + 3) ls ((r.map (pt_cv G)).toList ++ rest))) : W p l e R s m args below meth c H locs cells slots Qw (F0 m pc ls st0) := by
  intro T hT X
  obtain ⟨v, st₀, t, T', L, h0, X', hL, e1, e2, ⟨⟨r, mm, hv, hq, ho, hp⟩, hz, hk⟩, stp⟩ := hr T hT X
  cases hv
  rw [h0] at hz hk
  obtain ⟨t2, a1, b1⟩ := kk r mm T'.heap (locs ++ L) hq ho (by rw [e1]; exact hp)
    ⟨Nat.le_trans hS.1 (by rw [e1]; exact hz), fun q h1 h2 => by rw [e1, hk q (Nat.lt_of_lt_of_le h1 hS.1) h2]; exact hS.2.1 q h1 h2, fun q hq => by
      rcases List.mem_append.mp hq with h | h
      · exact hS.2.2 q h
      · exact hL q h⟩ T' rfl X'
  exact ⟨t2, stp t2 a1, b1⟩
end PTC
end
section
/-! 05.ops: the instructions as steps of the small machine, each with its row: the real machine does so too -/
def o_v (v : pt_V) (nx : Nat) : pt_O := fun _ L S m K _ => K nx L (v :: S) m
def o_lI (i nx : Nat) : pt_O := fun _ L S m K _ => match pt_get L i with | some (.inl x) => K nx L (.inl x :: S) m | _ => False
def o_lL (i nx : Nat) : pt_O := fun _ L S m K _ => match pt_get L i with | some (.inr (.inl x)) => K nx L (.inr (.inl x) :: S) m | _ => False
def o_lR (i nx : Nat) : pt_O := fun _ L S m K _ => match pt_get L i with | some (.inr (.inr (t, o))) => cond (Nat.beq t 22) False (K nx L (.inr (.inr (t, o)) :: S) m) | _ => False
def o_sI (i nx : Nat) : pt_O := fun _ L S m K _ => match S with | .inl x :: S' => K nx (pt_put L i (.inl x)) S' m | _ => False
def o_sL (i nx : Nat) : pt_O := fun _ L S m K _ => match S with | .inr (.inl x) :: S' => K nx (pt_putL L i (.inr (.inl x))) S' m | _ => False
def o_sR (i nx : Nat) : pt_O := fun _ L S m K _ => match S with | .inr (.inr (t, o)) :: S' => cond (Nat.beq t 22) False (K nx (pt_put L i (.inr (.inr (t, o)))) S' m) | _ => False
def o_inc (i : Nat) (d : Int32) (nx : Nat) : pt_O := fun _ L S m K _ => match pt_get L i with | some (.inl x) => K nx (pt_put L i (.inl (x + d))) S m | _ => False
def o_b2 (f : Int32 → Int32 → Int32) (nx : Nat) : pt_O := fun _ L S m K _ => match S with | .inl y :: .inl x :: S' => K nx L (.inl (f x y) :: S') m | _ => False
def o_bd (f : Int32 → Int32 → Int32) (nx : Nat) : pt_O := fun _ L S m K _ => match S with | .inl y :: .inl x :: S' => ¬ y = 0 ∧ K nx L (.inl (f x y) :: S') m | _ => False
def o_u1 (f : Int32 → Int32) (nx : Nat) : pt_O := fun _ L S m K _ => match S with | .inl x :: S' => K nx L (.inl (f x) :: S') m | _ => False
def o_i2l (nx : Nat) : pt_O := fun _ L S m K _ => match S with | .inl x :: S' => K nx L (.inr (.inl x.toInt64) :: S') m | _ => False
def o_l2i (nx : Nat) : pt_O := fun _ L S m K _ => match S with | .inr (.inl x) :: S' => K nx L (.inl x.toInt32 :: S') m | _ => False
def o_l2 (f : Int64 → Int64 → Int64) (nx : Nat) : pt_O := fun _ L S m K _ => match S with | .inr (.inl y) :: .inr (.inl x) :: S' => K nx L (.inr (.inl (f x y)) :: S') m | _ => False
def o_lsh (f : Int64 → Int32 → Int64) (nx : Nat) : pt_O := fun _ L S m K _ => match S with | .inl y :: .inr (.inl x) :: S' => K nx L (.inr (.inl (f x y)) :: S') m | _ => False
def o_lcmp (nx : Nat) : pt_O := fun _ L S m K _ => match S with | .inr (.inl y) :: .inr (.inl x) :: S' => K nx L (.inl (lg_cmp x y) :: S') m | _ => False
def o_if (q : Int32 → Prop) (tg nx : Nat) : pt_O := fun _ L S m K _ => match S with | .inl x :: S' => (q x → K tg L S' m) ∧ (¬ q x → K nx L S' m) | _ => False
def o_if2 (q : Int32 → Int32 → Prop) (tg nx : Nat) : pt_O := fun _ L S m K _ => match S with | .inl y :: .inl x :: S' => (q x y → K tg L S' m) ∧ (¬ q x y → K nx L S' m) | _ => False
def o_go (tg : Nat) : pt_O := fun _ L S m K _ => K tg L S m
def pt_c1 : pt_V → Bool | .inr (.inl _) => false | _ => true
def o_dup (nx : Nat) : pt_O := fun _ L S m K _ => match S with | v :: S' => cond (pt_c1 v) (K nx L (v :: v :: S') m) False | _ => False
def o_dup2 (nx : Nat) : pt_O := fun _ L S m K _ => match S with | v :: w :: S' => cond (pt_c1 v && pt_c1 w) (K nx L (v :: w :: v :: w :: S') m) False | _ => False
def o_dx1 (nx : Nat) : pt_O := fun _ L S m K _ => match S with | v :: w :: S' => cond (pt_c1 v && pt_c1 w) (K nx L (v :: w :: v :: S') m) False | _ => False
def o_pop (nx : Nat) : pt_O := fun _ L S m K _ => match S with | v :: S' => cond (pt_c1 v) (K nx L S' m) False | _ => False
def pt_gv (t o k : Nat) (m : pt_M) : pt_V := match pt_fr t k with | some (t', d) => .inr (.inr (t', o + d)) | none => .inl (m o k)
def o_gf (t k nx : Nat) : pt_O := fun _ L S m K _ => match S with | .inr (.inr (t', o)) :: S' => cond (Nat.beq t' t) (K nx L (pt_gv t o k m :: S') m) False | _ => False
def o_pf (t k nx : Nat) : pt_O := fun _ L S m K _ => match S with | .inl x :: .inr (.inr (t', o)) :: S' => cond (Nat.beq t' t) (K nx L S' (st m o k x)) False | _ => False
def o_pz (t k nx : Nat) : pt_O := fun _ L S m K _ => match S with | .inl x :: .inr (.inr (t', o)) :: S' => cond (Nat.beq t' t) ((x = 0 ∨ x = 1) ∧ K nx L S' (st m o k x)) False | _ => False
/-- a text's own fields -/
def o_tv (nx : Nat) : pt_O := fun _ L S m K _ => match S with | .inr (.inr (t, o)) :: S' => cond (Nat.beq t 12) (K nx L (.inr (.inr (13, o)) :: S') m) False | _ => False
def o_tc (nx : Nat) : pt_O := fun _ L S m K _ => match S with | .inr (.inr (t, _)) :: S' => cond (Nat.beq t 12) (K nx L (.inl 0 :: S') m) False | _ => False
/-- places of arrays: of ints in the world, of a static table, of the script -/
def o_ald (nx : Nat) : pt_O := fun _ L S m K _ => match S with
  | .inl i :: .inr (.inr (t, o)) :: S' => cond (Nat.ble 1000 t) (∃ j, i = nI j ∧ j < t - 1000 ∧ K nx L (.inl (m o j) :: S') m) (cond (Nat.beq t 20) (∃ j, i = nI j ∧ j < 6 ∧ K nx L (.inl (pt_tab o j) :: S') m) False)
  | _ => False
def o_xld (xl : Nat) (xs : Nat → Int32) (nx : Nat) : pt_O := fun _ L S m K _ => match S with
  | .inl i :: .inr (.inr (t, _)) :: S' => cond (Nat.beq t 21) (∃ j, i = nI j ∧ j < xl ∧ K nx L (.inl (xs j) :: S') m) False
  | _ => False
def o_ast (nx : Nat) : pt_O := fun _ L S m K _ => match S with
  | .inl x :: .inl i :: .inr (.inr (t, o)) :: S' => cond (Nat.ble 1000 t) (∃ j, i = nI j ∧ j < t - 1000 ∧ K nx L S' (st m o j x)) False
  | _ => False
def o_zld (nx : Nat) : pt_O := fun _ L S m K _ => match S with
  | .inl i :: .inr (.inr (t, o)) :: S' => cond (Nat.beq t 11) (∃ j, i = nI j ∧ j < 2 ∧ K nx L (.inl (m o j) :: S') m) (cond (Nat.beq t 13) (∃ j, i = nI j ∧ j < pt_len.getD o 0 ∧ K nx L (.inl ((pt_byt.getD o []).getD j 0) :: S') m) False)
  | _ => False
def o_zst (nx : Nat) : pt_O := fun _ L S m K _ => match S with
  | .inl x :: .inl i :: .inr (.inr (t, o)) :: S' => cond (Nat.beq t 11) (∃ j, i = nI j ∧ j < 2 ∧ (x = 0 ∨ x = 1) ∧ K nx L S' (st m o j x)) False
  | _ => False
def o_len (nx : Nat) : pt_O := fun _ L S m K _ => match S with
  | .inr (.inr (t, o)) :: S' => cond (Nat.ble 1000 t) (K nx L (.inl (nI (t - 1000)) :: S') m) (cond (Nat.beq t 13) (K nx L (.inl (nI (pt_len.getD o 0)) :: S') m) (cond (Nat.beq t 20) (K nx L (.inl 6 :: S') m) False))
  | _ => False
def o_xlen (xl : Nat) (nx : Nat) : pt_O := fun _ L S m K _ => match S with
  | .inr (.inr (t, _)) :: S' => cond (Nat.beq t 21) (K nx L (.inl (nI xl) :: S') m) False
  | _ => False
def o_rld (nx : Nat) : pt_O := fun _ L S m K _ => match S with
  | .inl i :: .inr (.inr (t, o)) :: S' => cond (Nat.beq t 8) (∃ j, i = nI j ∧ j < 8 ∧ K nx L (.inr (.inr (3, o + 1 + 2 * j)) :: S') m)
      (cond (Nat.beq t 9) (∃ j, i = nI j ∧ j < 24 ∧ K nx L (.inr (.inr (4, o + 1 + 4 * j)) :: S') m) (cond (Nat.beq t 10) (∃ j, i = nI j ∧ j < 2 ∧ K nx L (.inr (.inr (4, o + 1 + 4 * j)) :: S') m) False))
  | _ => False
def pt_sz : pt_S → Nat
  | [] => 0
  | .inr (.inl _) :: S => pt_sz S + 2
  | _ :: S => pt_sz S + 1
def o_cpy (nx : Nat) : pt_O := fun _ L S m K _ => match S with
  | .inl n :: .inl dp :: .inr (.inr (t2, o2)) :: .inl sp :: .inr (.inr (t1, o1)) :: S' => cond (Nat.ble 1000 t1 && Nat.ble 1000 t2 && Nat.ble (pt_sz S') 8)
      (∃ a b k, sp = nI a ∧ dp = nI b ∧ n = nI k ∧ a + k ≤ t1 - 1000 ∧ b + k ≤ t2 - 1000 ∧ K nx L S' (cpm m o1 a o2 b k)) False
  | _ => False
def pt_pop : Nat → pt_S → List pt_V → Option (List pt_V × pt_S)
  | 0, S, a => some (a, S)
  | _ + 1, [], _ => none
  | n + 1, v :: S, a => pt_pop n S (v :: a)
def pt_res (r : Option pt_V) (S : pt_S) : pt_S := match r with | none => S | some v => v :: S
def o_cV (k n t nx : Nat) : pt_O := fun C L S m K _ => match pt_pop (n + 1) S [] with
  | some (.inr (.inr (t', o)) :: as, S') => cond (Nat.beq t' t && Nat.ble (pt_sz S') 8) (C k (.inr (.inr (t', o)) :: as) m (fun r m' => K nx L (pt_res r S') m')) False
  | _ => False
def o_cS (k n nx : Nat) : pt_O := fun C L S m K _ => match pt_pop n S [] with
  | some (as, S') => cond (Nat.ble (pt_sz S') 8) (C k as m (fun r m' => K nx L (pt_res r S') m')) False
  | _ => False
def o_ret : pt_O := fun _ _ S m _ Q => match S with | [] => Q none m | _ => False
def o_rI : pt_O := fun _ _ S m _ Q => match S with | [.inl x] => Q (some (.inl x)) m | _ => False
def o_rZ (ty : FieldType) : pt_O := fun _ _ S m _ Q => match S with | [.inl x] => narrow ty (.int x) = .int x ∧ Q (some (.inl x)) m | _ => False
def o_rL : pt_O := fun _ _ S m _ Q => match S with | [.inr (.inl x)] => Q (some (.inr (.inl x))) m | _ => False
def pt_tsw (lo : Int) (d : Nat) (ts : List Nat) (x : Int32) : Nat := if x.toInt < lo then d else ts.getD (x.toInt - lo).toNat d
def o_tsw (lo : Int) (d : Nat) (ts : List Nat) : pt_O := fun _ L S m K _ => match S with | .inl x :: S' => K (pt_tsw lo d ts x) L S' m | _ => False
def pt_lsw (d : Nat) : List (Int × Nat) → Int → Nat
  | [], _ => d
  | (a, t) :: l, x => if x = a then t else pt_lsw d l x
def o_lsw (d : Nat) (ts : List (Int × Nat)) : pt_O := fun _ L S m K _ => match S with | .inl x :: S' => K (pt_lsw d ts x.toInt) L S' m | _ => False
/-! what the ops ask, taken apart -/
theorem cond_t {b : Bool} {A : Prop} (h : cond b A False) : b = true ∧ A := by
  cases b with
  | true => exact ⟨rfl, h⟩
  | false => exact h.elim
theorem cond_f {b : Bool} {A : Prop} (h : cond b False A) : b = false ∧ A := by
  cases b with
  | false => exact ⟨rfl, h⟩
  | true => exact h.elim
theorem cond_2 {b : Bool} {A B : Prop} (h : cond b A B) : (b = true ∧ A) ∨ (b = false ∧ B) := by
  cases b with
  | true => exact Or.inl ⟨rfl, h⟩
  | false => exact Or.inr ⟨rfl, h⟩
theorem beq_t {a b : Nat} (h : Nat.beq a b = true) : a = b := Nat.eq_of_beq_eq_true h
theorem pt_pop_spec : ∀ (n : Nat) (S : pt_S) (a as : List pt_V) (S' : pt_S), pt_pop n S a = some (as, S') → ∃ b, as = b ++ a ∧ S = b.reverse ++ S' ∧ b.length = n
  | 0, S, a, as, S', h => by
    cases h
    exact ⟨[], rfl, rfl, rfl⟩
  | n + 1, [], a, as, S', h => by cases h
  | n + 1, v :: S, a, as, S', h => by
    obtain ⟨b, h1, h2, h3⟩ := pt_pop_spec n S (v :: a) as S' h
    refine ⟨b ++ [v], by rw [h1]; simp, by rw [h2]; simp, by simp [h3]⟩
theorem pt_sz_cat {G : pt_G} (J : pt_J G) : ∀ (S : pt_S), ((S.map (pt_cv G)).map fun v => v.category).sum = pt_sz S
  | [] => rfl
  | .inl x :: S => by
    rw [List.map_cons, List.map_cons, List.sum_cons, pt_sz_cat J S]
    show 1 + _ = _ + 1
    omega
  | .inr (.inl x) :: S => by
    rw [List.map_cons, List.map_cons, List.sum_cons, pt_sz_cat J S]
    show 2 + _ = _ + 2
    omega
  | .inr (.inr (t, o)) :: S => by
    rw [List.map_cons, List.map_cons, List.sum_cons, pt_sz_cat J S, pt_cat1 J (v := zR t o) (by rintro ⟨x, h⟩; cases h)]
    show 1 + _ = _ + 1
    omega
theorem pt_c1_cat {G : pt_G} (J : pt_J G) {v : pt_V} (h : pt_c1 v = true) : (pt_cv G v).category = 1 := by
  refine pt_cat1 J ?_
  rintro ⟨x, rfl⟩
  cases h
def pt_subc (o k : Nat) : Bool := match pt_fr (pt_tags.getD o 0) k with | some (t', d) => decide (pt_tags[o + d]? = some t') | none => true
theorem pt_sub_at {o t k t' d : Nat} (h : pt_tags[o]? = some t) (hk : k < pt_N t) (hf : pt_fr t k = some (t', d)) : pt_tags[o + d]? = some t' := by
  have all : ∀ o, o < 158 → ∀ k, k < 29 → pt_subc o k = true := by decide +kernel
  have ho := pt_tag_lt h
  have e : pt_tags.getD o 0 = t := by rw [List.getD_eq_getElem?_getD, h]; rfl
  have hk2 : k < 29 := by
    have : ∀ t, pt_N t ≤ 29 := by
      intro t
      unfold pt_N
      rcases Nat.lt_or_ge t 8 with q | q
      · have : ∀ t, t < 8 → ([3, 2, 3, 4, 6, 9, 13, 29] : List Nat).getD t 0 ≤ 29 := by decide
        exact this t q
      · rw [List.getD_eq_getElem?_getD, List.getElem?_eq_none (by simpa using q)]
        exact Nat.zero_le _
    have := this t
    omega
  have := all o ho k hk2
  unfold pt_subc at this
  rw [e, hf] at this
  exact of_decide_eq_true this
theorem pt_rows_at {j : Nat} {o : Nat} (h : pt_tags[o]? = some 8) (hj : j < 8) : pt_tags[o + 1 + 2 * j]? = some 3 := by
  have all : ∀ o, o < 158 → pt_tags[o]? = some 8 → ∀ j, j < 8 → pt_tags[o + 1 + 2 * j]? = some 3 := by decide +kernel
  exact all o (pt_tag_lt h) h j hj
theorem pt_acts_at {j : Nat} {o : Nat} (h : pt_tags[o]? = some 9) (hj : j < 24) : pt_tags[o + 1 + 4 * j]? = some 4 := by
  have all : ∀ o, o < 158 → pt_tags[o]? = some 9 → ∀ j, j < 24 → pt_tags[o + 1 + 4 * j]? = some 4 := by decide +kernel
  exact all o (pt_tag_lt h) h j hj
theorem pt_imgs_at {j : Nat} {o : Nat} (h : pt_tags[o]? = some 10) (hj : j < 2) : pt_tags[o + 1 + 4 * j]? = some 4 := by
  have all : ∀ o, o < 158 → pt_tags[o]? = some 10 → ∀ j, j < 2 → pt_tags[o + 1 + 4 * j]? = some 4 := by decide +kernel
  exact all o (pt_tag_lt h) h j hj
theorem pt_okW {t o : Nat} (h : pt_tags[o]? = some t) : pt_ok (zR t o) := Or.inr (Or.inr (Or.inr (Or.inr (Or.inr h))))
end
section
/-! 06.rows: the rows of the ops (written by gen_rows.py) -/
theorem o_b2_of {f : Int32 → Int32 → Int32} {nx : Nat} {C : pt_C} {L : pt_L} {S : pt_S} {m : pt_M} {K : pt_K} {Q : pt_Q} (h : o_b2 f nx C L S m K Q) : ∃ (x y : Int32) (S2 : pt_S), S = zI y :: zI x :: S2 ∧ (K nx L (zI (f x y) :: S2) m) := by
  unfold o_b2 at h
  split at h
  · exact ⟨_, _, _, rfl, h⟩
  · exact h.elim
theorem o_bd_of {f : Int32 → Int32 → Int32} {nx : Nat} {C : pt_C} {L : pt_L} {S : pt_S} {m : pt_M} {K : pt_K} {Q : pt_Q} (h : o_bd f nx C L S m K Q) : ∃ (x y : Int32) (S2 : pt_S), S = zI y :: zI x :: S2 ∧ (¬ y = 0 ∧ K nx L (zI (f x y) :: S2) m) := by
  unfold o_bd at h
  split at h
  · exact ⟨_, _, _, rfl, h⟩
  · exact h.elim
theorem o_u1_of {f : Int32 → Int32} {nx : Nat} {C : pt_C} {L : pt_L} {S : pt_S} {m : pt_M} {K : pt_K} {Q : pt_Q} (h : o_u1 f nx C L S m K Q) : ∃ (x : Int32) (S2 : pt_S), S = zI x :: S2 ∧ (K nx L (zI (f x) :: S2) m) := by
  unfold o_u1 at h
  split at h
  · exact ⟨_, _, rfl, h⟩
  · exact h.elim
theorem o_i2l_of {nx : Nat} {C : pt_C} {L : pt_L} {S : pt_S} {m : pt_M} {K : pt_K} {Q : pt_Q} (h : o_i2l nx C L S m K Q) : ∃ (x : Int32) (S2 : pt_S), S = zI x :: S2 ∧ (K nx L (zL x.toInt64 :: S2) m) := by
  unfold o_i2l at h
  split at h
  · exact ⟨_, _, rfl, h⟩
  · exact h.elim
theorem o_l2i_of {nx : Nat} {C : pt_C} {L : pt_L} {S : pt_S} {m : pt_M} {K : pt_K} {Q : pt_Q} (h : o_l2i nx C L S m K Q) : ∃ (x : Int64) (S2 : pt_S), S = zL x :: S2 ∧ (K nx L (zI x.toInt32 :: S2) m) := by
  unfold o_l2i at h
  split at h
  · exact ⟨_, _, rfl, h⟩
  · exact h.elim
theorem o_l2_of {f : Int64 → Int64 → Int64} {nx : Nat} {C : pt_C} {L : pt_L} {S : pt_S} {m : pt_M} {K : pt_K} {Q : pt_Q} (h : o_l2 f nx C L S m K Q) : ∃ (x y : Int64) (S2 : pt_S), S = zL y :: zL x :: S2 ∧ (K nx L (zL (f x y) :: S2) m) := by
  unfold o_l2 at h
  split at h
  · exact ⟨_, _, _, rfl, h⟩
  · exact h.elim
theorem o_lsh_of {f : Int64 → Int32 → Int64} {nx : Nat} {C : pt_C} {L : pt_L} {S : pt_S} {m : pt_M} {K : pt_K} {Q : pt_Q} (h : o_lsh f nx C L S m K Q) : ∃ (x : Int64) (y : Int32) (S2 : pt_S), S = zI y :: zL x :: S2 ∧ (K nx L (zL (f x y) :: S2) m) := by
  unfold o_lsh at h
  split at h
  · exact ⟨_, _, _, rfl, h⟩
  · exact h.elim
theorem o_lcmp_of {nx : Nat} {C : pt_C} {L : pt_L} {S : pt_S} {m : pt_M} {K : pt_K} {Q : pt_Q} (h : o_lcmp nx C L S m K Q) : ∃ (x y : Int64) (S2 : pt_S), S = zL y :: zL x :: S2 ∧ (K nx L (zI (lg_cmp x y) :: S2) m) := by
  unfold o_lcmp at h
  split at h
  · exact ⟨_, _, _, rfl, h⟩
  · exact h.elim
theorem o_if_of {q : Int32 → Prop} {tg nx : Nat} {C : pt_C} {L : pt_L} {S : pt_S} {m : pt_M} {K : pt_K} {Q : pt_Q} (h : o_if q tg nx C L S m K Q) : ∃ (x : Int32) (S2 : pt_S), S = zI x :: S2 ∧ ((q x → K tg L S2 m) ∧ (¬ q x → K nx L S2 m)) := by
  unfold o_if at h
  split at h
  · exact ⟨_, _, rfl, h⟩
  · exact h.elim
theorem o_if2_of {q : Int32 → Int32 → Prop} {tg nx : Nat} {C : pt_C} {L : pt_L} {S : pt_S} {m : pt_M} {K : pt_K} {Q : pt_Q} (h : o_if2 q tg nx C L S m K Q) : ∃ (x y : Int32) (S2 : pt_S), S = zI y :: zI x :: S2 ∧ ((q x y → K tg L S2 m) ∧ (¬ q x y → K nx L S2 m)) := by
  unfold o_if2 at h
  split at h
  · exact ⟨_, _, _, rfl, h⟩
  · exact h.elim
theorem o_dup_of {nx : Nat} {C : pt_C} {L : pt_L} {S : pt_S} {m : pt_M} {K : pt_K} {Q : pt_Q} (h : o_dup nx C L S m K Q) : ∃ (v : pt_V) (S2 : pt_S), S = v :: S2 ∧ (cond (pt_c1 v) (K nx L (v :: v :: S2) m) False) := by
  unfold o_dup at h
  split at h
  · exact ⟨_, _, rfl, h⟩
  · exact h.elim
theorem o_dup2_of {nx : Nat} {C : pt_C} {L : pt_L} {S : pt_S} {m : pt_M} {K : pt_K} {Q : pt_Q} (h : o_dup2 nx C L S m K Q) : ∃ (v w : pt_V) (S2 : pt_S), S = v :: w :: S2 ∧ (cond (pt_c1 v && pt_c1 w) (K nx L (v :: w :: v :: w :: S2) m) False) := by
  unfold o_dup2 at h
  split at h
  · exact ⟨_, _, _, rfl, h⟩
  · exact h.elim
theorem o_dx1_of {nx : Nat} {C : pt_C} {L : pt_L} {S : pt_S} {m : pt_M} {K : pt_K} {Q : pt_Q} (h : o_dx1 nx C L S m K Q) : ∃ (v w : pt_V) (S2 : pt_S), S = v :: w :: S2 ∧ (cond (pt_c1 v && pt_c1 w) (K nx L (v :: w :: v :: S2) m) False) := by
  unfold o_dx1 at h
  split at h
  · exact ⟨_, _, _, rfl, h⟩
  · exact h.elim
theorem o_pop_of {nx : Nat} {C : pt_C} {L : pt_L} {S : pt_S} {m : pt_M} {K : pt_K} {Q : pt_Q} (h : o_pop nx C L S m K Q) : ∃ (v : pt_V) (S2 : pt_S), S = v :: S2 ∧ (cond (pt_c1 v) (K nx L S2 m) False) := by
  unfold o_pop at h
  split at h
  · exact ⟨_, _, rfl, h⟩
  · exact h.elim
theorem o_sI_of {i nx : Nat} {C : pt_C} {L : pt_L} {S : pt_S} {m : pt_M} {K : pt_K} {Q : pt_Q} (h : o_sI i nx C L S m K Q) : ∃ (x : Int32) (S2 : pt_S), S = zI x :: S2 ∧ (K nx (pt_put L i (zI x)) S2 m) := by
  unfold o_sI at h
  split at h
  · exact ⟨_, _, rfl, h⟩
  · exact h.elim
theorem o_sL_of {i nx : Nat} {C : pt_C} {L : pt_L} {S : pt_S} {m : pt_M} {K : pt_K} {Q : pt_Q} (h : o_sL i nx C L S m K Q) : ∃ (x : Int64) (S2 : pt_S), S = zL x :: S2 ∧ (K nx (pt_putL L i (zL x)) S2 m) := by
  unfold o_sL at h
  split at h
  · exact ⟨_, _, rfl, h⟩
  · exact h.elim
theorem o_sR_of {i nx : Nat} {C : pt_C} {L : pt_L} {S : pt_S} {m : pt_M} {K : pt_K} {Q : pt_Q} (h : o_sR i nx C L S m K Q) : ∃ (t o : Nat) (S2 : pt_S), S = zR t o :: S2 ∧ (cond (Nat.beq t 22) False (K nx (pt_put L i (zR t o)) S2 m)) := by
  unfold o_sR at h
  split at h
  · exact ⟨_, _, _, rfl, h⟩
  · exact h.elim
theorem o_gf_of {t k nx : Nat} {C : pt_C} {L : pt_L} {S : pt_S} {m : pt_M} {K : pt_K} {Q : pt_Q} (h : o_gf t k nx C L S m K Q) : ∃ (t1 o : Nat) (S2 : pt_S), S = zR t1 o :: S2 ∧ (cond (Nat.beq t1 t) (K nx L (pt_gv t o k m :: S2) m) False) := by
  unfold o_gf at h
  split at h
  · exact ⟨_, _, _, rfl, h⟩
  · exact h.elim
theorem o_pf_of {t k nx : Nat} {C : pt_C} {L : pt_L} {S : pt_S} {m : pt_M} {K : pt_K} {Q : pt_Q} (h : o_pf t k nx C L S m K Q) : ∃ (x : Int32) (t1 o : Nat) (S2 : pt_S), S = zI x :: zR t1 o :: S2 ∧ (cond (Nat.beq t1 t) (K nx L S2 (st m o k x)) False) := by
  unfold o_pf at h
  split at h
  · exact ⟨_, _, _, _, rfl, h⟩
  · exact h.elim
theorem o_pz_of {t k nx : Nat} {C : pt_C} {L : pt_L} {S : pt_S} {m : pt_M} {K : pt_K} {Q : pt_Q} (h : o_pz t k nx C L S m K Q) : ∃ (x : Int32) (t1 o : Nat) (S2 : pt_S), S = zI x :: zR t1 o :: S2 ∧ (cond (Nat.beq t1 t) ((x = 0 ∨ x = 1) ∧ K nx L S2 (st m o k x)) False) := by
  unfold o_pz at h
  split at h
  · exact ⟨_, _, _, _, rfl, h⟩
  · exact h.elim
theorem o_tv_of {nx : Nat} {C : pt_C} {L : pt_L} {S : pt_S} {m : pt_M} {K : pt_K} {Q : pt_Q} (h : o_tv nx C L S m K Q) : ∃ (t o : Nat) (S2 : pt_S), S = zR t o :: S2 ∧ (cond (Nat.beq t 12) (K nx L (zR 13 o :: S2) m) False) := by
  unfold o_tv at h
  split at h
  · exact ⟨_, _, _, rfl, h⟩
  · exact h.elim
theorem o_tc_of {nx : Nat} {C : pt_C} {L : pt_L} {S : pt_S} {m : pt_M} {K : pt_K} {Q : pt_Q} (h : o_tc nx C L S m K Q) : ∃ (t o : Nat) (S2 : pt_S), S = zR t o :: S2 ∧ (cond (Nat.beq t 12) (K nx L (zI 0 :: S2) m) False) := by
  unfold o_tc at h
  split at h
  · exact ⟨_, _, _, rfl, h⟩
  · exact h.elim
theorem o_ald_of {nx : Nat} {C : pt_C} {L : pt_L} {S : pt_S} {m : pt_M} {K : pt_K} {Q : pt_Q} (h : o_ald nx C L S m K Q) : ∃ (i : Int32) (t o : Nat) (S2 : pt_S), S = zI i :: zR t o :: S2 ∧ (cond (Nat.ble 1000 t) (∃ j, i = nI j ∧ j < t - 1000 ∧ K nx L (zI (m o j) :: S2) m) (cond (Nat.beq t 20) (∃ j, i = nI j ∧ j < 6 ∧ K nx L (zI (pt_tab o j) :: S2) m) False)) := by
  unfold o_ald at h
  split at h
  · exact ⟨_, _, _, _, rfl, h⟩
  · exact h.elim
theorem o_xld_of {xl : Nat} {xs : Nat → Int32} {nx : Nat} {C : pt_C} {L : pt_L} {S : pt_S} {m : pt_M} {K : pt_K} {Q : pt_Q} (h : o_xld xl xs nx C L S m K Q) : ∃ (i : Int32) (t o : Nat) (S2 : pt_S), S = zI i :: zR t o :: S2 ∧ (cond (Nat.beq t 21) (∃ j, i = nI j ∧ j < xl ∧ K nx L (zI (xs j) :: S2) m) False) := by
  unfold o_xld at h
  split at h
  · exact ⟨_, _, _, _, rfl, h⟩
  · exact h.elim
theorem o_ast_of {nx : Nat} {C : pt_C} {L : pt_L} {S : pt_S} {m : pt_M} {K : pt_K} {Q : pt_Q} (h : o_ast nx C L S m K Q) : ∃ (x i : Int32) (t o : Nat) (S2 : pt_S), S = zI x :: zI i :: zR t o :: S2 ∧ (cond (Nat.ble 1000 t) (∃ j, i = nI j ∧ j < t - 1000 ∧ K nx L S2 (st m o j x)) False) := by
  unfold o_ast at h
  split at h
  · exact ⟨_, _, _, _, _, rfl, h⟩
  · exact h.elim
theorem o_zld_of {nx : Nat} {C : pt_C} {L : pt_L} {S : pt_S} {m : pt_M} {K : pt_K} {Q : pt_Q} (h : o_zld nx C L S m K Q) : ∃ (i : Int32) (t o : Nat) (S2 : pt_S), S = zI i :: zR t o :: S2 ∧ (cond (Nat.beq t 11) (∃ j, i = nI j ∧ j < 2 ∧ K nx L (zI (m o j) :: S2) m) (cond (Nat.beq t 13) (∃ j, i = nI j ∧ j < pt_len.getD o 0 ∧ K nx L (zI ((pt_byt.getD o []).getD j 0) :: S2) m) False)) := by
  unfold o_zld at h
  split at h
  · exact ⟨_, _, _, _, rfl, h⟩
  · exact h.elim
theorem o_zst_of {nx : Nat} {C : pt_C} {L : pt_L} {S : pt_S} {m : pt_M} {K : pt_K} {Q : pt_Q} (h : o_zst nx C L S m K Q) : ∃ (x i : Int32) (t o : Nat) (S2 : pt_S), S = zI x :: zI i :: zR t o :: S2 ∧ (cond (Nat.beq t 11) (∃ j, i = nI j ∧ j < 2 ∧ (x = 0 ∨ x = 1) ∧ K nx L S2 (st m o j x)) False) := by
  unfold o_zst at h
  split at h
  · exact ⟨_, _, _, _, _, rfl, h⟩
  · exact h.elim
theorem o_len_of {nx : Nat} {C : pt_C} {L : pt_L} {S : pt_S} {m : pt_M} {K : pt_K} {Q : pt_Q} (h : o_len nx C L S m K Q) : ∃ (t o : Nat) (S2 : pt_S), S = zR t o :: S2 ∧ (cond (Nat.ble 1000 t) (K nx L (zI (nI (t - 1000)) :: S2) m) (cond (Nat.beq t 13) (K nx L (zI (nI (pt_len.getD o 0)) :: S2) m) (cond (Nat.beq t 20) (K nx L (zI 6 :: S2) m) False))) := by
  unfold o_len at h
  split at h
  · exact ⟨_, _, _, rfl, h⟩
  · exact h.elim
theorem o_xlen_of {xl nx : Nat} {C : pt_C} {L : pt_L} {S : pt_S} {m : pt_M} {K : pt_K} {Q : pt_Q} (h : o_xlen xl nx C L S m K Q) : ∃ (t o : Nat) (S2 : pt_S), S = zR t o :: S2 ∧ (cond (Nat.beq t 21) (K nx L (zI (nI xl) :: S2) m) False) := by
  unfold o_xlen at h
  split at h
  · exact ⟨_, _, _, rfl, h⟩
  · exact h.elim
theorem o_rld_of {nx : Nat} {C : pt_C} {L : pt_L} {S : pt_S} {m : pt_M} {K : pt_K} {Q : pt_Q} (h : o_rld nx C L S m K Q) : ∃ (i : Int32) (t o : Nat) (S2 : pt_S), S = zI i :: zR t o :: S2 ∧ (cond (Nat.beq t 8) (∃ j, i = nI j ∧ j < 8 ∧ K nx L (zR 3 (o + 1 + 2 * j) :: S2) m) (cond (Nat.beq t 9) (∃ j, i = nI j ∧ j < 24 ∧ K nx L (zR 4 (o + 1 + 4 * j) :: S2) m) (cond (Nat.beq t 10) (∃ j, i = nI j ∧ j < 2 ∧ K nx L (zR 4 (o + 1 + 4 * j) :: S2) m) False))) := by
  unfold o_rld at h
  split at h
  · exact ⟨_, _, _, _, rfl, h⟩
  · exact h.elim
theorem o_cpy_of {nx : Nat} {C : pt_C} {L : pt_L} {S : pt_S} {m : pt_M} {K : pt_K} {Q : pt_Q} (h : o_cpy nx C L S m K Q) : ∃ (n dp : Int32) (t2 o2 : Nat) (sp : Int32) (t1 o1 : Nat) (S2 : pt_S), S = zI n :: zI dp :: zR t2 o2 :: zI sp :: zR t1 o1 :: S2 ∧ (cond (Nat.ble 1000 t1 && Nat.ble 1000 t2 && Nat.ble (pt_sz S2) 8) (∃ a b k, sp = nI a ∧ dp = nI b ∧ n = nI k ∧ a + k ≤ t1 - 1000 ∧ b + k ≤ t2 - 1000 ∧ K nx L S2 (cpm m o1 a o2 b k)) False) := by
  unfold o_cpy at h
  split at h
  · exact ⟨_, _, _, _, _, _, _, _, rfl, h⟩
  · exact h.elim
theorem o_tsw_of {lo : Int} {d : Nat} {ts : List Nat} {C : pt_C} {L : pt_L} {S : pt_S} {m : pt_M} {K : pt_K} {Q : pt_Q} (h : o_tsw lo d ts C L S m K Q) : ∃ (x : Int32) (S2 : pt_S), S = zI x :: S2 ∧ (K (pt_tsw lo d ts x) L S2 m) := by
  unfold o_tsw at h
  split at h
  · exact ⟨_, _, rfl, h⟩
  · exact h.elim
theorem o_lsw_of {d : Nat} {ts : List (Int × Nat)} {C : pt_C} {L : pt_L} {S : pt_S} {m : pt_M} {K : pt_K} {Q : pt_Q} (h : o_lsw d ts C L S m K Q) : ∃ (x : Int32) (S2 : pt_S), S = zI x :: S2 ∧ (K (pt_lsw d ts x.toInt) L S2 m) := by
  unfold o_lsw at h
  split at h
  · exact ⟨_, _, rfl, h⟩
  · exact h.elim
set_option maxHeartbeats 400000 in
theorem ok_iadd {cc : ByteArray} {own : String} {nL : Nat} {rt : Option FieldType} {pc nx : Nat} (hd : decode cc pc = .ok (.iadd, 1)) (en : pc + 1 = nx) : pt_OK cc own nL rt pc (o_b2 (fun x y => x + y) nx) := by
  intro G p l e R s m args below meth c cells slots Qw d C X IH RM K Q hK hQ L S mm h hs hl hn ls H locs hls hP hS
  subst en
  obtain ⟨x, y, S2, rfl, h⟩ := o_b2_of h
  exact lv_iadd X.1 X.2.1 hd (hK _ _ _ _ h (pt_okS_cons trivial (pt_okS_tl (pt_okS_tl hs))) hl hn ls H locs hls hP hS)
set_option maxHeartbeats 400000 in
theorem ok_isub {cc : ByteArray} {own : String} {nL : Nat} {rt : Option FieldType} {pc nx : Nat} (hd : decode cc pc = .ok (.isub, 1)) (en : pc + 1 = nx) : pt_OK cc own nL rt pc (o_b2 (fun x y => x - y) nx) := by
  intro G p l e R s m args below meth c cells slots Qw d C X IH RM K Q hK hQ L S mm h hs hl hn ls H locs hls hP hS
  subst en
  obtain ⟨x, y, S2, rfl, h⟩ := o_b2_of h
  exact lv_isub X.1 X.2.1 hd (hK _ _ _ _ h (pt_okS_cons trivial (pt_okS_tl (pt_okS_tl hs))) hl hn ls H locs hls hP hS)
set_option maxHeartbeats 400000 in
theorem ok_imul {cc : ByteArray} {own : String} {nL : Nat} {rt : Option FieldType} {pc nx : Nat} (hd : decode cc pc = .ok (.imul, 1)) (en : pc + 1 = nx) : pt_OK cc own nL rt pc (o_b2 (fun x y => x * y) nx) := by
  intro G p l e R s m args below meth c cells slots Qw d C X IH RM K Q hK hQ L S mm h hs hl hn ls H locs hls hP hS
  subst en
  obtain ⟨x, y, S2, rfl, h⟩ := o_b2_of h
  exact lv_imul X.1 X.2.1 hd (hK _ _ _ _ h (pt_okS_cons trivial (pt_okS_tl (pt_okS_tl hs))) hl hn ls H locs hls hP hS)
set_option maxHeartbeats 400000 in
theorem ok_iand {cc : ByteArray} {own : String} {nL : Nat} {rt : Option FieldType} {pc nx : Nat} (hd : decode cc pc = .ok (.iand, 1)) (en : pc + 1 = nx) : pt_OK cc own nL rt pc (o_b2 (fun x y => x &&& y) nx) := by
  intro G p l e R s m args below meth c cells slots Qw d C X IH RM K Q hK hQ L S mm h hs hl hn ls H locs hls hP hS
  subst en
  obtain ⟨x, y, S2, rfl, h⟩ := o_b2_of h
  exact lv_iand X.1 X.2.1 hd (hK _ _ _ _ h (pt_okS_cons trivial (pt_okS_tl (pt_okS_tl hs))) hl hn ls H locs hls hP hS)
set_option maxHeartbeats 400000 in
theorem ok_ior {cc : ByteArray} {own : String} {nL : Nat} {rt : Option FieldType} {pc nx : Nat} (hd : decode cc pc = .ok (.ior, 1)) (en : pc + 1 = nx) : pt_OK cc own nL rt pc (o_b2 (fun x y => x ||| y) nx) := by
  intro G p l e R s m args below meth c cells slots Qw d C X IH RM K Q hK hQ L S mm h hs hl hn ls H locs hls hP hS
  subst en
  obtain ⟨x, y, S2, rfl, h⟩ := o_b2_of h
  exact lv_ior X.1 X.2.1 hd (hK _ _ _ _ h (pt_okS_cons trivial (pt_okS_tl (pt_okS_tl hs))) hl hn ls H locs hls hP hS)
set_option maxHeartbeats 400000 in
theorem ok_ishl {cc : ByteArray} {own : String} {nL : Nat} {rt : Option FieldType} {pc nx : Nat} (hd : decode cc pc = .ok (.ishl, 1)) (en : pc + 1 = nx) : pt_OK cc own nL rt pc (o_b2 (fun x y => x <<< (y &&& 31)) nx) := by
  intro G p l e R s m args below meth c cells slots Qw d C X IH RM K Q hK hQ L S mm h hs hl hn ls H locs hls hP hS
  subst en
  obtain ⟨x, y, S2, rfl, h⟩ := o_b2_of h
  exact lv_ishl X.1 X.2.1 hd (hK _ _ _ _ h (pt_okS_cons trivial (pt_okS_tl (pt_okS_tl hs))) hl hn ls H locs hls hP hS)
set_option maxHeartbeats 400000 in
theorem ok_ishr {cc : ByteArray} {own : String} {nL : Nat} {rt : Option FieldType} {pc nx : Nat} (hd : decode cc pc = .ok (.ishr, 1)) (en : pc + 1 = nx) : pt_OK cc own nL rt pc (o_b2 (fun x y => x >>> (y &&& 31)) nx) := by
  intro G p l e R s m args below meth c cells slots Qw d C X IH RM K Q hK hQ L S mm h hs hl hn ls H locs hls hP hS
  subst en
  obtain ⟨x, y, S2, rfl, h⟩ := o_b2_of h
  exact lv_ishr X.1 X.2.1 hd (hK _ _ _ _ h (pt_okS_cons trivial (pt_okS_tl (pt_okS_tl hs))) hl hn ls H locs hls hP hS)
set_option maxHeartbeats 400000 in
theorem ok_idiv {cc : ByteArray} {own : String} {nL : Nat} {rt : Option FieldType} {pc nx : Nat} (hd : decode cc pc = .ok (.idiv, 1)) (en : pc + 1 = nx) : pt_OK cc own nL rt pc (o_bd (fun x y => x / y) nx) := by
  intro G p l e R s m args below meth c cells slots Qw d C X IH RM K Q hK hQ L S mm h hs hl hn ls H locs hls hP hS
  subst en
  obtain ⟨x, y, S2, rfl, hy, h⟩ := o_bd_of h
  exact lv_idiv X.1 X.2.1 hd hy (hK _ _ _ _ h (pt_okS_cons trivial (pt_okS_tl (pt_okS_tl hs))) hl hn ls H locs hls hP hS)
set_option maxHeartbeats 400000 in
theorem ok_irem {cc : ByteArray} {own : String} {nL : Nat} {rt : Option FieldType} {pc nx : Nat} (hd : decode cc pc = .ok (.irem, 1)) (en : pc + 1 = nx) : pt_OK cc own nL rt pc (o_bd (fun x y => x - x / y * y) nx) := by
  intro G p l e R s m args below meth c cells slots Qw d C X IH RM K Q hK hQ L S mm h hs hl hn ls H locs hls hP hS
  subst en
  obtain ⟨x, y, S2, rfl, hy, h⟩ := o_bd_of h
  exact lv_irem X.1 X.2.1 hd hy (hK _ _ _ _ h (pt_okS_cons trivial (pt_okS_tl (pt_okS_tl hs))) hl hn ls H locs hls hP hS)
set_option maxHeartbeats 400000 in
theorem ok_ineg {cc : ByteArray} {own : String} {nL : Nat} {rt : Option FieldType} {pc nx : Nat} (hd : decode cc pc = .ok (.ineg, 1)) (en : pc + 1 = nx) : pt_OK cc own nL rt pc (o_u1 (fun x => -x) nx) := by
  intro G p l e R s m args below meth c cells slots Qw d C X IH RM K Q hK hQ L S mm h hs hl hn ls H locs hls hP hS
  subst en
  obtain ⟨x, S2, rfl, h⟩ := o_u1_of h
  exact lv_ineg X.1 X.2.1 hd (hK _ _ _ _ h (pt_okS_cons trivial (pt_okS_tl hs)) hl hn ls H locs hls hP hS)
set_option maxHeartbeats 400000 in
theorem ok_i2b {cc : ByteArray} {own : String} {nL : Nat} {rt : Option FieldType} {pc nx : Nat} (hd : decode cc pc = .ok (.i2b, 1)) (en : pc + 1 = nx) : pt_OK cc own nL rt pc (o_u1 (fun x => x.toInt8.toInt32) nx) := by
  intro G p l e R s m args below meth c cells slots Qw d C X IH RM K Q hK hQ L S mm h hs hl hn ls H locs hls hP hS
  subst en
  obtain ⟨x, S2, rfl, h⟩ := o_u1_of h
  exact lv_i2b X.1 X.2.1 hd rfl (hK _ _ _ _ h (pt_okS_cons trivial (pt_okS_tl hs)) hl hn ls H locs hls hP hS)
set_option maxHeartbeats 400000 in
theorem ok_i2s {cc : ByteArray} {own : String} {nL : Nat} {rt : Option FieldType} {pc nx : Nat} (hd : decode cc pc = .ok (.i2s, 1)) (en : pc + 1 = nx) : pt_OK cc own nL rt pc (o_u1 (fun x => x.toInt16.toInt32) nx) := by
  intro G p l e R s m args below meth c cells slots Qw d C X IH RM K Q hK hQ L S mm h hs hl hn ls H locs hls hP hS
  subst en
  obtain ⟨x, S2, rfl, h⟩ := o_u1_of h
  exact lv_i2s X.1 X.2.1 hd rfl (hK _ _ _ _ h (pt_okS_cons trivial (pt_okS_tl hs)) hl hn ls H locs hls hP hS)
set_option maxHeartbeats 400000 in
theorem ok_i2c {cc : ByteArray} {own : String} {nL : Nat} {rt : Option FieldType} {pc nx : Nat} (hd : decode cc pc = .ok (.i2c, 1)) (en : pc + 1 = nx) : pt_OK cc own nL rt pc (o_u1 (fun x => (x.toUInt32 % 65536).toInt32) nx) := by
  intro G p l e R s m args below meth c cells slots Qw d C X IH RM K Q hK hQ L S mm h hs hl hn ls H locs hls hP hS
  subst en
  obtain ⟨x, S2, rfl, h⟩ := o_u1_of h
  exact lv_i2c X.1 X.2.1 hd rfl (hK _ _ _ _ h (pt_okS_cons trivial (pt_okS_tl hs)) hl hn ls H locs hls hP hS)
set_option maxHeartbeats 400000 in
theorem ok_i2l {cc : ByteArray} {own : String} {nL : Nat} {rt : Option FieldType} {pc nx : Nat} (hd : decode cc pc = .ok (.i2l, 1)) (en : pc + 1 = nx) : pt_OK cc own nL rt pc (o_i2l nx) := by
  intro G p l e R s m args below meth c cells slots Qw d C X IH RM K Q hK hQ L S mm h hs hl hn ls H locs hls hP hS
  subst en
  obtain ⟨x, S2, rfl, h⟩ := o_i2l_of h
  exact lv_i2l X.1 X.2.1 hd rfl (hK _ _ _ _ h (pt_okS_cons trivial (pt_okS_tl hs)) hl hn ls H locs hls hP hS)
set_option maxHeartbeats 400000 in
theorem ok_l2i {cc : ByteArray} {own : String} {nL : Nat} {rt : Option FieldType} {pc nx : Nat} (hd : decode cc pc = .ok (.l2i, 1)) (en : pc + 1 = nx) : pt_OK cc own nL rt pc (o_l2i nx) := by
  intro G p l e R s m args below meth c cells slots Qw d C X IH RM K Q hK hQ L S mm h hs hl hn ls H locs hls hP hS
  subst en
  obtain ⟨x, S2, rfl, h⟩ := o_l2i_of h
  exact lv_l2i X.1 X.2.1 hd rfl (hK _ _ _ _ h (pt_okS_cons trivial (pt_okS_tl hs)) hl hn ls H locs hls hP hS)
set_option maxHeartbeats 400000 in
theorem ok_ladd {cc : ByteArray} {own : String} {nL : Nat} {rt : Option FieldType} {pc nx : Nat} (hd : decode cc pc = .ok (.ladd, 1)) (en : pc + 1 = nx) : pt_OK cc own nL rt pc (o_l2 (fun x y => x + y) nx) := by
  intro G p l e R s m args below meth c cells slots Qw d C X IH RM K Q hK hQ L S mm h hs hl hn ls H locs hls hP hS
  subst en
  obtain ⟨x, y, S2, rfl, h⟩ := o_l2_of h
  exact lv_ladd X.1 X.2.1 hd (hK _ _ _ _ h (pt_okS_cons trivial (pt_okS_tl (pt_okS_tl hs))) hl hn ls H locs hls hP hS)
set_option maxHeartbeats 400000 in
theorem ok_land {cc : ByteArray} {own : String} {nL : Nat} {rt : Option FieldType} {pc nx : Nat} (hd : decode cc pc = .ok (.land, 1)) (en : pc + 1 = nx) : pt_OK cc own nL rt pc (o_l2 (fun x y => x &&& y) nx) := by
  intro G p l e R s m args below meth c cells slots Qw d C X IH RM K Q hK hQ L S mm h hs hl hn ls H locs hls hP hS
  subst en
  obtain ⟨x, y, S2, rfl, h⟩ := o_l2_of h
  exact lv_land X.1 X.2.1 hd (hK _ _ _ _ h (pt_okS_cons trivial (pt_okS_tl (pt_okS_tl hs))) hl hn ls H locs hls hP hS)
set_option maxHeartbeats 400000 in
theorem ok_lor {cc : ByteArray} {own : String} {nL : Nat} {rt : Option FieldType} {pc nx : Nat} (hd : decode cc pc = .ok (.lor, 1)) (en : pc + 1 = nx) : pt_OK cc own nL rt pc (o_l2 (fun x y => x ||| y) nx) := by
  intro G p l e R s m args below meth c cells slots Qw d C X IH RM K Q hK hQ L S mm h hs hl hn ls H locs hls hP hS
  subst en
  obtain ⟨x, y, S2, rfl, h⟩ := o_l2_of h
  exact lv_lor X.1 X.2.1 hd (hK _ _ _ _ h (pt_okS_cons trivial (pt_okS_tl (pt_okS_tl hs))) hl hn ls H locs hls hP hS)
set_option maxHeartbeats 400000 in
theorem ok_lshl {cc : ByteArray} {own : String} {nL : Nat} {rt : Option FieldType} {pc nx : Nat} (hd : decode cc pc = .ok (.lshl, 1)) (en : pc + 1 = nx) : pt_OK cc own nL rt pc (o_lsh (fun x y => x <<< (y.toInt64 &&& 63)) nx) := by
  intro G p l e R s m args below meth c cells slots Qw d C X IH RM K Q hK hQ L S mm h hs hl hn ls H locs hls hP hS
  subst en
  obtain ⟨x, y, S2, rfl, h⟩ := o_lsh_of h
  exact lv_lshl X.1 X.2.1 hd rfl (hK _ _ _ _ h (pt_okS_cons trivial (pt_okS_tl (pt_okS_tl hs))) hl hn ls H locs hls hP hS)
set_option maxHeartbeats 400000 in
theorem ok_lshr {cc : ByteArray} {own : String} {nL : Nat} {rt : Option FieldType} {pc nx : Nat} (hd : decode cc pc = .ok (.lshr, 1)) (en : pc + 1 = nx) : pt_OK cc own nL rt pc (o_lsh (fun x y => x >>> (y.toInt64 &&& 63)) nx) := by
  intro G p l e R s m args below meth c cells slots Qw d C X IH RM K Q hK hQ L S mm h hs hl hn ls H locs hls hP hS
  subst en
  obtain ⟨x, y, S2, rfl, h⟩ := o_lsh_of h
  exact lv_lshr X.1 X.2.1 hd rfl (hK _ _ _ _ h (pt_okS_cons trivial (pt_okS_tl (pt_okS_tl hs))) hl hn ls H locs hls hP hS)
set_option maxHeartbeats 400000 in
theorem ok_lushr {cc : ByteArray} {own : String} {nL : Nat} {rt : Option FieldType} {pc nx : Nat} (hd : decode cc pc = .ok (.lushr, 1)) (en : pc + 1 = nx) : pt_OK cc own nL rt pc (o_lsh (fun x y => (x.toUInt64 >>> (y.toInt64.toUInt64 &&& Int64.toUInt64 63)).toInt64) nx) := by
  intro G p l e R s m args below meth c cells slots Qw d C X IH RM K Q hK hQ L S mm h hs hl hn ls H locs hls hP hS
  subst en
  obtain ⟨x, y, S2, rfl, h⟩ := o_lsh_of h
  exact lv_lushr X.1 X.2.1 hd rfl (hK _ _ _ _ h (pt_okS_cons trivial (pt_okS_tl (pt_okS_tl hs))) hl hn ls H locs hls hP hS)
set_option maxHeartbeats 400000 in
theorem ok_lcmp {cc : ByteArray} {own : String} {nL : Nat} {rt : Option FieldType} {pc nx : Nat} (hd : decode cc pc = .ok (.lcmp, 1)) (en : pc + 1 = nx) : pt_OK cc own nL rt pc (o_lcmp nx) := by
  intro G p l e R s m args below meth c cells slots Qw d C X IH RM K Q hK hQ L S mm h hs hl hn ls H locs hls hP hS
  subst en
  obtain ⟨x, y, S2, rfl, h⟩ := o_lcmp_of h
  exact W.lcmp X.1 X.2.1 hd (hK _ _ _ _ h (pt_okS_cons trivial (pt_okS_tl (pt_okS_tl hs))) hl hn ls H locs hls hP hS)
set_option maxHeartbeats 400000 in
theorem ok_if_eq {cc : ByteArray} {own : String} {nL : Nat} {rt : Option FieldType} {pc nx : Nat} {tg : Nat} {off : Int} (hd : decode cc pc = .ok (.ifCond .eq off, 3)) (et : (pc : Int) + off = (tg : Int)) (en : pc + 3 = nx) : pt_OK cc own nL rt pc (o_if (fun x => x = 0) tg nx) := by
  intro G p l e R s m args below meth c cells slots Qw d C X IH RM K Q hK hQ L S mm h hs hl hn ls H locs hls hP hS
  subst en
  obtain ⟨x, S2, rfl, h1, h2⟩ := o_if_of h
  exact lv_if_eq X.1 X.2.1 hd et (fun q => hK _ _ _ _ (h1 q) (pt_okS_tl hs) hl hn ls H locs hls hP hS) (fun q => hK _ _ _ _ (h2 q) (pt_okS_tl hs) hl hn ls H locs hls hP hS)
set_option maxHeartbeats 400000 in
theorem ok_icmp_eq {cc : ByteArray} {own : String} {nL : Nat} {rt : Option FieldType} {pc nx : Nat} {tg : Nat} {off : Int} (hd : decode cc pc = .ok (.if_icmp .eq off, 3)) (et : (pc : Int) + off = (tg : Int)) (en : pc + 3 = nx) : pt_OK cc own nL rt pc (o_if2 (fun x y => x = y) tg nx) := by
  intro G p l e R s m args below meth c cells slots Qw d C X IH RM K Q hK hQ L S mm h hs hl hn ls H locs hls hP hS
  subst en
  obtain ⟨x, y, S2, rfl, h1, h2⟩ := o_if2_of h
  exact lv_icmp_eq X.1 X.2.1 hd et (fun q => hK _ _ _ _ (h1 q) (pt_okS_tl (pt_okS_tl hs)) hl hn ls H locs hls hP hS) (fun q => hK _ _ _ _ (h2 q) (pt_okS_tl (pt_okS_tl hs)) hl hn ls H locs hls hP hS)
set_option maxHeartbeats 400000 in
theorem ok_if_ne {cc : ByteArray} {own : String} {nL : Nat} {rt : Option FieldType} {pc nx : Nat} {tg : Nat} {off : Int} (hd : decode cc pc = .ok (.ifCond .ne off, 3)) (et : (pc : Int) + off = (tg : Int)) (en : pc + 3 = nx) : pt_OK cc own nL rt pc (o_if (fun x => x = 0) nx tg) := by
  intro G p l e R s m args below meth c cells slots Qw d C X IH RM K Q hK hQ L S mm h hs hl hn ls H locs hls hP hS
  subst en
  obtain ⟨x, S2, rfl, h1, h2⟩ := o_if_of h
  exact lv_if_ne X.1 X.2.1 hd et (fun q => hK _ _ _ _ (h2 q) (pt_okS_tl hs) hl hn ls H locs hls hP hS) (fun q => hK _ _ _ _ (h1 q) (pt_okS_tl hs) hl hn ls H locs hls hP hS)
set_option maxHeartbeats 400000 in
theorem ok_icmp_ne {cc : ByteArray} {own : String} {nL : Nat} {rt : Option FieldType} {pc nx : Nat} {tg : Nat} {off : Int} (hd : decode cc pc = .ok (.if_icmp .ne off, 3)) (et : (pc : Int) + off = (tg : Int)) (en : pc + 3 = nx) : pt_OK cc own nL rt pc (o_if2 (fun x y => x = y) nx tg) := by
  intro G p l e R s m args below meth c cells slots Qw d C X IH RM K Q hK hQ L S mm h hs hl hn ls H locs hls hP hS
  subst en
  obtain ⟨x, y, S2, rfl, h1, h2⟩ := o_if2_of h
  exact lv_icmp_ne X.1 X.2.1 hd et (fun q => hK _ _ _ _ (h2 q) (pt_okS_tl (pt_okS_tl hs)) hl hn ls H locs hls hP hS) (fun q => hK _ _ _ _ (h1 q) (pt_okS_tl (pt_okS_tl hs)) hl hn ls H locs hls hP hS)
set_option maxHeartbeats 400000 in
theorem ok_if_lt {cc : ByteArray} {own : String} {nL : Nat} {rt : Option FieldType} {pc nx : Nat} {tg : Nat} {off : Int} (hd : decode cc pc = .ok (.ifCond .lt off, 3)) (et : (pc : Int) + off = (tg : Int)) (en : pc + 3 = nx) : pt_OK cc own nL rt pc (o_if (fun x => x < 0) tg nx) := by
  intro G p l e R s m args below meth c cells slots Qw d C X IH RM K Q hK hQ L S mm h hs hl hn ls H locs hls hP hS
  subst en
  obtain ⟨x, S2, rfl, h1, h2⟩ := o_if_of h
  exact lv_if_lt X.1 X.2.1 hd et (fun q => hK _ _ _ _ (h1 q) (pt_okS_tl hs) hl hn ls H locs hls hP hS) (fun q => hK _ _ _ _ (h2 q) (pt_okS_tl hs) hl hn ls H locs hls hP hS)
set_option maxHeartbeats 400000 in
theorem ok_icmp_lt {cc : ByteArray} {own : String} {nL : Nat} {rt : Option FieldType} {pc nx : Nat} {tg : Nat} {off : Int} (hd : decode cc pc = .ok (.if_icmp .lt off, 3)) (et : (pc : Int) + off = (tg : Int)) (en : pc + 3 = nx) : pt_OK cc own nL rt pc (o_if2 (fun x y => x < y) tg nx) := by
  intro G p l e R s m args below meth c cells slots Qw d C X IH RM K Q hK hQ L S mm h hs hl hn ls H locs hls hP hS
  subst en
  obtain ⟨x, y, S2, rfl, h1, h2⟩ := o_if2_of h
  exact lv_icmp_lt X.1 X.2.1 hd et (fun q => hK _ _ _ _ (h1 q) (pt_okS_tl (pt_okS_tl hs)) hl hn ls H locs hls hP hS) (fun q => hK _ _ _ _ (h2 q) (pt_okS_tl (pt_okS_tl hs)) hl hn ls H locs hls hP hS)
set_option maxHeartbeats 400000 in
theorem ok_if_ge {cc : ByteArray} {own : String} {nL : Nat} {rt : Option FieldType} {pc nx : Nat} {tg : Nat} {off : Int} (hd : decode cc pc = .ok (.ifCond .ge off, 3)) (et : (pc : Int) + off = (tg : Int)) (en : pc + 3 = nx) : pt_OK cc own nL rt pc (o_if (fun x => 0 ≤ x) tg nx) := by
  intro G p l e R s m args below meth c cells slots Qw d C X IH RM K Q hK hQ L S mm h hs hl hn ls H locs hls hP hS
  subst en
  obtain ⟨x, S2, rfl, h1, h2⟩ := o_if_of h
  exact lv_if_ge X.1 X.2.1 hd et (fun q => hK _ _ _ _ (h1 q) (pt_okS_tl hs) hl hn ls H locs hls hP hS) (fun q => hK _ _ _ _ (h2 q) (pt_okS_tl hs) hl hn ls H locs hls hP hS)
set_option maxHeartbeats 400000 in
theorem ok_icmp_ge {cc : ByteArray} {own : String} {nL : Nat} {rt : Option FieldType} {pc nx : Nat} {tg : Nat} {off : Int} (hd : decode cc pc = .ok (.if_icmp .ge off, 3)) (et : (pc : Int) + off = (tg : Int)) (en : pc + 3 = nx) : pt_OK cc own nL rt pc (o_if2 (fun x y => y ≤ x) tg nx) := by
  intro G p l e R s m args below meth c cells slots Qw d C X IH RM K Q hK hQ L S mm h hs hl hn ls H locs hls hP hS
  subst en
  obtain ⟨x, y, S2, rfl, h1, h2⟩ := o_if2_of h
  exact lv_icmp_ge X.1 X.2.1 hd et (fun q => hK _ _ _ _ (h1 q) (pt_okS_tl (pt_okS_tl hs)) hl hn ls H locs hls hP hS) (fun q => hK _ _ _ _ (h2 q) (pt_okS_tl (pt_okS_tl hs)) hl hn ls H locs hls hP hS)
set_option maxHeartbeats 400000 in
theorem ok_if_gt {cc : ByteArray} {own : String} {nL : Nat} {rt : Option FieldType} {pc nx : Nat} {tg : Nat} {off : Int} (hd : decode cc pc = .ok (.ifCond .gt off, 3)) (et : (pc : Int) + off = (tg : Int)) (en : pc + 3 = nx) : pt_OK cc own nL rt pc (o_if (fun x => 0 < x) tg nx) := by
  intro G p l e R s m args below meth c cells slots Qw d C X IH RM K Q hK hQ L S mm h hs hl hn ls H locs hls hP hS
  subst en
  obtain ⟨x, S2, rfl, h1, h2⟩ := o_if_of h
  exact lv_if_gt X.1 X.2.1 hd et (fun q => hK _ _ _ _ (h1 q) (pt_okS_tl hs) hl hn ls H locs hls hP hS) (fun q => hK _ _ _ _ (h2 q) (pt_okS_tl hs) hl hn ls H locs hls hP hS)
set_option maxHeartbeats 400000 in
theorem ok_icmp_gt {cc : ByteArray} {own : String} {nL : Nat} {rt : Option FieldType} {pc nx : Nat} {tg : Nat} {off : Int} (hd : decode cc pc = .ok (.if_icmp .gt off, 3)) (et : (pc : Int) + off = (tg : Int)) (en : pc + 3 = nx) : pt_OK cc own nL rt pc (o_if2 (fun x y => y < x) tg nx) := by
  intro G p l e R s m args below meth c cells slots Qw d C X IH RM K Q hK hQ L S mm h hs hl hn ls H locs hls hP hS
  subst en
  obtain ⟨x, y, S2, rfl, h1, h2⟩ := o_if2_of h
  exact lv_icmp_gt X.1 X.2.1 hd et (fun q => hK _ _ _ _ (h1 q) (pt_okS_tl (pt_okS_tl hs)) hl hn ls H locs hls hP hS) (fun q => hK _ _ _ _ (h2 q) (pt_okS_tl (pt_okS_tl hs)) hl hn ls H locs hls hP hS)
set_option maxHeartbeats 400000 in
theorem ok_if_le {cc : ByteArray} {own : String} {nL : Nat} {rt : Option FieldType} {pc nx : Nat} {tg : Nat} {off : Int} (hd : decode cc pc = .ok (.ifCond .le off, 3)) (et : (pc : Int) + off = (tg : Int)) (en : pc + 3 = nx) : pt_OK cc own nL rt pc (o_if (fun x => x ≤ 0) tg nx) := by
  intro G p l e R s m args below meth c cells slots Qw d C X IH RM K Q hK hQ L S mm h hs hl hn ls H locs hls hP hS
  subst en
  obtain ⟨x, S2, rfl, h1, h2⟩ := o_if_of h
  exact lv_if_le X.1 X.2.1 hd et (fun q => hK _ _ _ _ (h1 q) (pt_okS_tl hs) hl hn ls H locs hls hP hS) (fun q => hK _ _ _ _ (h2 q) (pt_okS_tl hs) hl hn ls H locs hls hP hS)
set_option maxHeartbeats 400000 in
theorem ok_icmp_le {cc : ByteArray} {own : String} {nL : Nat} {rt : Option FieldType} {pc nx : Nat} {tg : Nat} {off : Int} (hd : decode cc pc = .ok (.if_icmp .le off, 3)) (et : (pc : Int) + off = (tg : Int)) (en : pc + 3 = nx) : pt_OK cc own nL rt pc (o_if2 (fun x y => x ≤ y) tg nx) := by
  intro G p l e R s m args below meth c cells slots Qw d C X IH RM K Q hK hQ L S mm h hs hl hn ls H locs hls hP hS
  subst en
  obtain ⟨x, y, S2, rfl, h1, h2⟩ := o_if2_of h
  exact lv_icmp_le X.1 X.2.1 hd et (fun q => hK _ _ _ _ (h1 q) (pt_okS_tl (pt_okS_tl hs)) hl hn ls H locs hls hP hS) (fun q => hK _ _ _ _ (h2 q) (pt_okS_tl (pt_okS_tl hs)) hl hn ls H locs hls hP hS)
set_option maxHeartbeats 400000 in
theorem ok_goto {cc : ByteArray} {own : String} {nL : Nat} {rt : Option FieldType} {pc nx : Nat} {off : Int} (hd : decode cc pc = .ok (.goto off, 3)) (et : (pc : Int) + off = (nx : Int)) : pt_OK cc own nL rt pc (o_go nx) := by
  intro G p l e R s m args below meth c cells slots Qw d C X IH RM K Q hK hQ L S mm h hs hl hn ls H locs hls hP hS
  exact lv_goto X.1 X.2.1 hd et (hK _ _ _ _ h hs hl hn ls H locs hls hP hS)
set_option maxHeartbeats 400000 in
theorem ok_iconst {cc : ByteArray} {own : String} {nL : Nat} {rt : Option FieldType} {pc nx : Nat} {n : Int} {v : Int32} (hd : decode cc pc = .ok (.iconst n, 1)) (en : pc + 1 = nx) (ev : Int32.ofInt n = v) : pt_OK cc own nL rt pc (o_v (zI v) nx) := by
  intro G p l e R s m args below meth c cells slots Qw d C X IH RM K Q hK hQ L S mm h hs hl hn ls H locs hls hP hS
  subst en
  exact lv_iconst X.1 X.2.1 hd ev (hK _ _ _ _ h (pt_okS_cons trivial hs) hl hn ls H locs hls hP hS)
set_option maxHeartbeats 400000 in
theorem ok_bipush {cc : ByteArray} {own : String} {nL : Nat} {rt : Option FieldType} {pc nx : Nat} {n : Int} {v : Int32} (hd : decode cc pc = .ok (.bipush n, 2)) (en : pc + 2 = nx) (ev : (Int8.ofInt n).toInt32 = v) : pt_OK cc own nL rt pc (o_v (zI v) nx) := by
  intro G p l e R s m args below meth c cells slots Qw d C X IH RM K Q hK hQ L S mm h hs hl hn ls H locs hls hP hS
  subst en
  exact lv_bipush X.1 X.2.1 hd ev (hK _ _ _ _ h (pt_okS_cons trivial hs) hl hn ls H locs hls hP hS)
set_option maxHeartbeats 400000 in
theorem ok_sipush {cc : ByteArray} {own : String} {nL : Nat} {rt : Option FieldType} {pc nx : Nat} {n : Int} {v : Int32} (hd : decode cc pc = .ok (.sipush n, 3)) (en : pc + 3 = nx) (ev : (Int16.ofInt n).toInt32 = v) : pt_OK cc own nL rt pc (o_v (zI v) nx) := by
  intro G p l e R s m args below meth c cells slots Qw d C X IH RM K Q hK hQ L S mm h hs hl hn ls H locs hls hP hS
  subst en
  exact lv_sipush X.1 X.2.1 hd ev (hK _ _ _ _ h (pt_okS_cons trivial hs) hl hn ls H locs hls hP hS)
set_option maxHeartbeats 400000 in
theorem ok_lconst {cc : ByteArray} {own : String} {nL : Nat} {rt : Option FieldType} {pc nx : Nat} {n : Fin 2} {v : Int64} (hd : decode cc pc = .ok (.lconst n, 1)) (en : pc + 1 = nx) (ev : Int64.ofNat (n : Nat) = v) : pt_OK cc own nL rt pc (o_v (zL v) nx) := by
  intro G p l e R s m args below meth c cells slots Qw d C X IH RM K Q hK hQ L S mm h hs hl hn ls H locs hls hP hS
  subst en
  exact lv_lconst X.1 X.2.1 hd ev (hK _ _ _ _ h (pt_okS_cons trivial hs) hl hn ls H locs hls hP hS)
set_option maxHeartbeats 400000 in
theorem ok_ldc {cc : ByteArray} {own : String} {nL : Nat} {rt : Option FieldType} {pc nx : Nat} {ix : Nat} {v : Int32} (hd : decode cc pc = .ok (.ldc ix, 2)) (en : pc + 2 = nx) (ew : Cond.constant own ix v ∈ pt_tbl) : pt_OK cc own nL rt pc (o_v (zI v) nx) := by
  intro G p l e R s m args below meth c cells slots Qw d C X IH RM K Q hK hQ L S mm h hs hl hn ls H locs hls hP hS
  subst en
  exact lv_ldc X.1 X.2.1 X.2.2.2.1 (X.2.2.2.2.1 _ ew) hd (hK _ _ _ _ h (pt_okS_cons trivial hs) hl hn ls H locs hls hP hS)
set_option maxHeartbeats 400000 in
theorem ok_ldc2 {cc : ByteArray} {own : String} {nL : Nat} {rt : Option FieldType} {pc nx : Nat} {ix : Nat} {v : Int64} (hd : decode cc pc = .ok (.ldc2_w ix, 3)) (en : pc + 3 = nx) (ew : Cond.constantLong own ix v ∈ pt_tbl) : pt_OK cc own nL rt pc (o_v (zL v) nx) := by
  intro G p l e R s m args below meth c cells slots Qw d C X IH RM K Q hK hQ L S mm h hs hl hn ls H locs hls hP hS
  subst en
  exact lv_ldc2 X.1 X.2.1 X.2.2.2.1 (X.2.2.2.2.1 _ ew) hd (hK _ _ _ _ h (pt_okS_cons trivial hs) hl hn ls H locs hls hP hS)
set_option maxHeartbeats 400000 in
theorem ok_ldcS {cc : ByteArray} {own : String} {nL : Nat} {rt : Option FieldType} {pc nx : Nat} {i ix : Nat} (eo : own = RX5) (hi : i < 7) (ei : pt_ki i = ix) (hd : decode cc pc = .ok (.ldc ix, 2)) (en : pc + 2 = nx) : pt_OK cc own nL rt pc (o_v (zR 12 i) nx) := by
  intro G p l e R s m args below meth c cells slots Qw d C X IH RM K Q hK hQ L S mm h hs hl hn ls H locs hls hP hS
  subst en eo ei
  obtain ⟨t1, t2, t3, t4, t5, t6, t7, t8⟩ := X.2.2.2.2.2.2.2
  exact va_ldcS X.1 X.2.1 X.2.2.2.1 (t5 i hi) hd (hK _ _ _ _ h (pt_okS_cons (Or.inl ⟨rfl, hi⟩) hs) hl hn ls H locs hls hP hS)
set_option maxHeartbeats 400000 in
theorem ok_getsT {cc : ByteArray} {own : String} {nL : Nat} {rt : Option FieldType} {pc nx : Nat} {i ix : Nat} (hi : i < 3) (hd : decode cc pc = .ok (.getstatic ix, 3)) (en : pc + 3 = nx) (ew : Cond.fieldLink own ix RX6 (pt_sn i) "[I" ∈ pt_tbl) : pt_OK cc own nL rt pc (o_v (zR 20 i) nx) := by
  intro G p l e R s m args below meth c cells slots Qw d C X IH RM K Q hK hQ L S mm h hs hl hn ls H locs hls hP hS
  subst en
  obtain ⟨t1, t2, t3, t4, t5, t6, t7, t8⟩ := X.2.2.2.2.2.2.2
  exact va_gets X.1 X.2.1 (t1 i hi).1 hS X.2.2.2.1 (X.2.2.2.2.1 _ ew) (fun _ q => q) hd (hK _ _ _ _ h (pt_okS_cons (Or.inr (Or.inr (Or.inl ⟨rfl, hi⟩))) hs) hl hn ls H locs hls hP hS)
set_option maxHeartbeats 400000 in
theorem ok_getsN {cc : ByteArray} {own : String} {nL : Nat} {rt : Option FieldType} {pc nx : Nat} {i ix : Nat} (hi : i < 3) (hd : decode cc pc = .ok (.getstatic ix, 3)) (en : pc + 3 = nx) (ew : (own, ix, RX6, pt_sn i, "[I", RX6) ∈ pt_nF) : pt_OK cc own nL rt pc (o_v (zR 20 i) nx) := by
  intro G p l e R s m args below meth c cells slots Qw d C X IH RM K Q hK hQ L S mm h hs hl hn ls H locs hls hP hS
  subst en
  obtain ⟨t1, t2, t3, t4, t5, t6, t7, t8⟩ := X.2.2.2.2.2.2.2
  exact va_getsN X.1 X.2.1 (t1 i hi).1 hS X.2.2.2.1 (va_Nw.use rfl (t7 _ ew)) (fun _ q => q) hd (hK _ _ _ _ h (pt_okS_cons (Or.inr (Or.inr (Or.inl ⟨rfl, hi⟩))) hs) hl hn ls H locs hls hP hS)
set_option maxHeartbeats 400000 in
theorem ok_getsC {cc : ByteArray} {own : String} {nL : Nat} {rt : Option FieldType} {pc nx : Nat} {ix : Nat} (hd : decode cc pc = .ok (.getstatic ix, 3)) (en : pc + 3 = nx) (ew : Cond.fieldLink own ix RJ0 "COMPACT_STRINGS" "Z" ∈ pt_tbl) : pt_OK cc own nL rt pc (o_v (zI 1) nx) := by
  intro G p l e R s m args below meth c cells slots Qw d C X IH RM K Q hK hQ L S mm h hs hl hn ls H locs hls hP hS
  subst en
  obtain ⟨t1, t2, t3, t4, t5, t6, t7, t8⟩ := X.2.2.2.2.2.2.2
  exact va_gets X.1 X.2.1 t2 hS X.2.2.2.1 (X.2.2.2.2.1 _ ew) (fun _ q => q) hd (hK _ _ _ _ h (pt_okS_cons trivial hs) hl hn ls H locs hls hP hS)
set_option maxHeartbeats 400000 in
theorem ok_getsF {cc : ByteArray} {own : String} {nL : Nat} {rt : Option FieldType} {pc nx : Nat} {ix : Nat} (hd : decode cc pc = .ok (.getstatic ix, 3)) (en : pc + 3 = nx) (ew : Cond.fieldLink own ix RJ3 "SIOOBE_FORMATTER" "Ljava/util/function/BiFunction;" ∈ pt_tbl) : pt_OK cc own nL rt pc (o_v (zR 22 0) nx) := by
  intro G p l e R s m args below meth c cells slots Qw d C X IH RM K Q hK hQ L S mm h hs hl hn ls H locs hls hP hS
  subst en
  obtain ⟨t1, t2, t3, t4, t5, t6, t7, t8⟩ := X.2.2.2.2.2.2.2
  exact va_gets X.1 X.2.1 t3 hS X.2.2.2.1 (X.2.2.2.2.1 _ ew) (fun _ q => q) hd (hK _ _ _ _ h (pt_okS_cons (Or.inr (Or.inr (Or.inr (Or.inr (Or.inl rfl))))) hs) hl hn ls H locs hls hP hS)
theorem pt_isref {G : pt_G} {t o : Nat} (h : Nat.beq t 22 = false) : ∃ a, pt_cv G (zR t o) = .ref a := by
  have h2 : ¬ t = 22 := fun q => by rw [q] at h; cases h
  show ∃ a, pt_rv G t o = .ref a
  unfold pt_rv
  rw [if_neg h2]
  repeat (first | exact ⟨_, rfl⟩ | split)
set_option maxHeartbeats 400000 in
theorem ok_iload_n {cc : ByteArray} {own : String} {nL : Nat} {rt : Option FieldType} {pc nx : Nat} {k : Fin 4} {i : Nat} (hd : decode cc pc = .ok (.iload_n k, 1)) (ei : (k : Nat) = i) (en : pc + 1 = nx) : pt_OK cc own nL rt pc (o_lI i nx) := by
  intro G p l e R s m args below meth c cells slots Qw d C X IH RM K Q hK hQ L S mm h hs hl hn ls H locs hls hP hS
  subst en
  unfold o_lI at h
  split at h
  next x hx =>
    exact lv_iload_n X.1 X.2.1 hd ei (pt_lv_at hls hx) (hK _ _ _ _ h (pt_okS_cons trivial hs) hl hn ls H locs hls hP hS)
  next => exact h.elim
set_option maxHeartbeats 400000 in
theorem ok_iload {cc : ByteArray} {own : String} {nL : Nat} {rt : Option FieldType} {pc nx : Nat} {i : Nat} (hd : decode cc pc = .ok (.iload i, 2)) (en : pc + 2 = nx) : pt_OK cc own nL rt pc (o_lI i nx) := by
  intro G p l e R s m args below meth c cells slots Qw d C X IH RM K Q hK hQ L S mm h hs hl hn ls H locs hls hP hS
  subst en
  unfold o_lI at h
  split at h
  next x hx =>
    exact lv_iload X.1 X.2.1 hd (pt_lv_at hls hx) (hK _ _ _ _ h (pt_okS_cons trivial hs) hl hn ls H locs hls hP hS)
  next => exact h.elim
set_option maxHeartbeats 400000 in
theorem ok_lload_n {cc : ByteArray} {own : String} {nL : Nat} {rt : Option FieldType} {pc nx : Nat} {k : Fin 4} {i : Nat} (hd : decode cc pc = .ok (.lload_n k, 1)) (ei : (k : Nat) = i) (en : pc + 1 = nx) : pt_OK cc own nL rt pc (o_lL i nx) := by
  intro G p l e R s m args below meth c cells slots Qw d C X IH RM K Q hK hQ L S mm h hs hl hn ls H locs hls hP hS
  subst en
  unfold o_lL at h
  split at h
  next x hx =>
    exact lv_lload_n X.1 X.2.1 hd ei (pt_lv_at hls hx) (hK _ _ _ _ h (pt_okS_cons trivial hs) hl hn ls H locs hls hP hS)
  next => exact h.elim
set_option maxHeartbeats 400000 in
theorem ok_lload {cc : ByteArray} {own : String} {nL : Nat} {rt : Option FieldType} {pc nx : Nat} {i : Nat} (hd : decode cc pc = .ok (.lload i, 2)) (en : pc + 2 = nx) : pt_OK cc own nL rt pc (o_lL i nx) := by
  intro G p l e R s m args below meth c cells slots Qw d C X IH RM K Q hK hQ L S mm h hs hl hn ls H locs hls hP hS
  subst en
  unfold o_lL at h
  split at h
  next x hx =>
    exact lv_lload X.1 X.2.1 hd (pt_lv_at hls hx) (hK _ _ _ _ h (pt_okS_cons trivial hs) hl hn ls H locs hls hP hS)
  next => exact h.elim
set_option maxHeartbeats 400000 in
theorem ok_aload_n {cc : ByteArray} {own : String} {nL : Nat} {rt : Option FieldType} {pc nx : Nat} {k : Fin 4} {i : Nat} (hd : decode cc pc = .ok (.aload_n k, 1)) (ei : (k : Nat) = i) (en : pc + 1 = nx) : pt_OK cc own nL rt pc (o_lR i nx) := by
  intro G p l e R s m args below meth c cells slots Qw d C X IH RM K Q hK hQ L S mm h hs hl hn ls H locs hls hP hS
  subst en
  unfold o_lR at h
  split at h
  next t o hx =>
    obtain ⟨h1, h⟩ := cond_f h
    obtain ⟨a, ha⟩ := pt_isref (G := G) (o := o) h1
    have hk := hK _ _ _ _ h (pt_okS_cons (hl _ _ hx) hs) hl hn ls H locs hls hP hS
    rw [List.map_cons, ha] at hk
    exact lv_aload_n X.1 X.2.1 hd ei ((pt_lv_at hls hx).trans (by rw [ha])) hk
  next => exact h.elim
set_option maxHeartbeats 400000 in
theorem ok_aload {cc : ByteArray} {own : String} {nL : Nat} {rt : Option FieldType} {pc nx : Nat} {i : Nat} (hd : decode cc pc = .ok (.aload i, 2)) (en : pc + 2 = nx) : pt_OK cc own nL rt pc (o_lR i nx) := by
  intro G p l e R s m args below meth c cells slots Qw d C X IH RM K Q hK hQ L S mm h hs hl hn ls H locs hls hP hS
  subst en
  unfold o_lR at h
  split at h
  next t o hx =>
    obtain ⟨h1, h⟩ := cond_f h
    obtain ⟨a, ha⟩ := pt_isref (G := G) (o := o) h1
    have hk := hK _ _ _ _ h (pt_okS_cons (hl _ _ hx) hs) hl hn ls H locs hls hP hS
    rw [List.map_cons, ha] at hk
    exact lv_aload X.1 X.2.1 hd ((pt_lv_at hls hx).trans (by rw [ha])) hk
  next => exact h.elim
theorem pt_okPut {L : pt_L} {i : Nat} {v : pt_V} (h : ∀ (j : Nat) (w : pt_V), pt_get L j = some w → pt_ok w) (hv : pt_ok v) : ∀ (j : Nat) (w : pt_V), pt_get (pt_put L i v) j = some w → pt_ok w := by
  intro j w hw
  rcases pt_put_get hw with ⟨-, rfl⟩ | ⟨-, q, -⟩
  · exact hv
  · exact h j w q
theorem pt_okPutL {L : pt_L} {i : Nat} {v : pt_V} (h : ∀ (j : Nat) (w : pt_V), pt_get L j = some w → pt_ok w) (hv : pt_ok v) : ∀ (j : Nat) (w : pt_V), pt_get (pt_putL L i v) j = some w → pt_ok w := by
  intro j w hw
  rcases pt_putL_get hw with ⟨-, rfl⟩ | ⟨-, -, q, -⟩
  · exact hv
  · exact h j w q
set_option maxHeartbeats 400000 in
theorem ok_istore_n {cc : ByteArray} {own : String} {nL : Nat} {rt : Option FieldType} {pc nx : Nat} {k : Fin 4} {i : Nat} (hd : decode cc pc = .ok (.istore_n k, 1)) (ei : (k : Nat) = i) (en : pc + 1 = nx) (hb : i < nL) : pt_OK cc own nL rt pc (o_sI i nx) := by
  intro G p l e R s m args below meth c cells slots Qw d C X IH RM K Q hK hQ L S mm h hs hl hn ls H locs hls hP hS
  subst en
  obtain ⟨x, S2, rfl, h⟩ := o_sI_of h
  exact lv_istore_n X.1 X.2.1 hd ei hls hb rfl (fun ls1 hl1 => hK _ _ _ _ h (pt_okS_tl hs) (pt_okPut hl trivial) (by rw [pt_put_len]; exact hn) ls1 H locs (pt_lv_put (v := zI x) X.2.2.2.2.2.2.1 hl1) hP hS)
set_option maxHeartbeats 400000 in
theorem ok_istore {cc : ByteArray} {own : String} {nL : Nat} {rt : Option FieldType} {pc nx : Nat} {i : Nat} (hd : decode cc pc = .ok (.istore i, 2)) (en : pc + 2 = nx) (hb : i < nL) : pt_OK cc own nL rt pc (o_sI i nx) := by
  intro G p l e R s m args below meth c cells slots Qw d C X IH RM K Q hK hQ L S mm h hs hl hn ls H locs hls hP hS
  subst en
  obtain ⟨x, S2, rfl, h⟩ := o_sI_of h
  exact lv_istore X.1 X.2.1 hd hls hb rfl (fun ls1 hl1 => hK _ _ _ _ h (pt_okS_tl hs) (pt_okPut hl trivial) (by rw [pt_put_len]; exact hn) ls1 H locs (pt_lv_put (v := zI x) X.2.2.2.2.2.2.1 hl1) hP hS)
set_option maxHeartbeats 400000 in
theorem ok_lstore_n {cc : ByteArray} {own : String} {nL : Nat} {rt : Option FieldType} {pc nx : Nat} {k : Fin 4} {i : Nat} (hd : decode cc pc = .ok (.lstore_n k, 1)) (ei : (k : Nat) = i) (en : pc + 1 = nx) (hb : i + 1 < nL) : pt_OK cc own nL rt pc (o_sL i nx) := by
  intro G p l e R s m args below meth c cells slots Qw d C X IH RM K Q hK hQ L S mm h hs hl hn ls H locs hls hP hS
  subst en
  obtain ⟨x, S2, rfl, h⟩ := o_sL_of h
  exact lv_lstore_n X.1 X.2.1 hd ei hls hb rfl (fun ls1 hl1 => hK _ _ _ _ h (pt_okS_tl hs) (pt_okPutL hl trivial) (by rw [pt_putL_len]; exact hn) ls1 H locs (pt_lv_putL (v := zL x) X.2.2.2.2.2.2.1 hl1) hP hS)
set_option maxHeartbeats 400000 in
theorem ok_lstore {cc : ByteArray} {own : String} {nL : Nat} {rt : Option FieldType} {pc nx : Nat} {i : Nat} (hd : decode cc pc = .ok (.lstore i, 2)) (en : pc + 2 = nx) (hb : i + 1 < nL) : pt_OK cc own nL rt pc (o_sL i nx) := by
  intro G p l e R s m args below meth c cells slots Qw d C X IH RM K Q hK hQ L S mm h hs hl hn ls H locs hls hP hS
  subst en
  obtain ⟨x, S2, rfl, h⟩ := o_sL_of h
  exact lv_lstore X.1 X.2.1 hd hls hb rfl (fun ls1 hl1 => hK _ _ _ _ h (pt_okS_tl hs) (pt_okPutL hl trivial) (by rw [pt_putL_len]; exact hn) ls1 H locs (pt_lv_putL (v := zL x) X.2.2.2.2.2.2.1 hl1) hP hS)
set_option maxHeartbeats 400000 in
theorem ok_astore_n {cc : ByteArray} {own : String} {nL : Nat} {rt : Option FieldType} {pc nx : Nat} {k : Fin 4} {i : Nat} (hd : decode cc pc = .ok (.astore_n k, 1)) (ei : (k : Nat) = i) (en : pc + 1 = nx) (hb : i < nL) : pt_OK cc own nL rt pc (o_sR i nx) := by
  intro G p l e R s m args below meth c cells slots Qw d C X IH RM K Q hK hQ L S mm h hs hl hn ls H locs hls hP hS
  subst en
  obtain ⟨t, o, S2, rfl, h⟩ := o_sR_of h
  obtain ⟨h1, h⟩ := cond_f h
  obtain ⟨a, ha⟩ := pt_isref (G := G) (o := o) h1
  rw [List.map_cons, ha]
  exact lv_astore_n X.1 X.2.1 hd ei hls hb rfl (fun ls1 hl1 => hK _ _ _ _ h (pt_okS_tl hs) (pt_okPut hl (pt_okS_hd hs)) (by rw [pt_put_len]; exact hn) ls1 H locs (pt_lv_put (v := zR t o) X.2.2.2.2.2.2.1 (by rw [ha]; exact hl1)) hP hS)
set_option maxHeartbeats 400000 in
theorem ok_astore {cc : ByteArray} {own : String} {nL : Nat} {rt : Option FieldType} {pc nx : Nat} {i : Nat} (hd : decode cc pc = .ok (.astore i, 2)) (en : pc + 2 = nx) (hb : i < nL) : pt_OK cc own nL rt pc (o_sR i nx) := by
  intro G p l e R s m args below meth c cells slots Qw d C X IH RM K Q hK hQ L S mm h hs hl hn ls H locs hls hP hS
  subst en
  obtain ⟨t, o, S2, rfl, h⟩ := o_sR_of h
  obtain ⟨h1, h⟩ := cond_f h
  obtain ⟨a, ha⟩ := pt_isref (G := G) (o := o) h1
  rw [List.map_cons, ha]
  exact lv_astore X.1 X.2.1 hd hls hb rfl (fun ls1 hl1 => hK _ _ _ _ h (pt_okS_tl hs) (pt_okPut hl (pt_okS_hd hs)) (by rw [pt_put_len]; exact hn) ls1 H locs (pt_lv_put (v := zR t o) X.2.2.2.2.2.2.1 (by rw [ha]; exact hl1)) hP hS)
set_option maxHeartbeats 400000 in
theorem ok_iinc {cc : ByteArray} {own : String} {nL : Nat} {rt : Option FieldType} {pc nx : Nat} {i : Nat} {n : Int} {dv : Int32} (hd : decode cc pc = .ok (.iinc i n, 3)) (ev : Int32.ofInt n = dv) (en : pc + 3 = nx) (hb : i < nL) : pt_OK cc own nL rt pc (o_inc i dv nx) := by
  intro G p l e R s m args below meth c cells slots Qw d C X IH RM K Q hK hQ L S mm h hs hl hn ls H locs hls hP hS
  subst en ev
  unfold o_inc at h
  split at h
  next x hx =>
    obtain ⟨k, hk⟩ := List.getElem?_of_mem (pt_lv_mem (G := G) hx)
    exact lv_iinc X.1 X.2.1 hd hls hk rfl hb rfl (fun ls1 hl1 => hK _ _ _ _ h hs (pt_okPut hl trivial) (by rw [pt_put_len]; exact hn) ls1 H locs (pt_lv_put (v := zI (x + Int32.ofInt n)) X.2.2.2.2.2.2.1 hl1) hP hS)
  next => exact h.elim
set_option maxHeartbeats 400000 in
theorem ok_dup {cc : ByteArray} {own : String} {nL : Nat} {rt : Option FieldType} {pc nx : Nat} (hd : decode cc pc = .ok (.dup, 1)) (en : pc + 1 = nx) : pt_OK cc own nL rt pc (o_dup nx) := by
  intro G p l e R s m args below meth c cells slots Qw d C X IH RM K Q hK hQ L S mm h hs hl hn ls H locs hls hP hS
  subst en
  obtain ⟨v, S2, rfl, h⟩ := o_dup_of h
  obtain ⟨h1, h⟩ := cond_t h
  exact lv_dup X.1 X.2.1 hd (pt_c1_cat X.2.2.2.2.2.2.1 h1) (hK _ _ _ _ h (pt_okS_cons (pt_okS_hd hs) hs) hl hn ls H locs hls hP hS)
set_option maxHeartbeats 400000 in
theorem ok_dup2 {cc : ByteArray} {own : String} {nL : Nat} {rt : Option FieldType} {pc nx : Nat} (hd : decode cc pc = .ok (.dup2, 1)) (en : pc + 1 = nx) : pt_OK cc own nL rt pc (o_dup2 nx) := by
  intro G p l e R s m args below meth c cells slots Qw d C X IH RM K Q hK hQ L S mm h hs hl hn ls H locs hls hP hS
  subst en
  obtain ⟨v, w, S2, rfl, h⟩ := o_dup2_of h
  obtain ⟨h1, h⟩ := cond_t h
  rw [Bool.and_eq_true] at h1
  exact lv_dup2_11 X.1 X.2.1 hd (pt_c1_cat X.2.2.2.2.2.2.1 h1.1) (pt_c1_cat X.2.2.2.2.2.2.1 h1.2) (hK _ _ _ _ h (pt_okS_cons (pt_okS_hd hs) (pt_okS_cons (pt_okS_hd (pt_okS_tl hs)) hs)) hl hn ls H locs hls hP hS)
set_option maxHeartbeats 400000 in
theorem ok_dup_x1 {cc : ByteArray} {own : String} {nL : Nat} {rt : Option FieldType} {pc nx : Nat} (hd : decode cc pc = .ok (.dup_x1, 1)) (en : pc + 1 = nx) : pt_OK cc own nL rt pc (o_dx1 nx) := by
  intro G p l e R s m args below meth c cells slots Qw d C X IH RM K Q hK hQ L S mm h hs hl hn ls H locs hls hP hS
  subst en
  obtain ⟨v, w, S2, rfl, h⟩ := o_dx1_of h
  obtain ⟨h1, h⟩ := cond_t h
  rw [Bool.and_eq_true] at h1
  exact lv_dup_x1 X.1 X.2.1 hd (pt_c1_cat X.2.2.2.2.2.2.1 h1.1) (pt_c1_cat X.2.2.2.2.2.2.1 h1.2) (hK _ _ _ _ h (pt_okS_cons (pt_okS_hd hs) (pt_okS_cons (pt_okS_hd (pt_okS_tl hs)) (pt_okS_cons (pt_okS_hd hs) (pt_okS_tl (pt_okS_tl hs))))) hl hn ls H locs hls hP hS)
set_option maxHeartbeats 400000 in
theorem ok_pop {cc : ByteArray} {own : String} {nL : Nat} {rt : Option FieldType} {pc nx : Nat} (hd : decode cc pc = .ok (.pop, 1)) (en : pc + 1 = nx) : pt_OK cc own nL rt pc (o_pop nx) := by
  intro G p l e R s m args below meth c cells slots Qw d C X IH RM K Q hK hQ L S mm h hs hl hn ls H locs hls hP hS
  subst en
  obtain ⟨v, S2, rfl, h⟩ := o_pop_of h
  obtain ⟨h1, h⟩ := cond_t h
  exact lv_pop X.1 X.2.1 hd (pt_c1_cat X.2.2.2.2.2.2.1 h1) (hK _ _ _ _ h (pt_okS_tl hs) hl hn ls H locs hls hP hS)
set_option maxHeartbeats 400000 in
theorem ok_tsw {cc : ByteArray} {own : String} {nL : Nat} {rt : Option FieldType} {pc nx : Nat} {lo hi : Int} {dfl : Int} {offs : Array Int} {len dd : Nat} {ts : List Nat} (hd : decode cc pc = .ok (.tableswitch dfl lo hi offs, len)) (ed : (pc : Int) + dfl = (dd : Int)) (ho : offs.toList.map (fun o => (pc : Int) + o) = ts.map (fun (t : Nat) => (t : Int))) (hh : hi - lo + 1 = (ts.length : Int)) : pt_OK cc own nL rt pc (o_tsw lo dd ts) := by
  intro G p l e R s m args below meth c cells slots Qw d C X IH RM K Q hK hQ L S mm h hs hl hn ls H locs hls hP hS
  obtain ⟨x, S2, rfl, h9⟩ := o_tsw_of h
  have hlen : offs.toList.length = ts.length := by
    have := congrArg List.length ho
    simpa using this
  unfold pt_tsw at h9
  by_cases h1 : x.toInt < lo
  · rw [if_pos h1] at h9
    exact lv_tableOut X.1 X.2.1 hd (Or.inl h1) ed (hK _ _ _ _ h9 (pt_okS_tl hs) hl hn ls H locs hls hP hS)
  · rw [if_neg h1] at h9
    by_cases h2 : hi < x.toInt
    · have e : ts.getD (x.toInt - lo).toNat dd = dd := by
        rw [List.getD_eq_getElem?_getD, List.getElem?_eq_none (by omega)]
        rfl
      rw [e] at h9
      exact lv_tableOut X.1 X.2.1 hd (Or.inr h2) ed (hK _ _ _ _ h9 (pt_okS_tl hs) hl hn ls H locs hls hP hS)
    · have hk : (x.toInt - lo).toNat < ts.length := by omega
      have e1 : (offs.toList.map (fun o => (pc : Int) + o))[(x.toInt - lo).toNat]? = (ts.map (fun (t : Nat) => (t : Int)))[(x.toInt - lo).toNat]? := by rw [ho]
      rw [List.getElem?_map, List.getElem?_map, List.getElem?_eq_getElem hk, List.getElem?_eq_getElem (by omega)] at e1
      have e2 := Option.some.inj e1
      have e3 : ts.getD (x.toInt - lo).toNat dd = ts[(x.toInt - lo).toNat] := by
        rw [List.getD_eq_getElem?_getD, List.getElem?_eq_getElem hk]
        rfl
      rw [e3] at h9
      exact lv_tableIn X.1 X.2.1 hd h1 h2 (off := offs.toList[(x.toInt - lo).toNat]'(by omega)) (by rw [← Array.getElem?_toList, List.getElem?_eq_getElem (by omega)]) e2 (hK _ _ _ _ h9 (pt_okS_tl hs) hl hn ls H locs hls hP hS)
theorem pt_lsw_off {pc : Nat} {dfl : Int} {dd : Nat} (ed : (pc : Int) + dfl = (dd : Int)) : ∀ (ps : List (Int × Int)) (ts : List (Int × Nat)) (x : Int), ps.map (fun q => (q.1, (pc : Int) + q.2)) = ts.map (fun q => (q.1, (q.2 : Int))) → (pc : Int) + Op.lookupswitch.offset ps dfl x = ((pt_lsw dd ts x : Nat) : Int)
  | [], [], x, _ => ed
  | [], _ :: _, _, h => by cases h
  | _ :: _, [], _, h => by cases h
  | (a, o) :: ps, (b, t) :: ts, x, h => by
    rw [List.map_cons, List.map_cons] at h
    injection h with h1 h2
    injection h1 with h3 h4
    dsimp only at h3 h4
    subst h3
    rw [Op.lookupswitch.offset_cons]
    unfold pt_lsw
    by_cases hx : x = a
    · rw [if_pos hx, if_pos (by first | exact hx | exact hx.symm)]
      exact h4
    · rw [if_neg hx, if_neg (by first | exact hx | exact fun q => hx q.symm)]
      exact pt_lsw_off ed ps ts x h2
set_option maxHeartbeats 400000 in
theorem ok_lsw {cc : ByteArray} {own : String} {nL : Nat} {rt : Option FieldType} {pc nx : Nat} {dfl : Int} {ps : Array (Int × Int)} {len dd : Nat} {ts : List (Int × Nat)} (hd : decode cc pc = .ok (.lookupswitch dfl ps, len)) (ed : (pc : Int) + dfl = (dd : Int)) (ho : ps.toList.map (fun q => (q.1, (pc : Int) + q.2)) = ts.map (fun q => (q.1, (q.2 : Int)))) (hp : (ps.toList.zip (ps.toList.drop 1)).all (fun (a, next) => a.1 < next.1) = true) : pt_OK cc own nL rt pc (o_lsw dd ts) := by
  intro G p l e R s m args below meth c cells slots Qw d C X IH RM K Q hK hQ L S mm h hs hl hn ls H locs hls hP hS
  obtain ⟨x, S2, rfl, h⟩ := o_lsw_of h
  exact lv_lookup X.1 X.2.1 hd hp rfl (pt_lsw_off ed _ _ _ ho) (hK _ _ _ _ h (pt_okS_tl hs) hl hn ls H locs hls hP hS)
end
section
/-! 07.heap: the rows of fields, arrays, calls, returns -/
theorem pt_gv_cv {G : pt_G} {mm : pt_M} {t o k : Nat} (h : pt_tags[o]? = some t) (hk : k < pt_N t) : pt_cv G (pt_gv t o k mm) = pt_fv G mm t o k ∧ pt_ok (pt_gv t o k mm) := by
  unfold pt_gv pt_fv
  cases hf : pt_fr t k with
  | none => exact ⟨rfl, trivial⟩
  | some q =>
    obtain ⟨t1, d⟩ := q
    have h2 := pt_sub_at h hk hf
    exact ⟨pt_cv_w (by rcases pt_tag_w h2 with z | z; exact Or.inl z; exact Or.inr z.1), pt_okW h2⟩
theorem pt_w_of {t : Nat} (h : t < 8) : t < 12 ∨ 1000 ≤ t := Or.inl (by omega)
set_option maxHeartbeats 400000 in
theorem ok_gf {cc : ByteArray} {own : String} {nL : Nat} {rt : Option FieldType} {pc nx : Nat} {t k ix N : Nat} {Cn : String} {T : u_T} (ht : t < 8) (hcl : vwCl[t]? = some (Cn, T, N)) (hN : pt_N t = N) (hin : ∀ w ∈ u_ws Cn T N, w ∈ pt_tbl) (hk : k < N)
    (hd : decode cc pc = .ok (.getfield ix, 3)) (en : pc + 3 = nx) (ew : Cond.fieldLink own ix (T k).1 (T k).2.1 (T k).2.2.1 ∈ pt_tbl) : pt_OK cc own nL rt pc (o_gf t k nx) := by
  intro G p l e R s m args below meth c cells slots Qw d C X IH RM K Q hK hQ L S mm h hs hl hn ls H locs hls hP hS
  subst en
  replace h := o_gf_of h
  obtain ⟨t1, o, S2, rfl, h⟩ := h
  replace h := cond_t h
  obtain ⟨h1, h⟩ := h
  have e := beq_t h1
  subst e
  have htag := pt_ok_w (pt_okS_hd hs) (pt_w_of ht)
  obtain ⟨g1, g2⟩ := pt_gv_cv (G := G) (mm := mm) htag (by rw [hN]; exact hk)
  have hk1 := hK _ _ _ _ h (pt_okS_cons g2 (pt_okS_tl hs)) hl hn ls H locs hls hP hS
  rw [List.map_cons, g1] at hk1
  rw [List.map_cons, pt_cv_w (pt_w_of ht)]
  exact va_get (C := Cn) (T := T) (N := N) X.1 X.2.1 X.2.2.2.2.1 hin X.2.2.2.1 X.2.2.2.2.2.1 hP o ((pt_W_at htag).trans (by rw [pt_E_obj ht])) hcl k hk (X.2.2.2.2.1 _ ew) (fun _ q => q) (pt_fs_at (by rw [hN]; exact hk)) hd hk1
set_option maxHeartbeats 400000 in
theorem ok_pf {cc : ByteArray} {own : String} {nL : Nat} {rt : Option FieldType} {pc nx : Nat} {t k ix N : Nat} {Cn : String} {T : u_T} (ty0 : Nat → FieldType) (ht : t < 8) (hcl : vwCl[t]? = some (Cn, T, N)) (hN : pt_N t = N) (hin : ∀ w ∈ u_ws Cn T N, w ∈ pt_tbl) (hty : ∀ k, k < N → parseFieldDescriptor (T k).2.2.1 = some (ty0 k)) (hnm : ∀ a, a < N → ∀ b, b < N → a ≠ b → (T a).2.1 ≠ (T b).2.1) (hk : k < N) (hf : pt_fr t k = none) (hfin : (T k).2.2.2 = false) (hde : parseFieldDescriptor (T k).2.2.1 = some .int)
    (hd : decode cc pc = .ok (.putfield ix, 3)) (en : pc + 3 = nx) (ew : Cond.fieldLink own ix (T k).1 (T k).2.1 (T k).2.2.1 ∈ pt_tbl) : pt_OK cc own nL rt pc (o_pf t k nx) := by
  intro G p l e R s m args below meth c cells slots Qw d C X IH RM K Q hK hQ L S mm h hs hl hn ls H locs hls hP hS
  subst en
  replace h := o_pf_of h
  obtain ⟨x, t1, o, S2, rfl, h⟩ := h
  replace h := cond_t h
  obtain ⟨h1, h⟩ := h
  have e := beq_t h1
  subst e
  have htag := pt_ok_w (pt_okS_hd (pt_okS_tl hs)) (pt_w_of ht)
  rw [List.map_cons, List.map_cons, pt_cv_w (pt_w_of ht)]
  refine va_put (C := Cn) (T := T) (N := N) X.1 X.2.1 X.2.2.2.2.1 hin ty0 hty hnm X.2.2.2.1 X.2.2.2.2.2.1 hP (pt_D X.2.2.2.2.2.2.1 mm) hS o ((pt_W_at htag).trans (by rw [pt_E_obj ht])) hcl k hk (X.2.2.2.2.1 _ ew) (fun _ q => q) hfin hde rfl rfl (by rw [pt_fs_len, hN]; exact hk) hd (fun H1 locs1 hP1 _ hS1 => ?_)
  have hP1 : va_P (gD G) vwCl (List.set (pt_W G mm) o (gA G o, Sum.inr (t1, (pt_fs G mm t1 o).set k (Value.int x)))) H1 := hP1
  rw [pt_fs_set hf, ← pt_E_obj (G := G) (m := st mm o k x) (o := o) ht, ← pt_W_set htag (fun q hq => st_ne hq)] at hP1
  exact hK _ _ _ _ h (pt_okS_tl (pt_okS_tl hs)) hl hn ls H1 locs1 hls hP1 hS1
theorem pt_nz {x : Int32} (h : x = 0 ∨ x = 1) : narrow .boolean (.int x) = .int x ∧ fits .boolean (.int x) = true := by
  rcases h with rfl | rfl <;> exact ⟨by decide +kernel, by decide +kernel⟩
set_option maxHeartbeats 400000 in
theorem ok_pz {cc : ByteArray} {own : String} {nL : Nat} {rt : Option FieldType} {pc nx : Nat} {t k ix N : Nat} {Cn : String} {T : u_T} (ty0 : Nat → FieldType) (ht : t < 8) (hcl : vwCl[t]? = some (Cn, T, N)) (hN : pt_N t = N) (hin : ∀ w ∈ u_ws Cn T N, w ∈ pt_tbl) (hty : ∀ k, k < N → parseFieldDescriptor (T k).2.2.1 = some (ty0 k)) (hnm : ∀ a, a < N → ∀ b, b < N → a ≠ b → (T a).2.1 ≠ (T b).2.1) (hk : k < N) (hf : pt_fr t k = none) (hfin : (T k).2.2.2 = false) (hde : parseFieldDescriptor (T k).2.2.1 = some .boolean)
    (hd : decode cc pc = .ok (.putfield ix, 3)) (en : pc + 3 = nx) (ew : Cond.fieldLink own ix (T k).1 (T k).2.1 (T k).2.2.1 ∈ pt_tbl) : pt_OK cc own nL rt pc (o_pz t k nx) := by
  intro G p l e R s m args below meth c cells slots Qw d C X IH RM K Q hK hQ L S mm h hs hl hn ls H locs hls hP hS
  subst en
  replace h := o_pz_of h
  obtain ⟨x, t1, o, S2, rfl, h⟩ := h
  replace h := cond_t h
  obtain ⟨h1, hx, h⟩ := h
  have e := beq_t h1
  subst e
  have htag := pt_ok_w (pt_okS_hd (pt_okS_tl hs)) (pt_w_of ht)
  rw [List.map_cons, List.map_cons, pt_cv_w (pt_w_of ht)]
  refine va_put (C := Cn) (T := T) (N := N) X.1 X.2.1 X.2.2.2.2.1 hin ty0 hty hnm X.2.2.2.1 X.2.2.2.2.2.1 hP (pt_D X.2.2.2.2.2.2.1 mm) hS o ((pt_W_at htag).trans (by rw [pt_E_obj ht])) hcl k hk (X.2.2.2.2.1 _ ew) (fun _ q => q) hfin hde (pt_nz hx).1 (pt_nz hx).2 (by rw [pt_fs_len, hN]; exact hk) hd (fun H1 locs1 hP1 _ hS1 => ?_)
  have hP1 : va_P (gD G) vwCl (List.set (pt_W G mm) o (gA G o, Sum.inr (t1, (pt_fs G mm t1 o).set k (Value.int x)))) H1 := hP1
  rw [pt_fs_set hf, ← pt_E_obj (G := G) (m := st mm o k x) (o := o) ht, ← pt_W_set htag (fun q hq => st_ne hq)] at hP1
  exact hK _ _ _ _ h (pt_okS_tl (pt_okS_tl hs)) hl hn ls H1 locs1 hls hP1 hS1
/-! a text's own fields -/
set_option maxHeartbeats 400000 in
theorem ok_tv {cc : ByteArray} {own : String} {nL : Nat} {rt : Option FieldType} {pc nx ix : Nat} (hd : decode cc pc = .ok (.getfield ix, 3)) (en : pc + 3 = nx) (ew : Cond.fieldLink own ix RJ0 "value" "[B" ∈ pt_tbl) : pt_OK cc own nL rt pc (o_tv nx) := by
  intro G p l e R s m args below meth c cells slots Qw d C X IH RM K Q hK hQ L S mm h hs hl hn ls H locs hls hP hS
  subst en
  replace h := o_tv_of h
  obtain ⟨t, o, S2, rfl, h⟩ := h
  replace h := cond_t h
  obtain ⟨h1, h⟩ := h
  have e := beq_t h1
  subst e
  have ho : o < 7 := by
    rcases pt_okS_hd hs with z | z | z | z | z | z <;> first | exact z.2 | exact absurd (pt_tag_w z) (by omega) | omega
  obtain ⟨t1, t2, t3, t4, t5, t6, t7, t8⟩ := X.2.2.2.2.2.2.2
  exact vk_getf X.1 X.2.1 (t4.1 o ho).2.2.1 hS X.2.2.2.1 (X.2.2.2.2.1 _ ew) (fun _ q => q) hd (hK _ _ _ _ h (pt_okS_cons (Or.inr (Or.inl ⟨rfl, ho⟩)) (pt_okS_tl hs)) hl hn ls H locs hls hP hS)
set_option maxHeartbeats 400000 in
theorem ok_tc {cc : ByteArray} {own : String} {nL : Nat} {rt : Option FieldType} {pc nx ix : Nat} (hd : decode cc pc = .ok (.getfield ix, 3)) (en : pc + 3 = nx) (ew : Cond.fieldLink own ix RJ0 "coder" "B" ∈ pt_tbl) : pt_OK cc own nL rt pc (o_tc nx) := by
  intro G p l e R s m args below meth c cells slots Qw d C X IH RM K Q hK hQ L S mm h hs hl hn ls H locs hls hP hS
  subst en
  replace h := o_tc_of h
  obtain ⟨t, o, S2, rfl, h⟩ := h
  replace h := cond_t h
  obtain ⟨h1, h⟩ := h
  have e := beq_t h1
  subst e
  have ho : o < 7 := by
    rcases pt_okS_hd hs with z | z | z | z | z | z <;> first | exact z.2 | exact absurd (pt_tag_w z) (by omega) | omega
  obtain ⟨t1, t2, t3, t4, t5, t6, t7, t8⟩ := X.2.2.2.2.2.2.2
  exact vk_getf X.1 X.2.1 (t4.1 o ho).2.1 hS X.2.2.2.1 (X.2.2.2.2.1 _ ew) (fun _ q => q) hd (hK _ _ _ _ h (pt_okS_cons trivial (pt_okS_tl hs)) hl hn ls H locs hls hP hS)
/-! arrays -/
theorem ble_t {a b : Nat} (h : Nat.ble a b = true) : a ≤ b := Nat.le_of_ble_eq_true h
set_option maxHeartbeats 400000 in
theorem ok_ald {cc : ByteArray} {own : String} {nL : Nat} {rt : Option FieldType} {pc nx : Nat} (hd : decode cc pc = .ok (.iaload, 1)) (en : pc + 1 = nx) : pt_OK cc own nL rt pc (o_ald nx) := by
  intro G p l e R s m args below meth c cells slots Qw d C X IH RM K Q hK hQ L S mm h hs hl hn ls H locs hls hP hS
  subst en
  replace h := o_ald_of h
  obtain ⟨i, t, o, S2, rfl, h⟩ := h
  replace h := cond_2 h
  rcases h with ⟨h1, j, rfl, hj, h⟩ | ⟨h1, h⟩
  · have ht := ble_t h1
    have htag := pt_ok_w (pt_okS_hd (pt_okS_tl hs)) (Or.inr ht)
    have hb : t < 4000 := by have := pt_tag_w htag; omega
    have hc : (nI j).toNatClampNeg = j := nI_clamp (by omega)
    rw [List.map_cons, List.map_cons, pt_cv_w (Or.inr ht)]
    refine va_iald X.1 X.2.1 X.2.2.2.2.2.1 hP o 0 ((pt_W_at htag).trans (by rw [pt_E_int ht])) rfl (vp_in_nI hj (by omega)) hd ?_
    rw [hc]
    exact hK _ _ _ _ h (pt_okS_cons trivial (pt_okS_tl (pt_okS_tl hs))) hl hn ls H locs hls hP hS
  · replace h := cond_t h
    obtain ⟨h2, j, rfl, hj, h⟩ := h
    have e := beq_t h2
    subst e
    have ho : o < 3 := by
      rcases pt_okS_hd (pt_okS_tl hs) with z | z | z | z | z | z <;> first | exact z.2 | exact absurd (pt_tag_w z) (by omega) | omega
    obtain ⟨t1, t2, t3, t4, t5, t6, t7, t8⟩ := X.2.2.2.2.2.2.2
    exact va_ti X.1 X.2.1 (t1 o ho).2 hS (vp_in_nI hj (by omega)) (by show Value.int (pt_tab o (nI j).toNatClampNeg) = Value.int (pt_tab o j); rw [nI_clamp (by omega)]) hd (hK _ _ _ _ h (pt_okS_cons trivial (pt_okS_tl (pt_okS_tl hs))) hl hn ls H locs hls hP hS)
set_option maxHeartbeats 400000 in
theorem ok_ast {cc : ByteArray} {own : String} {nL : Nat} {rt : Option FieldType} {pc nx : Nat} (hd : decode cc pc = .ok (.iastore, 1)) (en : pc + 1 = nx) : pt_OK cc own nL rt pc (o_ast nx) := by
  intro G p l e R s m args below meth c cells slots Qw d C X IH RM K Q hK hQ L S mm h hs hl hn ls H locs hls hP hS
  subst en
  replace h := o_ast_of h
  obtain ⟨x, i, t, o, S2, rfl, h⟩ := h
  replace h := cond_t h
  obtain ⟨h1, j, rfl, hj, h⟩ := h
  have ht := ble_t h1
  have htag := pt_ok_w (pt_okS_hd (pt_okS_tl (pt_okS_tl hs))) (Or.inr ht)
  have hb : t < 4000 := by have := pt_tag_w htag; omega
  have hc : (nI j).toNatClampNeg = j := nI_clamp (by omega)
  rw [List.map_cons, List.map_cons, List.map_cons, pt_cv_w (Or.inr ht)]
  refine va_iast X.1 X.2.1 X.2.2.2.2.2.1 hP (pt_D X.2.2.2.2.2.2.1 mm) hS o 0 ((pt_W_at htag).trans (by rw [pt_E_int ht])) rfl (vp_in_nI hj (by omega)) hd (fun H1 locs1 hP1 _ hS1 => ?_)
  rw [hc, ← st_o, ← pt_E_int (G := G) (m := st mm o j x) (o := o) ht, ← pt_W_set htag (fun q hq => st_ne hq)] at hP1
  exact hK _ _ _ _ h (pt_okS_tl (pt_okS_tl (pt_okS_tl hs))) hl hn ls H1 locs1 hls hP1 hS1
theorem pt_E_z {G : pt_G} {m : pt_M} {o : Nat} : pt_E G m 11 o = .inl (gC G 1, 2, .inl (m o)) := rfl
set_option maxHeartbeats 400000 in
theorem ok_zld {cc : ByteArray} {own : String} {nL : Nat} {rt : Option FieldType} {pc nx : Nat} (hd : decode cc pc = .ok (.baload, 1)) (en : pc + 1 = nx) : pt_OK cc own nL rt pc (o_zld nx) := by
  intro G p l e R s m args below meth c cells slots Qw d C X IH RM K Q hK hQ L S mm h hs hl hn ls H locs hls hP hS
  subst en
  replace h := o_zld_of h
  obtain ⟨i, t, o, S2, rfl, h⟩ := h
  replace h := cond_2 h
  rcases h with ⟨h1, j, rfl, hj, h⟩ | ⟨h1, h⟩
  · have e := beq_t h1
    subst e
    have htag := pt_ok_w (pt_okS_hd (pt_okS_tl hs)) (Or.inl (by omega))
    have hc : (nI j).toNatClampNeg = j := nI_clamp (by omega)
    rw [List.map_cons, List.map_cons, pt_cv_w (Or.inl (by omega))]
    refine va_zald X.1 X.2.1 X.2.2.2.2.2.1 hP o 1 (pt_W_at htag) rfl (vp_in_nI hj (by omega)) hd ?_
    rw [hc]
    exact hK _ _ _ _ h (pt_okS_cons trivial (pt_okS_tl (pt_okS_tl hs))) hl hn ls H locs hls hP hS
  · replace h := cond_t h
    obtain ⟨h2, j, rfl, hj, h⟩ := h
    have e := beq_t h2
    subst e
    have ho : o < 7 := by
      rcases pt_okS_hd (pt_okS_tl hs) with z | z | z | z | z | z <;> first | exact z.2 | exact absurd (pt_tag_w z) (by omega) | omega
    have hlen : ∀ o, o < 7 → pt_len.getD o 0 < 10 := by decide
    have hl2 := hlen o ho
    obtain ⟨t1, t2, t3, t4, t5, t6, t7, t8⟩ := X.2.2.2.2.2.2.2
    exact va_tb X.1 X.2.1 (t4.1 o ho).2.2.2 hS (vp_in_nI hj (by omega)) (by show Value.int ((pt_byt.getD o []).getD (nI j).toNatClampNeg 0) = Value.int ((pt_byt.getD o []).getD j 0); rw [nI_clamp (by omega)]) hd (hK _ _ _ _ h (pt_okS_cons trivial (pt_okS_tl (pt_okS_tl hs))) hl hn ls H locs hls hP hS)
set_option maxHeartbeats 400000 in
theorem ok_zst {cc : ByteArray} {own : String} {nL : Nat} {rt : Option FieldType} {pc nx : Nat} (hd : decode cc pc = .ok (.bastore, 1)) (en : pc + 1 = nx) : pt_OK cc own nL rt pc (o_zst nx) := by
  intro G p l e R s m args below meth c cells slots Qw d C X IH RM K Q hK hQ L S mm h hs hl hn ls H locs hls hP hS
  subst en
  replace h := o_zst_of h
  obtain ⟨x, i, t, o, S2, rfl, h⟩ := h
  replace h := cond_t h
  obtain ⟨h1, j, rfl, hj, hx, h⟩ := h
  have e := beq_t h1
  subst e
  have htag := pt_ok_w (pt_okS_hd (pt_okS_tl (pt_okS_tl hs))) (Or.inl (by omega))
  have hc : (nI j).toNatClampNeg = j := nI_clamp (by omega)
  have hx1 : vp_nar .boolean x = x := by rcases hx with rfl | rfl <;> decide +kernel
  rw [List.map_cons, List.map_cons, List.map_cons, pt_cv_w (Or.inl (by omega))]
  refine va_zast X.1 X.2.1 X.2.2.2.2.2.1 hP (pt_D X.2.2.2.2.2.2.1 mm) hS o 1 (pt_W_at htag) rfl (vp_in_nI hj (by omega)) hd (fun H1 locs1 hP1 _ hS1 => ?_)
  rw [hc, hx1, ← st_o, ← pt_E_z (G := G) (m := st mm o j x) (o := o), ← pt_W_set htag (fun q hq => st_ne hq)] at hP1
  exact hK _ _ _ _ h (pt_okS_tl (pt_okS_tl (pt_okS_tl hs))) hl hn ls H1 locs1 hls hP1 hS1
set_option maxHeartbeats 400000 in
theorem ok_len {cc : ByteArray} {own : String} {nL : Nat} {rt : Option FieldType} {pc nx : Nat} (hd : decode cc pc = .ok (.arraylength, 1)) (en : pc + 1 = nx) : pt_OK cc own nL rt pc (o_len nx) := by
  intro G p l e R s m args below meth c cells slots Qw d C X IH RM K Q hK hQ L S mm h hs hl hn ls H locs hls hP hS
  subst en
  replace h := o_len_of h
  obtain ⟨t, o, S2, rfl, h⟩ := h
  obtain ⟨t1, t2, t3, t4, t5, t6, t7, t8⟩ := X.2.2.2.2.2.2.2
  replace h := cond_2 h
  rcases h with ⟨h1, h⟩ | ⟨h1, h⟩
  · have ht := ble_t h1
    have htag := pt_ok_w (pt_okS_hd hs) (Or.inr ht)
    rw [List.map_cons, pt_cv_w (Or.inr ht)]
    have hw : (pt_W G mm)[o]? = some (gA G o, .inl (gC G 0, t - 1000, .inl (mm o))) := (pt_W_at htag).trans (by rw [pt_E_int ht])
    generalize t - 1000 = n at h hw
    exact va_alen X.1 X.2.1 X.2.2.2.2.2.1 hP o 0 (ty := .int) (x := (n, .inl (mm o))) (v := nI n) hw rfl rfl hd (hK _ _ _ _ h (pt_okS_cons trivial (pt_okS_tl hs)) hl hn ls H locs hls hP hS)
  · replace h := cond_2 h
    rcases h with ⟨h2, h⟩ | ⟨h2, h⟩
    · have e := beq_t h2
      subst e
      have ho : o < 7 := by
        rcases pt_okS_hd hs with z | z | z | z | z | z <;> first | exact z.2 | exact absurd (pt_tag_w z) (by omega) | omega
      exact va_tlen X.1 X.2.1 (t4.1 o ho).2.2.2 hS rfl hd (hK _ _ _ _ h (pt_okS_cons trivial (pt_okS_tl hs)) hl hn ls H locs hls hP hS)
    · replace h := cond_t h
      obtain ⟨h3, h⟩ := h
      have e := beq_t h3
      subst e
      have ho : o < 3 := by
        rcases pt_okS_hd hs with z | z | z | z | z | z <;> first | exact z.2 | exact absurd (pt_tag_w z) (by omega) | omega
      exact va_tlen X.1 X.2.1 (t1 o ho).2 hS rfl hd (hK _ _ _ _ h (pt_okS_cons trivial (pt_okS_tl hs)) hl hn ls H locs hls hP hS)
set_option maxHeartbeats 400000 in
theorem ok_rld {cc : ByteArray} {own : String} {nL : Nat} {rt : Option FieldType} {pc nx : Nat} (hd : decode cc pc = .ok (.aaload, 1)) (en : pc + 1 = nx) : pt_OK cc own nL rt pc (o_rld nx) := by
  intro G p l e R s m args below meth c cells slots Qw d C X IH RM K Q hK hQ L S mm h hs hl hn ls H locs hls hP hS
  subst en
  replace h := o_rld_of h
  obtain ⟨i, t, o, S2, rfl, h⟩ := h
  replace h := cond_2 h
  rcases h with ⟨h1, j, rfl, hj, h⟩ | ⟨h1, h⟩
  · have e := beq_t h1
    subst e
    have htag := pt_ok_w (pt_okS_hd (pt_okS_tl hs)) (Or.inl (by omega))
    have h3 := pt_rows_at htag hj
    have hk := hK _ _ _ _ h (pt_okS_cons (pt_okW h3) (pt_okS_tl (pt_okS_tl hs))) hl hn ls H locs hls hP hS
    rw [List.map_cons, pt_cv_w (Or.inl (by omega))] at hk
    rw [List.map_cons, List.map_cons, pt_cv_w (Or.inl (by omega))]
    refine va_aldq X.1 X.2.1 X.2.2.2.2.2.1 hP o 2 (pt_W_at htag) rfl (vp_in_nI hj (by omega)) hd ?_
    rw [nI_clamp (by omega)]
    exact hk
  · replace h := cond_2 h
    rcases h with ⟨h1, j, rfl, hj, h⟩ | ⟨h1, h⟩
    · have e := beq_t h1
      subst e
      have htag := pt_ok_w (pt_okS_hd (pt_okS_tl hs)) (Or.inl (by omega))
      have h3 := pt_acts_at htag hj
      have hk := hK _ _ _ _ h (pt_okS_cons (pt_okW h3) (pt_okS_tl (pt_okS_tl hs))) hl hn ls H locs hls hP hS
      rw [List.map_cons, pt_cv_w (Or.inl (by omega))] at hk
      rw [List.map_cons, List.map_cons, pt_cv_w (Or.inl (by omega))]
      refine va_aldq X.1 X.2.1 X.2.2.2.2.2.1 hP o 3 (pt_W_at htag) rfl (vp_in_nI hj (by omega)) hd ?_
      rw [nI_clamp (by omega)]
      exact hk
    · replace h := cond_t h
      obtain ⟨h1, j, rfl, hj, h⟩ := h
      have e := beq_t h1
      subst e
      have htag := pt_ok_w (pt_okS_hd (pt_okS_tl hs)) (Or.inl (by omega))
      have h3 := pt_imgs_at htag hj
      have hk := hK _ _ _ _ h (pt_okS_cons (pt_okW h3) (pt_okS_tl (pt_okS_tl hs))) hl hn ls H locs hls hP hS
      rw [List.map_cons, pt_cv_w (Or.inl (by omega))] at hk
      rw [List.map_cons, List.map_cons, pt_cv_w (Or.inl (by omega))]
      refine va_aldq X.1 X.2.1 X.2.2.2.2.2.1 hP o 3 (pt_W_at htag) rfl (vp_in_nI hj (by omega)) hd ?_
      rw [nI_clamp (by omega)]
      exact hk
set_option maxHeartbeats 800000 in
theorem ok_cpy {cc : ByteArray} {own : String} {nL : Nat} {rt : Option FieldType} {pc nx ix : Nat} (hd : decode cc pc = .ok (.invokestatic ix, 3)) (en : pc + 3 = nx) (ew : Cond.methodLink own ix arraycopyName ∈ pt_tbl ∧ Cond.native arraycopyName ∈ pt_tbl ∧ Cond.static arraycopyName ∈ pt_tbl ∧ Cond.initialized "java/lang/System" ∈ pt_tbl) : pt_OK cc own nL rt pc (o_cpy nx) := by
  intro G p l e R s m args below meth c cells slots Qw d C X IH RM K Q hK hQ L S mm h hs hl hn ls H locs hls hP hS
  subst en
  replace h := o_cpy_of h
  obtain ⟨n, dp, t2, o2, sp, t1, o1, S2, rfl, h⟩ := h
  replace h := cond_t h
  obtain ⟨h1, a, b, k, rfl, rfl, rfl, ha, hb, h⟩ := h
  rw [Bool.and_eq_true, Bool.and_eq_true] at h1
  have ht1 := ble_t h1.1.1
  have ht2 := ble_t h1.1.2
  have hsz := ble_t h1.2
  have htag2 := pt_ok_w (pt_okS_hd (pt_okS_tl (pt_okS_tl hs))) (Or.inr ht2)
  have htag1 := pt_ok_w (pt_okS_hd (pt_okS_tl (pt_okS_tl (pt_okS_tl (pt_okS_tl hs))))) (Or.inr ht1)
  have hb1 : t1 < 4000 := by have := pt_tag_w htag1; omega
  have hb2 : t2 < 4000 := by have := pt_tag_w htag2; omega
  have ca : (nI a).toNatClampNeg = a := nI_clamp (by omega)
  have cb : (nI b).toNatClampNeg = b := nI_clamp (by omega)
  have ck : (nI k).toNatClampNeg = k := nI_clamp (by omega)
  rw [List.map_cons, List.map_cons, List.map_cons, List.map_cons, List.map_cons, pt_cv_w (Or.inr ht1), pt_cv_w (Or.inr ht2)]
  refine va_copyi X.1 X.2.1 (X.2.2.1.trans hls.1.symm) X.2.2.2.1 (X.2.2.2.2.1 _ ew.1) (X.2.2.2.2.1 _ ew.2.1) (X.2.2.2.2.1 _ ew.2.2.1) (X.2.2.2.2.1 _ ew.2.2.2) X.2.2.2.2.2.1 hP (pt_D X.2.2.2.2.2.2.1 mm) hS o1 o2 0 0 (ty := .int)
    ((pt_W_at htag1).trans (by rw [pt_E_int ht1])) ((pt_W_at htag2).trans (by rw [pt_E_int ht2])) rfl rfl rfl (nI_pos (by omega)) (nI_pos (by omega)) (nI_pos (by omega)) (by rw [ca, ck]; exact ha) (by rw [cb, ck]; exact hb) (fun _ _ => rfl)
    (by have := RM.1; omega) ?_ hd (fun H1 locs1 hP1 _ hS1 => ?_)
  · have e1 : nativeFrameWords "java/lang/System" "arraycopy" 5 = 7 := by decide +kernel
    rw [e1, pt_sz_cat X.2.2.2.2.2.2.1]
    have := RM.2.1
    omega
  · rw [ca, cb, ck, ← cpm_o, ← pt_E_int (G := G) (m := cpm mm o1 a o2 b k) (o := o2) ht2, ← pt_W_set htag2 (fun q hq => cpm_ne hq)] at hP1
    exact hK _ _ _ _ h (pt_okS_tl (pt_okS_tl (pt_okS_tl (pt_okS_tl (pt_okS_tl hs))))) hl hn ls H1 locs1 hls hP1 hS1
/-! the script -/
set_option maxHeartbeats 400000 in
theorem pt_xld {cc : ByteArray} {own : String} {nL pc nx : Nat} {G : pt_G} {p : Program} {l : Launch} {e : Env} {R : Room} {s : State} {m : MethodId} {args : Array Value} {below : List Frame} {meth : Method} {c : Code} {cells slots : Nat} {Qw : State → Prop} (X : pt_X G p s m args c cc own nL) {C : pt_C} {K : pt_K} {Q : pt_Q} (hb0 : (gX G).2.1 < 2 ^ 31)
    (hd : decode cc pc = .ok (.iaload, 1)) (en : pc + 1 = nx) (hK : ∀ pc L S mm, K pc L S mm → pt_SK G p l e R s m args below meth c nL cells slots Qw pc L S mm) (L : pt_L) (S : pt_S) (mm : pt_M) (h : o_xld (gX G).2.1 (gX G).2.2 nx C L S mm K Q) : pt_SK G p l e R s m args below meth c nL cells slots Qw pc L S mm := by
  intro hs hl hn ls H locs hls hP hS
  subst en
  replace h := o_xld_of h
  obtain ⟨i, t, o, S2, rfl, h⟩ := h
  replace h := cond_t h
  obtain ⟨h1, j, rfl, hj, h⟩ := h
  have e := beq_t h1
  subst e
  obtain ⟨t1, t2, t3, t4, t5, t6, t7, t8, t9⟩ := X.2.2.2.2.2.2.2
  have hbl : (gX G).1 < s.heap.size := by
    obtain ⟨scr, g1, -⟩ := t8
    exact (Array.getElem?_eq_some_iff.mp g1).1
  refine va_sld X.1 X.2.1 t8 hbl t9 hS (vp_in_nI hj hb0) hd ?_
  rw [nI_clamp (by omega)]
  exact hK _ _ _ _ h (pt_okS_cons trivial (pt_okS_tl (pt_okS_tl hs))) hl hn ls H locs hls hP hS
set_option maxHeartbeats 400000 in
theorem pt_xlen {cc : ByteArray} {own : String} {nL pc nx : Nat} {G : pt_G} {p : Program} {l : Launch} {e : Env} {R : Room} {s : State} {m : MethodId} {args : Array Value} {below : List Frame} {meth : Method} {c : Code} {cells slots : Nat} {Qw : State → Prop} (X : pt_X G p s m args c cc own nL) {C : pt_C} {K : pt_K} {Q : pt_Q}
    (hd : decode cc pc = .ok (.arraylength, 1)) (en : pc + 1 = nx) (hK : ∀ pc L S mm, K pc L S mm → pt_SK G p l e R s m args below meth c nL cells slots Qw pc L S mm) (L : pt_L) (S : pt_S) (mm : pt_M) (h : o_xlen (gX G).2.1 nx C L S mm K Q) : pt_SK G p l e R s m args below meth c nL cells slots Qw pc L S mm := by
  intro hs hl hn ls H locs hls hP hS
  subst en
  replace h := o_xlen_of h
  obtain ⟨t, o, S2, rfl, h⟩ := h
  replace h := cond_t h
  obtain ⟨h1, h⟩ := h
  have e := beq_t h1
  subst e
  obtain ⟨t1, t2, t3, t4, t5, t6, t7, t8, t9⟩ := X.2.2.2.2.2.2.2
  have hbl : (gX G).1 < s.heap.size := by
    obtain ⟨scr, g1, -⟩ := t8
    exact (Array.getElem?_eq_some_iff.mp g1).1
  exact va_slen X.1 X.2.1 t8 hbl t9 hS hd (hK _ _ _ _ h (pt_okS_cons trivial (pt_okS_tl hs)) hl hn ls H locs hls hP hS)
/-! returns -/
theorem ok_ret {cc : ByteArray} {own : String} {nL : Nat} {pc : Nat} (hd : decode cc pc = .ok (.return_, 1)) : pt_OK cc own nL none pc o_ret := by
  intro G p l e R s m args below meth c cells slots Qw d C X IH RM K Q hK hQ L S mm h hs hl hn ls H locs hls hP hS
  unfold o_ret at h
  split at h
  · exact hQ pc ls H locs none mm h ⟨hd, rfl⟩ hP hS
  · exact h.elim
theorem ok_rI {cc : ByteArray} {own : String} {nL : Nat} {pc : Nat} (hd : decode cc pc = .ok (.ireturn, 1)) : pt_OK cc own nL (some .int) pc o_rI := by
  intro G p l e R s m args below meth c cells slots Qw d C X IH RM K Q hK hQ L S mm h hs hl hn ls H locs hls hP hS
  unfold o_rI at h
  split at h
  next x => exact hQ pc ls H locs (some (zI x)) mm h ⟨hd, .int, rfl, rfl⟩ hP hS
  next => exact h.elim
theorem ok_rZ {cc : ByteArray} {own : String} {nL : Nat} {pc : Nat} {ty : FieldType} (hd : decode cc pc = .ok (.ireturn, 1)) : pt_OK cc own nL (some ty) pc (o_rZ ty) := by
  intro G p l e R s m args below meth c cells slots Qw d C X IH RM K Q hK hQ L S mm h hs hl hn ls H locs hls hP hS
  unfold o_rZ at h
  split at h
  next x => exact hQ pc ls H locs (some (zI x)) mm h.2 ⟨hd, ty, rfl, h.1⟩ hP hS
  next => exact h.elim
theorem ok_rL {cc : ByteArray} {own : String} {nL : Nat} {pc : Nat} (hd : decode cc pc = .ok (.lreturn, 1)) : pt_OK cc own nL (some .long) pc o_rL := by
  intro G p l e R s m args below meth c cells slots Qw d C X IH RM K Q hK hQ L S mm h hs hl hn ls H locs hls hP hS
  unfold o_rL at h
  split at h
  next x => exact hQ pc ls H locs (some (zL x)) mm h ⟨hd, rfl⟩ hP hS
  next => exact h.elim
end
section
/-! 08.calls: calls; runs of the small machine; that the real machine does what it says -/
def pt_cW (r : pt_R) (n : Nat) : Prop := Cond.code r.1 r.2.1 r.2.2.1 r.2.2.2 ∈ lw_tbl ∧ Cond.initialized r.1.cls ∈ pt_tbl ∧ (r.1.cls ≠ "java/lang/invoke/MethodHandle" ∧ r.1.cls ≠ "java/lang/invoke/VarHandle" ∧ (parseMethodDescriptor r.1.desc).map (fun d => d.parameters.length) = some n) ∧ r.2.2.1 ≤ 41
theorem pt_ws_good {r : pt_R} (h : Cond.code r.1 r.2.1 r.2.2.1 r.2.2.2 ∈ lw_tbl) : GoodIn pt_tbl (pt_ws r) := by
  intro w hw
  rcases List.mem_cons.mp hw with rfl | hw
  · exact ⟨pt_tbl_in h rfl, good_of_word rfl⟩
  · exact ⟨hw, good_of_word (List.mem_filter.mp hw).2⟩
section PCL
variable {G : pt_G} {p : Program} {l : Launch} {e : Env} {R : Room} {s : State} {m : MethodId} {args : Array Value} {below : List Frame} {meth : Method} {c : Code} {H : Heap} {locs : List Loc} {cells slots : Nat} {Qw : State → Prop} {cc : ByteArray} {own : String} {nL d : Nat}
theorem pt_callB (X : pt_X G p s m args c cc own nL) (RM : pt_RM R d cells slots) {r : pt_R} {n ix : Nat} (hw : pt_cW r n) (hl : Cond.methodLink own ix r.1 ∈ pt_tbl) : CallB R s args own ix r.1 r.2.1 r.2.2.1 r.2.2.2 (pt_ws r) (pt_rm d) 0 0 n :=
  callB_of n X.2.2.2.2.1 (pt_ws_good hw.1) rfl rfl rfl (X.2.2.2.2.1 _ hw.2.1) (X.2.2.2.2.1 _ hl) hw.2.2.1 ⟨RM.1, by have h1 := RM.2.1; have h2 := hw.2.2.2; show 8 + (r.2.2.1 + 11) + 60 * d ≤ R.locals; omega⟩
theorem pt_preU (X : pt_X G p s m args c cc own nL) {mm : pt_M} (hP : va_P (gD G) vwCl (pt_W G mm) H) (hS : va_S (pt_A G) s.heap H locs) {U : State} (hU : U.heap = H) (hW : s.WarmedH U.vm) : pt_Pre G mm U :=
  ⟨by rw [hU]; exact hP, va_K.moved hW.alike X.2.2.2.2.2.1, by rw [hU]; exact X.2.2.2.2.2.2.2.use hW hS⟩
end PCL
theorem pt_map_rev {G : pt_G} {S S2 : pt_S} {b : List pt_V} (h : S = b.reverse ++ S2) : S.map (pt_cv G) = (b.map (pt_cv G)).reverse ++ S2.map (pt_cv G) := by
  rw [h, List.map_append, List.map_reverse]
theorem pt_res_map {G : pt_G} (r : Option pt_V) (S : pt_S) : (pt_res r S).map (pt_cv G) = (r.map (pt_cv G)).toList ++ S.map (pt_cv G) := by
  cases r <;> rfl
theorem pt_res_ok {r : Option pt_V} {S : pt_S} (h1 : ∀ v, r = some v → pt_ok v) (h2 : ∀ v ∈ S, pt_ok v) : ∀ v ∈ pt_res r S, pt_ok v := by
  cases r with
  | none => exact h2
  | some v => exact pt_okS_cons (h1 v rfl) h2
theorem o_cV_of {k n t nx : Nat} {C : pt_C} {L : pt_L} {S : pt_S} {m : pt_M} {K : pt_K} {Q : pt_Q} (h : o_cV k n t nx C L S m K Q) : ∃ (o : Nat) (as : List pt_V) (S2 : pt_S), S = (zR t o :: as).reverse ++ S2 ∧ as.length = n ∧ pt_sz S2 ≤ 8 ∧ C k (zR t o :: as) m (fun r m' => K nx L (pt_res r S2) m') := by
  unfold o_cV at h
  split at h
  next t1 o as S2 hp =>
    obtain ⟨b, h1, h2, h3⟩ := pt_pop_spec _ _ _ _ _ hp
    rw [List.append_nil] at h1
    subst h1
    replace h := cond_t h
    obtain ⟨h4, h⟩ := h
    rw [Bool.and_eq_true] at h4
    have e := beq_t h4.1
    subst e
    exact ⟨o, as, S2, h2, by simpa using h3, ble_t h4.2, h⟩
  next => exact h.elim
theorem o_cS_of {k n nx : Nat} {C : pt_C} {L : pt_L} {S : pt_S} {m : pt_M} {K : pt_K} {Q : pt_Q} (h : o_cS k n nx C L S m K Q) : ∃ (as : List pt_V) (S2 : pt_S), S = as.reverse ++ S2 ∧ as.length = n ∧ pt_sz S2 ≤ 8 ∧ C k as m (fun r m' => K nx L (pt_res r S2) m') := by
  unfold o_cS at h
  split at h
  next as S2 hp =>
    obtain ⟨b, h1, h2, h3⟩ := pt_pop_spec _ _ _ _ _ hp
    rw [List.append_nil] at h1
    subst h1
    replace h := cond_t h
    obtain ⟨h4, h⟩ := h
    exact ⟨as, S2, h2, h3, ble_t h4, h⟩
  next => exact h.elim
theorem pt_okS_app {a b : pt_S} (h : ∀ v ∈ a ++ b, pt_ok v) : (∀ v ∈ a, pt_ok v) ∧ ∀ v ∈ b, pt_ok v := ⟨fun v hv => h v (List.mem_append_left _ hv), fun v hv => h v (List.mem_append_right _ hv)⟩
set_option maxHeartbeats 800000 in
theorem ok_cV {cc : ByteArray} {own : String} {nL : Nat} {rt : Option FieldType} {pc nx : Nat} {k n t ix : Nat} {r : pt_R} (hr : pt_mt k = some r) (hw : pt_cW r n) (hv : Cond.instanceMethod r.1 ∈ pt_tbl ∧ Cond.selects r.1.cls r.1 r.1 ∈ pt_tbl) (ew : Cond.methodLink own ix r.1 ∈ pt_tbl) (ht : t < 8) {T : u_T} {N : Nat} (hc : vwCl[t]? = some (r.1.cls, T, N))
    (hd : decode cc pc = .ok (.invokevirtual ix, 3)) (en : pc + 3 = nx) : pt_OK cc own nL rt pc (o_cV k n t nx) := by
  intro G p l e R s m args below meth c cells slots Qw d C X IH RM K Q hK hQ L S mm h hs hl hn ls H locs hls hP hS
  subst en
  replace h := o_cV_of h
  obtain ⟨o, as, S2, hS2, hlen, hsz, h⟩ := h
  subst hS2
  obtain ⟨ok1, ok2⟩ := pt_okS_app hs
  have okas : ∀ v ∈ zR t o :: as, pt_ok v := fun v hv => ok1 v (List.mem_reverse.mpr hv)
  have htag := pt_ok_w (okas _ List.mem_cons_self) (pt_w_of ht)
  have hM := IH k r (zR t o :: as) mm _ hr okas h
  have hcv : pt_cv G (zR t o) = .ref (gA G o) := pt_cv_w (pt_w_of ht)
  rw [List.map_cons, hcv] at hM
  rw [pt_map_rev (b := zR t o :: as) rfl, List.map_cons, hcv]
  have hst : (Value.ref (gA G o) :: as.map (pt_cv G)).reverse ++ S2.map (pt_cv G) = (as.map (pt_cv G)).reverse ++ .ref (gA G o) :: S2.map (pt_cv G) := by simp
  rw [hst]
  refine pt_back (va_runV (As := as.map (pt_cv G)) (rest := S2.map (pt_cv G)) ⟨X.1, X.2.1, X.2.2.1, X.2.2.2.1, X.2.2.2.2.1⟩ hM ⟨pt_callB X RM hw ew, X.2.2.2.2.1 _ hv.1, X.2.2.2.2.1 _ hv.2⟩ ⟨pt_blind G _ mm, va_recv X.2.2.2.2.2.1 hP hc ((pt_W_at htag).trans (by rw [pt_E_obj ht])), fun U hU hW => ⟨rfl, pt_preU X hP hS hU hW⟩⟩ rfl (by rw [List.length_map]; exact hlen) hls.1 rfl (lv_room (by rw [pt_sz_cat X.2.2.2.2.2.2.1]; exact hsz)) hd ⟨RM.2.2.1, RM.2.2.2⟩) hS (fun r1 m1 H1 locs1 hq hok hP1 hS1 => ?_)
  have hk := hK _ _ _ _ hq (pt_res_ok hok ok2) hl hn ls H1 locs1 hls hP1 hS1
  rw [pt_res_map] at hk
  exact hk
set_option maxHeartbeats 800000 in
theorem ok_cT {cc : ByteArray} {own : String} {nL : Nat} {rt : Option FieldType} {pc nx : Nat} {k n ix : Nat} {r : pt_R} (hr : pt_mt k = some r) (hw : pt_cW r n) (hv : Cond.instanceMethod r.1 ∈ pt_tbl ∧ Cond.selects "java/lang/String" r.1 r.1 ∈ pt_tbl) (ew : Cond.methodLink own ix r.1 ∈ pt_tbl)
    (hd : decode cc pc = .ok (.invokevirtual ix, 3)) (en : pc + 3 = nx) : pt_OK cc own nL rt pc (o_cV k n 12 nx) := by
  intro G p l e R s m args below meth c cells slots Qw d C X IH RM K Q hK hQ L S mm h hs hl hn ls H locs hls hP hS
  subst en
  replace h := o_cV_of h
  obtain ⟨o, as, S2, hS2, hlen, hsz, h⟩ := h
  subst hS2
  obtain ⟨ok1, ok2⟩ := pt_okS_app hs
  have okas : ∀ v ∈ zR 12 o :: as, pt_ok v := fun v hv => ok1 v (List.mem_reverse.mpr hv)
  have ho : o < 7 := by
    rcases okas _ List.mem_cons_self with z | z | z | z | z | z <;> first | exact z.2 | exact absurd (pt_tag_w z) (by omega) | omega
  have hM := IH k r (zR 12 o :: as) mm _ hr okas h
  have hcv : pt_cv G (zR 12 o) = .ref (gK G o) := rfl
  rw [List.map_cons, hcv] at hM
  rw [pt_map_rev (b := zR 12 o :: as) rfl, List.map_cons, hcv]
  have hst : (Value.ref (gK G o) :: as.map (pt_cv G)).reverse ++ S2.map (pt_cv G) = (as.map (pt_cv G)).reverse ++ .ref (gK G o) :: S2.map (pt_cv G) := by simp
  rw [hst]
  refine pt_back (va_runV (As := as.map (pt_cv G)) (rest := S2.map (pt_cv G)) ⟨X.1, X.2.1, X.2.2.1, X.2.2.2.1, X.2.2.2.2.1⟩ hM ⟨pt_callB X RM hw ew, X.2.2.2.2.1 _ hv.1, X.2.2.2.2.1 _ hv.2⟩ ⟨pt_blind G _ mm, vk_recv X.2.2.2.2.2.2.2.2.2.2.1 ho hS, fun U hU hW => ⟨rfl, pt_preU X hP hS hU hW⟩⟩ rfl (by rw [List.length_map]; exact hlen) hls.1 rfl (lv_room (by rw [pt_sz_cat X.2.2.2.2.2.2.1]; exact hsz)) hd ⟨RM.2.2.1, RM.2.2.2⟩) hS (fun r1 m1 H1 locs1 hq hok hP1 hS1 => ?_)
  have hk := hK _ _ _ _ hq (pt_res_ok hok ok2) hl hn ls H1 locs1 hls hP1 hS1
  rw [pt_res_map] at hk
  exact hk
set_option maxHeartbeats 800000 in
theorem ok_cS {cc : ByteArray} {own : String} {nL : Nat} {rt : Option FieldType} {pc nx : Nat} {k n ix : Nat} {r : pt_R} (hr : pt_mt k = some r) (hw : pt_cW r n) (hv : Cond.static r.1 ∈ pt_tbl) (ew : Cond.methodLink own ix r.1 ∈ pt_tbl)
    (hd : decode cc pc = .ok (.invokestatic ix, 3)) (en : pc + 3 = nx) : pt_OK cc own nL rt pc (o_cS k n nx) := by
  intro G p l e R s m args below meth c cells slots Qw d C X IH RM K Q hK hQ L S mm h hs hl hn ls H locs hls hP hS
  subst en
  replace h := o_cS_of h
  obtain ⟨as, S2, hS2, hlen, hsz, h⟩ := h
  subst hS2
  obtain ⟨ok1, ok2⟩ := pt_okS_app hs
  have okas : ∀ v ∈ as, pt_ok v := fun v hv => ok1 v (List.mem_reverse.mpr hv)
  have hM := IH k r as mm _ hr okas h
  rw [pt_map_rev (b := as) rfl]
  refine pt_back (va_runS (As := as.map (pt_cv G)) (rest := S2.map (pt_cv G)) ⟨X.1, X.2.1, X.2.2.1, X.2.2.2.1, X.2.2.2.2.1⟩ hM ⟨pt_callB X RM hw ew, X.2.2.2.2.1 _ hv⟩ ⟨pt_blind G _ mm, fun U hU hW => ⟨rfl, pt_preU X hP hS hU hW⟩⟩ rfl (by rw [List.length_map]; exact hlen) hls.1 rfl (lv_room (by rw [pt_sz_cat X.2.2.2.2.2.2.1]; exact hsz)) hd ⟨RM.2.2.1, RM.2.2.2⟩) hS (fun r1 m1 H1 locs1 hq hok hP1 hS1 => ?_)
  have hk := hK _ _ _ _ hq (pt_res_ok hok ok2) hl hn ls H1 locs1 hls hP1 hS1
  rw [pt_res_map] at hk
  exact hk
set_option maxHeartbeats 800000 in
theorem ok_cN {cc : ByteArray} {own : String} {nL : Nat} {rt : Option FieldType} {pc nx : Nat} {k n ix : Nat} {r : pt_R} {host : String} (hr : pt_mt k = some r) (hw : pt_cW r n) (hv : Cond.static r.1 ∈ pt_tbl) (ew : (own, ix, r.1, host) ∈ pt_nM)
    (hd : decode cc pc = .ok (.invokestatic ix, 3)) (en : pc + 3 = nx) : pt_OK cc own nL rt pc (o_cS k n nx) := by
  intro G p l e R s m args below meth c cells slots Qw d C X IH RM K Q hK hQ L S mm h hs hl hn ls H locs hls hP hS
  subst en
  replace h := o_cS_of h
  obtain ⟨as, S2, hS2, hlen, hsz, h⟩ := h
  subst hS2
  obtain ⟨ok1, ok2⟩ := pt_okS_app hs
  have okas : ∀ v ∈ as, pt_ok v := fun v hv => ok1 v (List.mem_reverse.mpr hv)
  have hM := IH k r as mm _ hr okas h
  rw [pt_map_rev (b := as) rfl]
  refine pt_back (va_runSN (As := as.map (pt_cv G)) (rest := S2.map (pt_cv G)) ⟨X.1, X.2.1, X.2.2.1, X.2.2.2.1, X.2.2.2.2.1⟩ hM ⟨va_cnB n X.2.2.2.2.1 (pt_ws_good hw.1) rfl rfl rfl (X.2.2.2.2.2.2.2.2.2.2.2.2.1 _ ew) (X.2.2.2.2.1 _ hw.2.1) hw.2.2.1 ⟨RM.1, by have h1 := RM.2.1; have h2 := hw.2.2.2; show 8 + (r.2.2.1 + 11) + 60 * d ≤ R.locals; omega⟩, X.2.2.2.2.1 _ hv, trivial⟩ ⟨pt_blind G _ mm, fun U hU hW => ⟨rfl, pt_preU X hP hS hU hW⟩⟩ rfl (by rw [List.length_map]; exact hlen) hls.1 rfl (lv_room (by rw [pt_sz_cat X.2.2.2.2.2.2.1]; exact hsz)) hd ⟨RM.2.2.1, RM.2.2.2⟩) hS (fun r1 m1 H1 locs1 hq hok hP1 hS1 => ?_)
  have hk := hK _ _ _ _ hq (pt_res_ok hok ok2) hl hn ls H1 locs1 hls hP1 hS1
  rw [pt_res_map] at hk
  exact hk
/-! runs -/
def pt_goF (C : pt_C) (t : Nat → Option pt_O) (Q : pt_Q) : pt_K := fun pc L S m => ∀ P : pt_K, (∀ (K : pt_K) (pc : Nat) (L : pt_L) (S : pt_S) (m : pt_M) (o : pt_O), t pc = some o → (∀ pc L S m, K pc L S m → P pc L S m) → o C L S m K Q → P pc L S m) → P pc L S m
theorem pt_go_ex : ∃ g : pt_C → (Nat → Option pt_O) → pt_Q → pt_K, g = pt_goF := ⟨_, rfl⟩
noncomputable def Go : pt_C → (Nat → Option pt_O) → pt_Q → pt_K := Classical.choose pt_go_ex
theorem Go_eq : Go = pt_goF := Classical.choose_spec pt_go_ex
theorem Go_step {C : pt_C} {t : Nat → Option pt_O} {Q : pt_Q} {pc : Nat} {L : pt_L} {S : pt_S} {m : pt_M} {o : pt_O} {K : pt_K} (ht : t pc = some o) (hK : ∀ pc L S m, K pc L S m → Go C t Q pc L S m) (h : o C L S m K Q) : Go C t Q pc L S m := by
  rw [Go_eq] at hK ⊢
  intro P hP
  exact hP K pc L S m o ht (fun pc L S m hk => hK pc L S m hk P hP) h
def pt_run (C : pt_C) (t : Nat → Option pt_O) (Q : pt_Q) (K : pt_K) : Nat → pt_K
  | 0 => K
  | n + 1 => fun pc L S m => match t pc with
    | some o => o C L S m (pt_run C t Q K n) Q
    | none => False
theorem Go_run {C : pt_C} {t : Nat → Option pt_O} {Q : pt_Q} : ∀ (n : Nat) {pc : Nat} {L : pt_L} {S : pt_S} {m : pt_M}, pt_run C t Q (Go C t Q) n pc L S m → Go C t Q pc L S m
  | 0, _, _, _, _, h => h
  | n + 1, pc, L, S, m, h => by
    unfold pt_run at h
    split at h
    next o ho => exact Go_step ho (fun pc L S m hk => Go_run n hk) h
    next => exact h.elim
def pt_exp : List pt_V → pt_L
  | [] => []
  | .inr (.inl x) :: l => some (.inr (.inl x)) :: none :: pt_exp l
  | v :: l => some v :: pt_exp l
def pt_ini (n : Nat) (as : List pt_V) : pt_L := pt_exp as ++ List.replicate (n - (pt_exp as).length) none
def pt_spF (T : Nat → Nat → Option pt_O) (I : Nat → Nat) : Nat → pt_C
  | 0 => fun _ _ _ _ => False
  | d + 1 => fun k as m Q => Go (pt_spF T I d) (T k) Q 0 (pt_ini (I k) as) [] m
theorem pt_sp_ex (T : Nat → Nat → Option pt_O) (I : Nat → Nat) : ∃ g : Nat → pt_C, g = pt_spF T I := ⟨_, rfl⟩
/-- what is proved of a method's code -/
def pt_TOK (r : pt_R) (t : Nat → Option pt_O) : Prop := ∀ (pc : Nat) (o : pt_O), t pc = some o → pt_OK r.2.1 r.1.cls r.2.2.1 r.2.2.2 pc o
def tN (n : Nat) (a b : Nat → Option pt_O) : Nat → Option pt_O := fun pc => cond (Nat.ble pc n) (a pc) (b pc)
def tL (n : Nat) (o : pt_O) : Nat → Option pt_O := fun pc => cond (Nat.beq pc n) (some o) none
theorem tN_ok {r : pt_R} {n : Nat} {a b : Nat → Option pt_O} (ha : pt_TOK r a) (hb : pt_TOK r b) : pt_TOK r (tN n a b) := by
  intro pc o h
  unfold tN at h
  cases hc : Nat.ble pc n with
  | true => rw [hc] at h; exact ha pc o h
  | false => rw [hc] at h; exact hb pc o h
theorem tL_ok {r : pt_R} {n : Nat} {o : pt_O} (h : pt_OK r.2.1 r.1.cls r.2.2.1 r.2.2.2 n o) : pt_TOK r (tL n o) := by
  intro pc o1 h1
  unfold tL at h1
  cases hc : Nat.beq pc n with
  | true =>
    rw [hc] at h1
    cases h1
    rw [beq_t hc]
    exact h
  | false => rw [hc] at h1; cases h1
/-! that it's sound -/
theorem pt_exp_ini {G : pt_G} (J : pt_J G) : ∀ (as : List pt_V) (j : Nat) (pre : pt_L), pre.length = j → ∀ (i : Nat) (v : pt_V), pt_get (pre ++ pt_exp as) i = some v → (pt_get pre i = some v) ∨ (i, pt_cv G v) ∈ lv_args j (as.map (pt_cv G))
  | [], j, pre, hj, i, v, h => by
    rw [show pt_exp [] = [] from rfl, List.append_nil] at h
    exact Or.inl h
  | a :: as, j, pre, hj, i, v, h => by
    have app : ∀ (l1 l2 : pt_L) (i : Nat), pt_get (l1 ++ l2) i = if i < l1.length then pt_get l1 i else pt_get l2 (i - l1.length) := by
      intro l1
      induction l1 with
      | nil => intro l2 i; simp
      | cons x l1 ih =>
        intro l2 i
        cases i with
        | zero => simp [pt_get]
        | succ i =>
          show pt_get (l1 ++ l2) i = if i + 1 < l1.length + 1 then pt_get l1 i else pt_get l2 (i + 1 - (l1.length + 1))
          rw [ih]
          by_cases q : i < l1.length
          · rw [if_pos q, if_pos (by omega)]
          · rw [if_neg q, if_neg (by omega)]
            congr 1
            omega
    have one : ∀ (w : pt_V), pt_cv G w = pt_cv G a → (pt_cv G a).category = 1 → pt_exp (a :: as) = some a :: pt_exp as → (pt_get pre i = some v) ∨ (i, pt_cv G v) ∈ lv_args j ((a :: as).map (pt_cv G)) := by
      intro w _ hcat hexp
      rw [hexp, show pre ++ some a :: pt_exp as = (pre ++ [some a]) ++ pt_exp as by simp] at h
      rcases pt_exp_ini J as (j + 1) (pre ++ [some a]) (by simp [hj]) i v h with q | q
      · rw [app] at q
        by_cases hi : i < pre.length
        · rw [if_pos hi] at q
          exact Or.inl q
        · rw [if_neg hi] at q
          have e : i - pre.length = 0 := by
            rcases Nat.eq_zero_or_pos (i - pre.length) with z | z
            · exact z
            · obtain ⟨y, hy⟩ : ∃ y, i - pre.length = y + 1 := ⟨i - pre.length - 1, by omega⟩
              rw [hy] at q
              cases q
          rw [e] at q
          cases q
          right
          have ei : i = j := by omega
          subst ei
          show (i, pt_cv G a) ∈ lv_args i (pt_cv G a :: as.map (pt_cv G))
          unfold lv_args
          exact List.mem_cons_self
      · right
        show (i, pt_cv G v) ∈ lv_args j (pt_cv G a :: as.map (pt_cv G))
        unfold lv_args
        rw [if_neg (by omega)]
        exact List.mem_cons_of_mem _ q
    rcases a with x | x | ⟨t, o⟩
    · exact one (zI x) rfl rfl rfl
    · rw [show pre ++ pt_exp (Sum.inr (Sum.inl x) :: as) = (pre ++ [some (zL x), none]) ++ pt_exp as by simp [pt_exp]] at h
      rcases pt_exp_ini J as (j + 2) (pre ++ [some (zL x), none]) (by simp [hj]) i v h with q | q
      · rw [app] at q
        by_cases hi : i < pre.length
        · rw [if_pos hi] at q
          exact Or.inl q
        · rw [if_neg hi] at q
          have e : i - pre.length = 0 := by
            rcases Nat.eq_zero_or_pos (i - pre.length) with z | z
            · exact z
            · obtain ⟨y, hy⟩ : ∃ y, i - pre.length = y + 1 := ⟨i - pre.length - 1, by omega⟩
              rw [hy] at q
              cases y with
              | zero => cases q
              | succ y => cases q
          rw [e] at q
          cases q
          right
          have ei : i = j := by omega
          subst ei
          show (i, Value.long x) ∈ lv_args i (Value.long x :: as.map (pt_cv G))
          unfold lv_args
          exact List.mem_cons_self
      · right
        show (i, pt_cv G v) ∈ lv_args j (Value.long x :: as.map (pt_cv G))
        unfold lv_args
        rw [if_pos (show (Value.long x).category = 2 from rfl)]
        exact List.mem_cons_of_mem _ q
    · exact one (zR t o) rfl (pt_cat1 J (by rintro ⟨y, hy⟩; cases hy)) rfl
theorem pt_get_rep (n i : Nat) : pt_get (List.replicate n none) i = none := by
  induction n generalizing i with
  | zero => rfl
  | succ n ih =>
    cases i with
    | zero => rfl
    | succ i => exact ih i
theorem pt_get_app (l1 l2 : pt_L) (i : Nat) (v : pt_V) (h2 : ∀ j, pt_get l2 j = none) (h : pt_get (l1 ++ l2) i = some v) : pt_get l1 i = some v := by
  induction l1 generalizing i with
  | nil => rw [List.nil_append, h2] at h; cases h
  | cons x l1 ih =>
    cases i with
    | zero => exact h
    | succ i => exact ih i h
theorem pt_exp_len {G : pt_G} (J : pt_J G) : ∀ as : List pt_V, (pt_exp as).length = (lg_sl (as.map (pt_cv G))).length
  | [] => rfl
  | .inl x :: as => by
    show (pt_exp as).length + 1 = _
    rw [pt_exp_len J as]
    rfl
  | .inr (.inl x) :: as => by
    show (pt_exp as).length + 2 = _
    rw [pt_exp_len J as]
    rfl
  | .inr (.inr (t, o)) :: as => by
    show (pt_exp as).length + 1 = _
    rw [pt_exp_len J as]
    have hc : (pt_cv G (zR t o)).category = 1 := pt_cat1 J (by rintro ⟨y, hy⟩; cases hy)
    have e : lg_sl (((zR t o) :: as).map (pt_cv G)) = .val (pt_cv G (zR t o)) :: lg_sl (as.map (pt_cv G)) := by
      rw [List.map_cons]
      unfold lg_sl
      rw [List.flatMap_cons, hc]
      rfl
    show _ = (lg_sl (((zR t o) :: as).map (pt_cv G))).length
    rw [e]
    rfl
end
