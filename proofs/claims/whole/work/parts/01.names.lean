-- ===== PART A: goes FIRST, ahead of the names: the tables' words, and 'selects' of the private methods out of them =====
/-- a private method of a class that the tables say can be made, by its rows of tables_1 -/
def lw_okq (q : MethodName × Nat) : Prop := (q.1.cls ≠ "java/lang/invoke/MethodHandle" ∧ q.1.cls ≠ "java/lang/invoke/VarHandle") ∧ Cond.instantiable q.1.cls q.2 ∈ tables_1 ∧ Cond.privateMethod q.1 ∈ tables_1 ∧ Cond.instanceMethod q.1 ∈ tables_1
theorem lw_p0 : lw_okq (⟨"PalmTastes", "finding", "(I)I"⟩, 13) := ⟨⟨by decide +kernel, by decide +kernel⟩, List.mem_of_getElem? (i := 17) (by decide +kernel), List.mem_of_getElem? (i := 229) (by decide +kernel), List.mem_of_getElem? (i := 230) (by decide +kernel)⟩
theorem lw_p1 : lw_okq (⟨"PalmTastes", "noFinding", "(I)I"⟩, 13) := ⟨⟨by decide +kernel, by decide +kernel⟩, List.mem_of_getElem? (i := 17) (by decide +kernel), List.mem_of_getElem? (i := 241) (by decide +kernel), List.mem_of_getElem? (i := 242) (by decide +kernel)⟩
theorem lw_p2 : lw_okq (⟨"PalmTastes$Tape", "toNextToken", "()V"⟩, 9) := ⟨⟨by decide +kernel, by decide +kernel⟩, List.mem_of_getElem? (i := 27) (by decide +kernel), List.mem_of_getElem? (i := 289) (by decide +kernel), List.mem_of_getElem? (i := 290) (by decide +kernel)⟩
theorem lw_p3 : lw_okq (⟨"PalmTastes$Tape", "at", "(I)I"⟩, 9) := ⟨⟨by decide +kernel, by decide +kernel⟩, List.mem_of_getElem? (i := 27) (by decide +kernel), List.mem_of_getElem? (i := 293) (by decide +kernel), List.mem_of_getElem? (i := 294) (by decide +kernel)⟩
theorem lw_p4 : lw_okq (⟨"PalmTastes$Tape", "toEndOfNumber", "()V"⟩, 9) := ⟨⟨by decide +kernel, by decide +kernel⟩, List.mem_of_getElem? (i := 27) (by decide +kernel), List.mem_of_getElem? (i := 306) (by decide +kernel), List.mem_of_getElem? (i := 307) (by decide +kernel)⟩
theorem lw_p5 : lw_okq (⟨"PalmTastes$Tape", "isWord", "(Ljava/lang/String;)Z"⟩, 9) := ⟨⟨by decide +kernel, by decide +kernel⟩, List.mem_of_getElem? (i := 27) (by decide +kernel), List.mem_of_getElem? (i := 311) (by decide +kernel), List.mem_of_getElem? (i := 312) (by decide +kernel)⟩
theorem lw_p6 : lw_okq (⟨"PalmTastes$Tape", "faulty", "(I)Z"⟩, 9) := ⟨⟨by decide +kernel, by decide +kernel⟩, List.mem_of_getElem? (i := 27) (by decide +kernel), List.mem_of_getElem? (i := 363) (by decide +kernel), List.mem_of_getElem? (i := 364) (by decide +kernel)⟩
theorem lw_p7 : lw_okq (⟨"PalmTastes$Tape", "tellWall", "()Z"⟩, 9) := ⟨⟨by decide +kernel, by decide +kernel⟩, List.mem_of_getElem? (i := 27) (by decide +kernel), List.mem_of_getElem? (i := 367) (by decide +kernel), List.mem_of_getElem? (i := 368) (by decide +kernel)⟩
theorem lw_p8 : lw_okq (⟨"PalmTastes$Tape", "tellNumbers", "([III)Z"⟩, 9) := ⟨⟨by decide +kernel, by decide +kernel⟩, List.mem_of_getElem? (i := 27) (by decide +kernel), List.mem_of_getElem? (i := 371) (by decide +kernel), List.mem_of_getElem? (i := 372) (by decide +kernel)⟩
theorem lw_p9 : lw_okq (⟨"PalmTastes$Tape", "tellSign", "()Z"⟩, 9) := ⟨⟨by decide +kernel, by decide +kernel⟩, List.mem_of_getElem? (i := 27) (by decide +kernel), List.mem_of_getElem? (i := 375) (by decide +kernel), List.mem_of_getElem? (i := 376) (by decide +kernel)⟩
theorem lw_p10 : lw_okq (⟨"PalmTastes$Tape", "tellReader", "()Z"⟩, 9) := ⟨⟨by decide +kernel, by decide +kernel⟩, List.mem_of_getElem? (i := 27) (by decide +kernel), List.mem_of_getElem? (i := 380) (by decide +kernel), List.mem_of_getElem? (i := 381) (by decide +kernel)⟩
theorem lw_p11 : lw_okq (⟨"PalmTastes$Tape", "kindOfSort", "()I"⟩, 9) := ⟨⟨by decide +kernel, by decide +kernel⟩, List.mem_of_getElem? (i := 27) (by decide +kernel), List.mem_of_getElem? (i := 384) (by decide +kernel), List.mem_of_getElem? (i := 385) (by decide +kernel)⟩
theorem lw_p12 : lw_okq (⟨"PalmTastes", "canWalk", "(III)Z"⟩, 13) := ⟨⟨by decide +kernel, by decide +kernel⟩, List.mem_of_getElem? (i := 17) (by decide +kernel), List.mem_of_getElem? (i := 454) (by decide +kernel), List.mem_of_getElem? (i := 455) (by decide +kernel)⟩
theorem lw_p13 : lw_okq (⟨"PalmTastes", "hearMessage", "(IIII)I"⟩, 13) := ⟨⟨by decide +kernel, by decide +kernel⟩, List.mem_of_getElem? (i := 17) (by decide +kernel), List.mem_of_getElem? (i := 548) (by decide +kernel), List.mem_of_getElem? (i := 549) (by decide +kernel)⟩
theorem lw_p14 : lw_okq (⟨"PalmTastes", "readsOtherwise", "(II)Z"⟩, 13) := ⟨⟨by decide +kernel, by decide +kernel⟩, List.mem_of_getElem? (i := 17) (by decide +kernel), List.mem_of_getElem? (i := 556) (by decide +kernel), List.mem_of_getElem? (i := 557) (by decide +kernel)⟩
theorem lw_p15 : lw_okq (⟨"PalmTastes", "findSpice", "(III[I)Z"⟩, 13) := ⟨⟨by decide +kernel, by decide +kernel⟩, List.mem_of_getElem? (i := 17) (by decide +kernel), List.mem_of_getElem? (i := 564) (by decide +kernel), List.mem_of_getElem? (i := 565) (by decide +kernel)⟩
def lw_privs_1 : List (MethodName × Nat) := [(⟨"PalmTastes", "finding", "(I)I"⟩, 13), (⟨"PalmTastes", "noFinding", "(I)I"⟩, 13), (⟨"PalmTastes$Tape", "toNextToken", "()V"⟩, 9), (⟨"PalmTastes$Tape", "at", "(I)I"⟩, 9), (⟨"PalmTastes$Tape", "toEndOfNumber", "()V"⟩, 9), (⟨"PalmTastes$Tape", "isWord", "(Ljava/lang/String;)Z"⟩, 9), (⟨"PalmTastes$Tape", "faulty", "(I)Z"⟩, 9), (⟨"PalmTastes$Tape", "tellWall", "()Z"⟩, 9), (⟨"PalmTastes$Tape", "tellNumbers", "([III)Z"⟩, 9), (⟨"PalmTastes$Tape", "tellSign", "()Z"⟩, 9), (⟨"PalmTastes$Tape", "tellReader", "()Z"⟩, 9), (⟨"PalmTastes$Tape", "kindOfSort", "()I"⟩, 9), (⟨"PalmTastes", "canWalk", "(III)Z"⟩, 13), (⟨"PalmTastes", "hearMessage", "(IIII)I"⟩, 13), (⟨"PalmTastes", "readsOtherwise", "(II)Z"⟩, 13), (⟨"PalmTastes", "findSpice", "(III[I)Z"⟩, 13)]
theorem lw_r1 : ∀ q ∈ lw_privs_1, lw_okq q := List.forall_mem_cons.mpr ⟨lw_p0, List.forall_mem_cons.mpr ⟨lw_p1, List.forall_mem_cons.mpr ⟨lw_p2, List.forall_mem_cons.mpr ⟨lw_p3, List.forall_mem_cons.mpr ⟨lw_p4, List.forall_mem_cons.mpr ⟨lw_p5, List.forall_mem_cons.mpr ⟨lw_p6, List.forall_mem_cons.mpr ⟨lw_p7, List.forall_mem_cons.mpr ⟨lw_p8, List.forall_mem_cons.mpr ⟨lw_p9, List.forall_mem_cons.mpr ⟨lw_p10, List.forall_mem_cons.mpr ⟨lw_p11, List.forall_mem_cons.mpr ⟨lw_p12, List.forall_mem_cons.mpr ⟨lw_p13, List.forall_mem_cons.mpr ⟨lw_p14, List.forall_mem_cons.mpr ⟨lw_p15, fun _ h => absurd h List.not_mem_nil⟩⟩⟩⟩⟩⟩⟩⟩⟩⟩⟩⟩⟩⟩⟩⟩
theorem lw_p16 : lw_okq (⟨"PalmTastes", "firstFelt", "(II)I"⟩, 13) := ⟨⟨by decide +kernel, by decide +kernel⟩, List.mem_of_getElem? (i := 17) (by decide +kernel), List.mem_of_getElem? (i := 584) (by decide +kernel), List.mem_of_getElem? (i := 585) (by decide +kernel)⟩
theorem lw_p17 : lw_okq (⟨"PalmTastes$Asks", "askAnew", "(LPalmTastes$Street;III)I"⟩, 2) := ⟨⟨by decide +kernel, by decide +kernel⟩, List.mem_of_getElem? (i := 128) (by decide +kernel), List.mem_of_getElem? (i := 626) (by decide +kernel), List.mem_of_getElem? (i := 627) (by decide +kernel)⟩
theorem lw_p18 : lw_okq (⟨"PalmTastes$Asks", "bodyFor", "(II)I"⟩, 2) := ⟨⟨by decide +kernel, by decide +kernel⟩, List.mem_of_getElem? (i := 128) (by decide +kernel), List.mem_of_getElem? (i := 630) (by decide +kernel), List.mem_of_getElem? (i := 631) (by decide +kernel)⟩
theorem lw_p19 : lw_okq (⟨"PalmTastes$Asks", "gives", "(LPalmTastes$Street;III)I"⟩, 2) := ⟨⟨by decide +kernel, by decide +kernel⟩, List.mem_of_getElem? (i := 128) (by decide +kernel), List.mem_of_getElem? (i := 639) (by decide +kernel), List.mem_of_getElem? (i := 640) (by decide +kernel)⟩
theorem lw_p20 : lw_okq (⟨"PalmTastes$Asks", "leave", "(I)V"⟩, 2) := ⟨⟨by decide +kernel, by decide +kernel⟩, List.mem_of_getElem? (i := 128) (by decide +kernel), List.mem_of_getElem? (i := 643) (by decide +kernel), List.mem_of_getElem? (i := 644) (by decide +kernel)⟩
theorem lw_p21 : lw_okq (⟨"PalmTastes", "rowsThere", "()I"⟩, 13) := ⟨⟨by decide +kernel, by decide +kernel⟩, List.mem_of_getElem? (i := 17) (by decide +kernel), List.mem_of_getElem? (i := 656) (by decide +kernel), List.mem_of_getElem? (i := 657) (by decide +kernel)⟩
theorem lw_p22 : lw_okq (⟨"PalmTastesModel", "finding", "(I)I"⟩, 29) := ⟨⟨by decide +kernel, by decide +kernel⟩, List.mem_of_getElem? (i := 668) (by decide +kernel), List.mem_of_getElem? (i := 776) (by decide +kernel), List.mem_of_getElem? (i := 777) (by decide +kernel)⟩
theorem lw_p23 : lw_okq (⟨"PalmTastesModel", "begin", "()V"⟩, 29) := ⟨⟨by decide +kernel, by decide +kernel⟩, List.mem_of_getElem? (i := 668) (by decide +kernel), List.mem_of_getElem? (i := 804) (by decide +kernel), List.mem_of_getElem? (i := 805) (by decide +kernel)⟩
theorem lw_p24 : lw_okq (⟨"PalmTastesModel", "next", "()V"⟩, 29) := ⟨⟨by decide +kernel, by decide +kernel⟩, List.mem_of_getElem? (i := 668) (by decide +kernel), List.mem_of_getElem? (i := 808) (by decide +kernel), List.mem_of_getElem? (i := 809) (by decide +kernel)⟩
theorem lw_p25 : lw_okq (⟨"PalmTastesModel", "byteAt", "(I)I"⟩, 29) := ⟨⟨by decide +kernel, by decide +kernel⟩, List.mem_of_getElem? (i := 668) (by decide +kernel), List.mem_of_getElem? (i := 812) (by decide +kernel), List.mem_of_getElem? (i := 813) (by decide +kernel)⟩
theorem lw_p26 : lw_okq (⟨"PalmTastesModel", "name", "()J"⟩, 29) := ⟨⟨by decide +kernel, by decide +kernel⟩, List.mem_of_getElem? (i := 668) (by decide +kernel), List.mem_of_getElem? (i := 823) (by decide +kernel), List.mem_of_getElem? (i := 824) (by decide +kernel)⟩
theorem lw_p27 : lw_okq (⟨"PalmTastesModel", "bad", "(I)V"⟩, 29) := ⟨⟨by decide +kernel, by decide +kernel⟩, List.mem_of_getElem? (i := 668) (by decide +kernel), List.mem_of_getElem? (i := 828) (by decide +kernel), List.mem_of_getElem? (i := 829) (by decide +kernel)⟩
theorem lw_p28 : lw_okq (⟨"PalmTastesModel", "readWall", "()V"⟩, 29) := ⟨⟨by decide +kernel, by decide +kernel⟩, List.mem_of_getElem? (i := 668) (by decide +kernel), List.mem_of_getElem? (i := 832) (by decide +kernel), List.mem_of_getElem? (i := 833) (by decide +kernel)⟩
theorem lw_p29 : lw_okq (⟨"PalmTastesModel", "begins", "(II)V"⟩, 29) := ⟨⟨by decide +kernel, by decide +kernel⟩, List.mem_of_getElem? (i := 668) (by decide +kernel), List.mem_of_getElem? (i := 836) (by decide +kernel), List.mem_of_getElem? (i := 837) (by decide +kernel)⟩
theorem lw_p30 : lw_okq (⟨"PalmTastesModel", "must", "(Z)V"⟩, 29) := ⟨⟨by decide +kernel, by decide +kernel⟩, List.mem_of_getElem? (i := 668) (by decide +kernel), List.mem_of_getElem? (i := 840) (by decide +kernel), List.mem_of_getElem? (i := 841) (by decide +kernel)⟩
theorem lw_p31 : lw_okq (⟨"PalmTastesModel", "number", "(II)I"⟩, 29) := ⟨⟨by decide +kernel, by decide +kernel⟩, List.mem_of_getElem? (i := 668) (by decide +kernel), List.mem_of_getElem? (i := 844) (by decide +kernel), List.mem_of_getElem? (i := 845) (by decide +kernel)⟩
def lw_privs_2 : List (MethodName × Nat) := [(⟨"PalmTastes", "firstFelt", "(II)I"⟩, 13), (⟨"PalmTastes$Asks", "askAnew", "(LPalmTastes$Street;III)I"⟩, 2), (⟨"PalmTastes$Asks", "bodyFor", "(II)I"⟩, 2), (⟨"PalmTastes$Asks", "gives", "(LPalmTastes$Street;III)I"⟩, 2), (⟨"PalmTastes$Asks", "leave", "(I)V"⟩, 2), (⟨"PalmTastes", "rowsThere", "()I"⟩, 13), (⟨"PalmTastesModel", "finding", "(I)I"⟩, 29), (⟨"PalmTastesModel", "begin", "()V"⟩, 29), (⟨"PalmTastesModel", "next", "()V"⟩, 29), (⟨"PalmTastesModel", "byteAt", "(I)I"⟩, 29), (⟨"PalmTastesModel", "name", "()J"⟩, 29), (⟨"PalmTastesModel", "bad", "(I)V"⟩, 29), (⟨"PalmTastesModel", "readWall", "()V"⟩, 29), (⟨"PalmTastesModel", "begins", "(II)V"⟩, 29), (⟨"PalmTastesModel", "must", "(Z)V"⟩, 29), (⟨"PalmTastesModel", "number", "(II)I"⟩, 29)]
theorem lw_r2 : ∀ q ∈ lw_privs_2, lw_okq q := List.forall_mem_cons.mpr ⟨lw_p16, List.forall_mem_cons.mpr ⟨lw_p17, List.forall_mem_cons.mpr ⟨lw_p18, List.forall_mem_cons.mpr ⟨lw_p19, List.forall_mem_cons.mpr ⟨lw_p20, List.forall_mem_cons.mpr ⟨lw_p21, List.forall_mem_cons.mpr ⟨lw_p22, List.forall_mem_cons.mpr ⟨lw_p23, List.forall_mem_cons.mpr ⟨lw_p24, List.forall_mem_cons.mpr ⟨lw_p25, List.forall_mem_cons.mpr ⟨lw_p26, List.forall_mem_cons.mpr ⟨lw_p27, List.forall_mem_cons.mpr ⟨lw_p28, List.forall_mem_cons.mpr ⟨lw_p29, List.forall_mem_cons.mpr ⟨lw_p30, List.forall_mem_cons.mpr ⟨lw_p31, fun _ h => absurd h List.not_mem_nil⟩⟩⟩⟩⟩⟩⟩⟩⟩⟩⟩⟩⟩⟩⟩⟩
theorem lw_p32 : lw_okq (⟨"PalmTastesModel", "figures", "()I"⟩, 29) := ⟨⟨by decide +kernel, by decide +kernel⟩, List.mem_of_getElem? (i := 668) (by decide +kernel), List.mem_of_getElem? (i := 848) (by decide +kernel), List.mem_of_getElem? (i := 849) (by decide +kernel)⟩
theorem lw_p33 : lw_okq (⟨"PalmTastesModel", "mustEnd", "()V"⟩, 29) := ⟨⟨by decide +kernel, by decide +kernel⟩, List.mem_of_getElem? (i := 668) (by decide +kernel), List.mem_of_getElem? (i := 852) (by decide +kernel), List.mem_of_getElem? (i := 853) (by decide +kernel)⟩
theorem lw_p34 : lw_okq (⟨"PalmTastesModel", "readReader", "()V"⟩, 29) := ⟨⟨by decide +kernel, by decide +kernel⟩, List.mem_of_getElem? (i := 668) (by decide +kernel), List.mem_of_getElem? (i := 857) (by decide +kernel), List.mem_of_getElem? (i := 858) (by decide +kernel)⟩
theorem lw_p35 : lw_okq (⟨"PalmTastesModel", "isWall", "(I)Z"⟩, 29) := ⟨⟨by decide +kernel, by decide +kernel⟩, List.mem_of_getElem? (i := 668) (by decide +kernel), List.mem_of_getElem? (i := 878) (by decide +kernel), List.mem_of_getElem? (i := 879) (by decide +kernel)⟩
theorem lw_p36 : lw_okq (⟨"PalmTastesModel", "keep", "()V"⟩, 29) := ⟨⟨by decide +kernel, by decide +kernel⟩, List.mem_of_getElem? (i := 668) (by decide +kernel), List.mem_of_getElem? (i := 887) (by decide +kernel), List.mem_of_getElem? (i := 888) (by decide +kernel)⟩
theorem lw_p37 : lw_okq (⟨"PalmTastesModel", "strong", "(II)I"⟩, 29) := ⟨⟨by decide +kernel, by decide +kernel⟩, List.mem_of_getElem? (i := 668) (by decide +kernel), List.mem_of_getElem? (i := 891) (by decide +kernel), List.mem_of_getElem? (i := 892) (by decide +kernel)⟩
theorem lw_p38 : lw_okq (⟨"PalmTastesModel", "isThere", "()Z"⟩, 29) := ⟨⟨by decide +kernel, by decide +kernel⟩, List.mem_of_getElem? (i := 668) (by decide +kernel), List.mem_of_getElem? (i := 899) (by decide +kernel), List.mem_of_getElem? (i := 900) (by decide +kernel)⟩
theorem lw_p39 : lw_okq (⟨"PalmTastesModel", "isWalk", "(III)Z"⟩, 29) := ⟨⟨by decide +kernel, by decide +kernel⟩, List.mem_of_getElem? (i := 668) (by decide +kernel), List.mem_of_getElem? (i := 909) (by decide +kernel), List.mem_of_getElem? (i := 910) (by decide +kernel)⟩
theorem lw_p40 : lw_okq (⟨"PalmTastesModel", "isReader", "(I)Z"⟩, 29) := ⟨⟨by decide +kernel, by decide +kernel⟩, List.mem_of_getElem? (i := 668) (by decide +kernel), List.mem_of_getElem? (i := 913) (by decide +kernel), List.mem_of_getElem? (i := 914) (by decide +kernel)⟩
theorem lw_p41 : lw_okq (⟨"PalmTastesModel", "layPalm", "(I)V"⟩, 29) := ⟨⟨by decide +kernel, by decide +kernel⟩, List.mem_of_getElem? (i := 668) (by decide +kernel), List.mem_of_getElem? (i := 917) (by decide +kernel), List.mem_of_getElem? (i := 918) (by decide +kernel)⟩
theorem lw_p42 : lw_okq (⟨"PalmTastesModel", "of", "(II)I"⟩, 29) := ⟨⟨by decide +kernel, by decide +kernel⟩, List.mem_of_getElem? (i := 668) (by decide +kernel), List.mem_of_getElem? (i := 921) (by decide +kernel), List.mem_of_getElem? (i := 922) (by decide +kernel)⟩
theorem lw_p43 : lw_okq (⟨"PalmTastesModel", "tastes", "(III)I"⟩, 29) := ⟨⟨by decide +kernel, by decide +kernel⟩, List.mem_of_getElem? (i := 668) (by decide +kernel), List.mem_of_getElem? (i := 931) (by decide +kernel), List.mem_of_getElem? (i := 932) (by decide +kernel)⟩
theorem lw_p44 : lw_okq (⟨"PalmTastesModel", "feels", "(II)I"⟩, 29) := ⟨⟨by decide +kernel, by decide +kernel⟩, List.mem_of_getElem? (i := 668) (by decide +kernel), List.mem_of_getElem? (i := 935) (by decide +kernel), List.mem_of_getElem? (i := 936) (by decide +kernel)⟩
theorem lw_p45 : lw_okq (⟨"PalmTastesModel", "getsUsed", "(I)V"⟩, 29) := ⟨⟨by decide +kernel, by decide +kernel⟩, List.mem_of_getElem? (i := 668) (by decide +kernel), List.mem_of_getElem? (i := 939) (by decide +kernel), List.mem_of_getElem? (i := 940) (by decide +kernel)⟩
theorem lw_p46 : lw_okq (⟨"PalmTastesModel", "usedOf", "(I)I"⟩, 29) := ⟨⟨by decide +kernel, by decide +kernel⟩, List.mem_of_getElem? (i := 668) (by decide +kernel), List.mem_of_getElem? (i := 947) (by decide +kernel), List.mem_of_getElem? (i := 948) (by decide +kernel)⟩
theorem lw_p47 : lw_okq (⟨"PalmTastesModel", "reads", "(I)I"⟩, 29) := ⟨⟨by decide +kernel, by decide +kernel⟩, List.mem_of_getElem? (i := 668) (by decide +kernel), List.mem_of_getElem? (i := 971) (by decide +kernel), List.mem_of_getElem? (i := 972) (by decide +kernel)⟩
def lw_privs_3 : List (MethodName × Nat) := [(⟨"PalmTastesModel", "figures", "()I"⟩, 29), (⟨"PalmTastesModel", "mustEnd", "()V"⟩, 29), (⟨"PalmTastesModel", "readReader", "()V"⟩, 29), (⟨"PalmTastesModel", "isWall", "(I)Z"⟩, 29), (⟨"PalmTastesModel", "keep", "()V"⟩, 29), (⟨"PalmTastesModel", "strong", "(II)I"⟩, 29), (⟨"PalmTastesModel", "isThere", "()Z"⟩, 29), (⟨"PalmTastesModel", "isWalk", "(III)Z"⟩, 29), (⟨"PalmTastesModel", "isReader", "(I)Z"⟩, 29), (⟨"PalmTastesModel", "layPalm", "(I)V"⟩, 29), (⟨"PalmTastesModel", "of", "(II)I"⟩, 29), (⟨"PalmTastesModel", "tastes", "(III)I"⟩, 29), (⟨"PalmTastesModel", "feels", "(II)I"⟩, 29), (⟨"PalmTastesModel", "getsUsed", "(I)V"⟩, 29), (⟨"PalmTastesModel", "usedOf", "(I)I"⟩, 29), (⟨"PalmTastesModel", "reads", "(I)I"⟩, 29)]
theorem lw_r3 : ∀ q ∈ lw_privs_3, lw_okq q := List.forall_mem_cons.mpr ⟨lw_p32, List.forall_mem_cons.mpr ⟨lw_p33, List.forall_mem_cons.mpr ⟨lw_p34, List.forall_mem_cons.mpr ⟨lw_p35, List.forall_mem_cons.mpr ⟨lw_p36, List.forall_mem_cons.mpr ⟨lw_p37, List.forall_mem_cons.mpr ⟨lw_p38, List.forall_mem_cons.mpr ⟨lw_p39, List.forall_mem_cons.mpr ⟨lw_p40, List.forall_mem_cons.mpr ⟨lw_p41, List.forall_mem_cons.mpr ⟨lw_p42, List.forall_mem_cons.mpr ⟨lw_p43, List.forall_mem_cons.mpr ⟨lw_p44, List.forall_mem_cons.mpr ⟨lw_p45, List.forall_mem_cons.mpr ⟨lw_p46, List.forall_mem_cons.mpr ⟨lw_p47, fun _ h => absurd h List.not_mem_nil⟩⟩⟩⟩⟩⟩⟩⟩⟩⟩⟩⟩⟩⟩⟩⟩
theorem lw_p48 : lw_okq (⟨"PalmTastesModel", "barred", "(III)I"⟩, 29) := ⟨⟨by decide +kernel, by decide +kernel⟩, List.mem_of_getElem? (i := 668) (by decide +kernel), List.mem_of_getElem? (i := 979) (by decide +kernel), List.mem_of_getElem? (i := 980) (by decide +kernel)⟩
theorem lw_p49 : lw_okq (⟨"PalmTastesModel", "laySpice", "(IIIII)Z"⟩, 29) := ⟨⟨by decide +kernel, by decide +kernel⟩, List.mem_of_getElem? (i := 668) (by decide +kernel), List.mem_of_getElem? (i := 991) (by decide +kernel), List.mem_of_getElem? (i := 992) (by decide +kernel)⟩
theorem lw_p50 : lw_okq (⟨"PalmTastesModel", "goes", "(III)Z"⟩, 29) := ⟨⟨by decide +kernel, by decide +kernel⟩, List.mem_of_getElem? (i := 668) (by decide +kernel), List.mem_of_getElem? (i := 1007) (by decide +kernel), List.mem_of_getElem? (i := 1008) (by decide +kernel)⟩
theorem lw_p51 : lw_okq (⟨"PalmTastesModel", "sizeOf", "(I)I"⟩, 29) := ⟨⟨by decide +kernel, by decide +kernel⟩, List.mem_of_getElem? (i := 668) (by decide +kernel), List.mem_of_getElem? (i := 1044) (by decide +kernel), List.mem_of_getElem? (i := 1045) (by decide +kernel)⟩
theorem lw_p52 : lw_okq (⟨"PalmTastesModel", "waxSize", "(I)I"⟩, 29) := ⟨⟨by decide +kernel, by decide +kernel⟩, List.mem_of_getElem? (i := 668) (by decide +kernel), List.mem_of_getElem? (i := 1048) (by decide +kernel), List.mem_of_getElem? (i := 1049) (by decide +kernel)⟩
theorem lw_p53 : lw_okq (⟨"PalmTastesModel", "began", "(I)V"⟩, 29) := ⟨⟨by decide +kernel, by decide +kernel⟩, List.mem_of_getElem? (i := 668) (by decide +kernel), List.mem_of_getElem? (i := 1052) (by decide +kernel), List.mem_of_getElem? (i := 1053) (by decide +kernel)⟩
theorem lw_p54 : lw_okq (⟨"PalmTastesModel", "plainSize", "(I)I"⟩, 29) := ⟨⟨by decide +kernel, by decide +kernel⟩, List.mem_of_getElem? (i := 668) (by decide +kernel), List.mem_of_getElem? (i := 1056) (by decide +kernel), List.mem_of_getElem? (i := 1057) (by decide +kernel)⟩
theorem lw_p55 : lw_okq (⟨"PalmTastesModel", "markOf", "(I)I"⟩, 29) := ⟨⟨by decide +kernel, by decide +kernel⟩, List.mem_of_getElem? (i := 668) (by decide +kernel), List.mem_of_getElem? (i := 1060) (by decide +kernel), List.mem_of_getElem? (i := 1061) (by decide +kernel)⟩
def lw_privs_4 : List (MethodName × Nat) := [(⟨"PalmTastesModel", "barred", "(III)I"⟩, 29), (⟨"PalmTastesModel", "laySpice", "(IIIII)Z"⟩, 29), (⟨"PalmTastesModel", "goes", "(III)Z"⟩, 29), (⟨"PalmTastesModel", "sizeOf", "(I)I"⟩, 29), (⟨"PalmTastesModel", "waxSize", "(I)I"⟩, 29), (⟨"PalmTastesModel", "began", "(I)V"⟩, 29), (⟨"PalmTastesModel", "plainSize", "(I)I"⟩, 29), (⟨"PalmTastesModel", "markOf", "(I)I"⟩, 29)]
theorem lw_r4 : ∀ q ∈ lw_privs_4, lw_okq q := List.forall_mem_cons.mpr ⟨lw_p48, List.forall_mem_cons.mpr ⟨lw_p49, List.forall_mem_cons.mpr ⟨lw_p50, List.forall_mem_cons.mpr ⟨lw_p51, List.forall_mem_cons.mpr ⟨lw_p52, List.forall_mem_cons.mpr ⟨lw_p53, List.forall_mem_cons.mpr ⟨lw_p54, List.forall_mem_cons.mpr ⟨lw_p55, fun _ h => absurd h List.not_mem_nil⟩⟩⟩⟩⟩⟩⟩⟩
def lw_privs : List (MethodName × Nat) := lw_privs_1 ++ (lw_privs_2 ++ (lw_privs_3 ++ (lw_privs_4)))
def lw_tbl : List Cond := k2_sels lw_privs ++ tables_1
theorem lw_privs_ok : ∀ q ∈ lw_privs, lw_okq q := by
  show ∀ q ∈ lw_privs_1 ++ (lw_privs_2 ++ (lw_privs_3 ++ (lw_privs_4))), lw_okq q
  exact List.forall_mem_append.mpr ⟨lw_r1, List.forall_mem_append.mpr ⟨lw_r2, List.forall_mem_append.mpr ⟨lw_r3, lw_r4⟩⟩⟩
def RX0 : String := "PalmTastes$Acts"
def TX0 : u_T := fun k => match k with
  | 0 => ("PalmTastes$Acts", "kept", "I", false)
  | 1 => ("PalmTastes$Acts", "next", "I", false)
  | _ => ("PalmTastes$Acts", "before", "[LPalmTastes$Street;", true)
def tyX0 : Nat → FieldType := fun k => match k with
  | 0 => .int
  | 1 => .int
  | _ => .array (.object "PalmTastes$Street")
abbrev wsX00 : List Cond := u_ws RX0 TX0 3
theorem nmX0 : ∀ a, a < 3 → ∀ b, b < 3 → a ≠ b → (TX0 a).2.1 ≠ (TX0 b).2.1 := by decide +kernel
theorem tyX0_ok : ∀ k, k < 3 → parseFieldDescriptor (TX0 k).2.2.1 = some (tyX0 k) := by decide +kernel
abbrev cX0_init : ByteArray := prog_2_method_1_code
def yX0_init : MethodName := ⟨RX0, "<init>", "()V"⟩
abbrev cX0_keep : ByteArray := prog_2_method_2_code
def yX0_keep : MethodName := ⟨RX0, "keep", "(LPalmTastes$Street;)V"⟩
abbrev cX0_undoLatest : ByteArray := prog_2_method_3_code
def yX0_undoLatest : MethodName := ⟨RX0, "undoLatest", "(LPalmTastes$Street;)V"⟩
abbrev cX0_forgetAll : ByteArray := prog_2_method_4_code
def yX0_forgetAll : MethodName := ⟨RX0, "forgetAll", "()V"⟩
def RX1 : String := "PalmTastes$Asks"
def TX1 : u_T := fun k => match k with
  | 0 => ("PalmTastes$Asks", "traced", "I", false)
  | _ => ("PalmTastes$Asks", "bodies", "[I", true)
def tyX1 : Nat → FieldType := fun k => match k with
  | 0 => .int
  | _ => .array .int
abbrev wsX10 : List Cond := u_ws RX1 TX1 2
theorem nmX1 : ∀ a, a < 2 → ∀ b, b < 2 → a ≠ b → (TX1 a).2.1 ≠ (TX1 b).2.1 := by decide +kernel
theorem tyX1_ok : ∀ k, k < 2 → parseFieldDescriptor (TX1 k).2.2.1 = some (tyX1 k) := by decide +kernel
abbrev cX1_init : ByteArray := prog_3_method_1_code
def yX1_init : MethodName := ⟨RX1, "<init>", "()V"⟩
abbrev cX1_answer : ByteArray := prog_3_method_2_code
def yX1_answer : MethodName := ⟨RX1, "answer", "(LPalmTastes$Street;II)I"⟩
abbrev cX1_askAnew : ByteArray := prog_3_method_3_code
def yX1_askAnew : MethodName := ⟨RX1, "askAnew", "(LPalmTastes$Street;III)I"⟩
abbrev cX1_bodyFor : ByteArray := prog_3_method_4_code
def yX1_bodyFor : MethodName := ⟨RX1, "bodyFor", "(II)I"⟩
abbrev cX1_gives : ByteArray := prog_3_method_5_code
def yX1_gives : MethodName := ⟨RX1, "gives", "(LPalmTastes$Street;III)I"⟩
abbrev cX1_leave : ByteArray := prog_3_method_6_code
def yX1_leave : MethodName := ⟨RX1, "leave", "(I)V"⟩
def RX2 : String := "PalmTastes$Palm"
def TX2 : u_T := fun k => match k with
  | 0 => ("PalmTastes$Palm", "kind", "I", false)
  | 1 => ("PalmTastes$Palm", "aftertaste", "I", false)
  | _ => ("PalmTastes$Palm", "used", "[I", true)
def tyX2 : Nat → FieldType := fun k => match k with
  | 0 => .int
  | 1 => .int
  | _ => .array .int
abbrev wsX20 : List Cond := u_ws RX2 TX2 3
theorem nmX2 : ∀ a, a < 3 → ∀ b, b < 3 → a ≠ b → (TX2 a).2.1 ≠ (TX2 b).2.1 := by decide +kernel
theorem tyX2_ok : ∀ k, k < 3 → parseFieldDescriptor (TX2 k).2.2.1 = some (tyX2 k) := by decide +kernel
abbrev cX2_init : ByteArray := prog_4_method_1_code
def yX2_init : MethodName := ⟨RX2, "<init>", "()V"⟩
abbrev cX2_take : ByteArray := prog_4_method_2_code
def yX2_take : MethodName := ⟨RX2, "take", "(LPalmTastes$Street;I)V"⟩
abbrev cX2_leave : ByteArray := prog_4_method_3_code
def yX2_leave : MethodName := ⟨RX2, "leave", "(LPalmTastes$Street;I)V"⟩
abbrev cX2_forgetAll : ByteArray := prog_4_method_4_code
def yX2_forgetAll : MethodName := ⟨RX2, "forgetAll", "()V"⟩
abbrev cX2_feels : ByteArray := prog_4_method_5_code
def yX2_feels : MethodName := ⟨RX2, "feels", "(II)I"⟩
abbrev cX2_tasteOn : ByteArray := prog_4_method_6_code
def yX2_tasteOn : MethodName := ⟨RX2, "tasteOn", "(LPalmTastes$Street;I)I"⟩
abbrev cX2_readOn : ByteArray := prog_4_method_7_code
def yX2_readOn : MethodName := ⟨RX2, "readOn", "(LPalmTastes$Street;I)I"⟩
abbrev cX2_swapped : ByteArray := prog_4_method_8_code
def yX2_swapped : MethodName := ⟨RX2, "swapped", "(I)I"⟩
abbrev cX2_getsUsedTo : ByteArray := prog_4_method_9_code
def yX2_getsUsedTo : MethodName := ⟨RX2, "getsUsedTo", "(I)V"⟩
abbrev cX2_leastSpice : ByteArray := prog_4_method_10_code
def yX2_leastSpice : MethodName := ⟨RX2, "leastSpice", "(LPalmTastes$Street;II)I"⟩
def RX3 : String := "PalmTastes$Row"
def TX3 : u_T := fun k => match k with
  | 0 => ("PalmTastes$Row", "there", "Z", false)
  | 1 => ("PalmTastes$Row", "lane", "I", false)
  | 2 => ("PalmTastes$Row", "size", "I", false)
  | _ => ("PalmTastes$Row", "items", "[I", true)
def tyX3 : Nat → FieldType := fun k => match k with
  | 0 => .boolean
  | 1 => .int
  | 2 => .int
  | _ => .array .int
abbrev wsX30 : List Cond := u_ws RX3 TX3 4
theorem nmX3 : ∀ a, a < 4 → ∀ b, b < 4 → a ≠ b → (TX3 a).2.1 ≠ (TX3 b).2.1 := by decide +kernel
theorem tyX3_ok : ∀ k, k < 4 → parseFieldDescriptor (TX3 k).2.2.1 = some (tyX3 k) := by decide +kernel
abbrev cX3_init : ByteArray := prog_5_method_1_code
def yX3_init : MethodName := ⟨RX3, "<init>", "()V"⟩
abbrev cX3_begin : ByteArray := prog_5_method_2_code
def yX3_begin : MethodName := ⟨RX3, "begin", "(II)V"⟩
abbrev cX3_hasPlaces : ByteArray := prog_5_method_3_code
def yX3_hasPlaces : MethodName := ⟨RX3, "hasPlaces", "(II)Z"⟩
abbrev cX3_inLane : ByteArray := prog_5_method_4_code
def yX3_inLane : MethodName := ⟨RX3, "inLane", "(I)I"⟩
def RX4 : String := "PalmTastes$Street"
def TX4 : u_T := fun k => match k with
  | 0 => ("PalmTastes$Street", "walls", "I", false)
  | 1 => ("PalmTastes$Street", "readers", "I", false)
  | 2 => ("PalmTastes$Street", "days", "I", false)
  | 3 => ("PalmTastes$Street", "strong", "[I", true)
  | 4 => ("PalmTastes$Street", "kinds", "[I", true)
  | _ => ("PalmTastes$Street", "palms", "[I", true)
def tyX4 : Nat → FieldType := fun k => match k with
  | 0 => .int
  | 1 => .int
  | 2 => .int
  | 3 => .array .int
  | 4 => .array .int
  | _ => .array .int
abbrev wsX40 : List Cond := u_ws RX4 TX4 6
theorem nmX4 : ∀ a, a < 6 → ∀ b, b < 6 → a ≠ b → (TX4 a).2.1 ≠ (TX4 b).2.1 := by decide +kernel
theorem tyX4_ok : ∀ k, k < 6 → parseFieldDescriptor (TX4 k).2.2.1 = some (tyX4 k) := by decide +kernel
abbrev cX4_init : ByteArray := prog_6_method_1_code
def yX4_init : MethodName := ⟨RX4, "<init>", "()V"⟩
abbrev cX4_clear : ByteArray := prog_6_method_2_code
def yX4_clear : MethodName := ⟨RX4, "clear", "()V"⟩
abbrev cX4_become : ByteArray := prog_6_method_3_code
def yX4_become : MethodName := ⟨RX4, "become", "(LPalmTastes$Street;)V"⟩
abbrev cX4_hasWall : ByteArray := prog_6_method_4_code
def yX4_hasWall : MethodName := ⟨RX4, "hasWall", "(I)Z"⟩
abbrev cX4_hasReader : ByteArray := prog_6_method_5_code
def yX4_hasReader : MethodName := ⟨RX4, "hasReader", "(I)Z"⟩
abbrev cX4_hasFlavour : ByteArray := prog_6_method_6_code
def yX4_hasFlavour : MethodName := ⟨RX4, "hasFlavour", "(II)Z"⟩
abbrev cX4_strength : ByteArray := prog_6_method_7_code
def yX4_strength : MethodName := ⟨RX4, "strength", "(II)I"⟩
abbrev cX4_strengthInAll : ByteArray := prog_6_method_8_code
def yX4_strengthInAll : MethodName := ⟨RX4, "strengthInAll", "()I"⟩
abbrev cX4_usedInAll : ByteArray := prog_6_method_9_code
def yX4_usedInAll : MethodName := ⟨RX4, "usedInAll", "(I)I"⟩
abbrev cX4_fadeByDay : ByteArray := prog_6_method_10_code
def yX4_fadeByDay : MethodName := ⟨RX4, "fadeByDay", "(I)I"⟩
def RX5 : String := "PalmTastes$Tape"
def TX5 : u_T := fun k => match k with
  | 0 => ("PalmTastes$Tape", "length", "I", false)
  | 1 => ("PalmTastes$Tape", "draft", "LPalmTastes$Street;", true)
  | 2 => ("PalmTastes$Tape", "fault", "I", false)
  | 3 => ("PalmTastes$Tape", "faultPlace", "I", false)
  | 4 => ("PalmTastes$Tape", "bytes", "[I", true)
  | 5 => ("PalmTastes$Tape", "token", "I", false)
  | 6 => ("PalmTastes$Tape", "begins", "I", false)
  | 7 => ("PalmTastes$Tape", "ends", "I", false)
  | _ => ("PalmTastes$Tape", "value", "I", false)
def tyX5 : Nat → FieldType := fun k => match k with
  | 0 => .int
  | 1 => .object "PalmTastes$Street"
  | 2 => .int
  | 3 => .int
  | 4 => .array .int
  | 5 => .int
  | 6 => .int
  | 7 => .int
  | _ => .int
abbrev wsX50 : List Cond := u_ws RX5 TX5 9
theorem nmX5 : ∀ a, a < 9 → ∀ b, b < 9 → a ≠ b → (TX5 a).2.1 ≠ (TX5 b).2.1 := by decide +kernel
theorem tyX5_ok : ∀ k, k < 9 → parseFieldDescriptor (TX5 k).2.2.1 = some (tyX5 k) := by decide +kernel
abbrev cX5_init : ByteArray := prog_7_method_1_code
def yX5_init : MethodName := ⟨RX5, "<init>", "()V"⟩
abbrev cX5_add : ByteArray := prog_7_method_2_code
def yX5_add : MethodName := ⟨RX5, "add", "(I)V"⟩
abbrev cX5_isStreet : ByteArray := prog_7_method_3_code
def yX5_isStreet : MethodName := ⟨RX5, "isStreet", "()Z"⟩
abbrev cX5_tellWall : ByteArray := prog_7_method_4_code
def yX5_tellWall : MethodName := ⟨RX5, "tellWall", "()Z"⟩
abbrev cX5_tellReader : ByteArray := prog_7_method_5_code
def yX5_tellReader : MethodName := ⟨RX5, "tellReader", "()Z"⟩
abbrev cX5_tellNumbers : ByteArray := prog_7_method_6_code
def yX5_tellNumbers : MethodName := ⟨RX5, "tellNumbers", "([III)Z"⟩
abbrev cX5_tellSign : ByteArray := prog_7_method_7_code
def yX5_tellSign : MethodName := ⟨RX5, "tellSign", "()Z"⟩
abbrev cX5_kindOfSort : ByteArray := prog_7_method_8_code
def yX5_kindOfSort : MethodName := ⟨RX5, "kindOfSort", "()I"⟩
abbrev cX5_at : ByteArray := prog_7_method_9_code
def yX5_at : MethodName := ⟨RX5, "at", "(I)I"⟩
abbrev cX5_faulty : ByteArray := prog_7_method_10_code
def yX5_faulty : MethodName := ⟨RX5, "faulty", "(I)Z"⟩
abbrev cX5_isWord : ByteArray := prog_7_method_11_code
def yX5_isWord : MethodName := ⟨RX5, "isWord", "(Ljava/lang/String;)Z"⟩
abbrev cX5_toNextToken : ByteArray := prog_7_method_12_code
def yX5_toNextToken : MethodName := ⟨RX5, "toNextToken", "()V"⟩
abbrev cX5_toEndOfNumber : ByteArray := prog_7_method_13_code
def yX5_toEndOfNumber : MethodName := ⟨RX5, "toEndOfNumber", "()V"⟩
abbrev cX5_isBlank : ByteArray := prog_7_method_14_code
def yX5_isBlank : MethodName := ⟨RX5, "isBlank", "(I)Z"⟩
abbrev cX5_isLetter : ByteArray := prog_7_method_15_code
def yX5_isLetter : MethodName := ⟨RX5, "isLetter", "(I)Z"⟩
abbrev cX5_isFigure : ByteArray := prog_7_method_16_code
def yX5_isFigure : MethodName := ⟨RX5, "isFigure", "(I)Z"⟩
def RX6 : String := "PalmTastes"
def TX6 : u_T := fun k => match k with
  | 0 => ("PalmTastes", "rows", "[LPalmTastes$Row;", true)
  | 1 => ("PalmTastes", "tape", "LPalmTastes$Tape;", true)
  | 2 => ("PalmTastes", "street", "LPalmTastes$Street;", true)
  | 3 => ("PalmTastes", "acts", "LPalmTastes$Acts;", true)
  | 4 => ("PalmTastes", "images", "[LPalmTastes$Street;", true)
  | 5 => ("PalmTastes", "asks", "LPalmTastes$Asks;", true)
  | 6 => ("PalmTastes", "latestFault", "I", false)
  | 7 => ("PalmTastes", "latestFinding", "I", false)
  | 8 => ("PalmTastes", "palm", "LPalmTastes$Palm;", true)
  | 9 => ("PalmTastes", "told", "[I", true)
  | 10 => ("PalmTastes", "readFirst", "[I", true)
  | 11 => ("PalmTastes", "spiceThere", "[I", true)
  | _ => ("PalmTastes", "spiceBack", "[I", true)
def tyX6 : Nat → FieldType := fun k => match k with
  | 0 => .array (.object "PalmTastes$Row")
  | 1 => .object "PalmTastes$Tape"
  | 2 => .object "PalmTastes$Street"
  | 3 => .object "PalmTastes$Acts"
  | 4 => .array (.object "PalmTastes$Street")
  | 5 => .object "PalmTastes$Asks"
  | 6 => .int
  | 7 => .int
  | 8 => .object "PalmTastes$Palm"
  | 9 => .array .int
  | 10 => .array .int
  | 11 => .array .int
  | _ => .array .int
abbrev wsX60 : List Cond := u_ws RX6 TX6 13
theorem nmX6 : ∀ a, a < 13 → ∀ b, b < 13 → a ≠ b → (TX6 a).2.1 ≠ (TX6 b).2.1 := by decide +kernel
theorem tyX6_ok : ∀ k, k < 13 → parseFieldDescriptor (TX6 k).2.2.1 = some (tyX6 k) := by decide +kernel
abbrev cX6_init : ByteArray := prog_1_method_1_code
def yX6_init : MethodName := ⟨RX6, "<init>", "()V"⟩
abbrev cX6_row : ByteArray := prog_1_method_2_code
def yX6_row : MethodName := ⟨RX6, "row", "(III)I"⟩
abbrev cX6_set : ByteArray := prog_1_method_3_code
def yX6_set : MethodName := ⟨RX6, "set", "(III)I"⟩
abbrev cX6_copy : ByteArray := prog_1_method_4_code
def yX6_copy : MethodName := ⟨RX6, "copy", "(IIIII)I"⟩
abbrev cX6_drop : ByteArray := prog_1_method_5_code
def yX6_drop : MethodName := ⟨RX6, "drop", "(I)I"⟩
abbrev cX6_isRow : ByteArray := prog_1_method_6_code
def yX6_isRow : MethodName := ⟨RX6, "isRow", "(I)Z"⟩
abbrev cX6_finding : ByteArray := prog_1_method_7_code
def yX6_finding : MethodName := ⟨RX6, "finding", "(I)I"⟩
abbrev cX6_noFinding : ByteArray := prog_1_method_8_code
def yX6_noFinding : MethodName := ⟨RX6, "noFinding", "(I)I"⟩
abbrev cX6_feed : ByteArray := prog_1_method_9_code
def yX6_feed : MethodName := ⟨RX6, "feed", "(JI)I"⟩
abbrev cX6_street : ByteArray := prog_1_method_10_code
def yX6_street : MethodName := ⟨RX6, "street", "()I"⟩
abbrev cX6_fault : ByteArray := prog_1_method_11_code
def yX6_fault : MethodName := ⟨RX6, "fault", "()I"⟩
abbrev cX6_paint : ByteArray := prog_1_method_12_code
def yX6_paint : MethodName := ⟨RX6, "paint", "(III)I"⟩
abbrev cX6_day : ByteArray := prog_1_method_13_code
def yX6_day : MethodName := ⟨RX6, "day", "(I)I"⟩
abbrev cX6_walk : ByteArray := prog_1_method_14_code
def yX6_walk : MethodName := ⟨RX6, "walk", "(III)I"⟩
abbrev cX6_rest : ByteArray := prog_1_method_15_code
def yX6_rest : MethodName := ⟨RX6, "rest", "(I)I"⟩
abbrev cX6_undo : ByteArray := prog_1_method_16_code
def yX6_undo : MethodName := ⟨RX6, "undo", "()I"⟩
abbrev cX6_wall : ByteArray := prog_1_method_17_code
def yX6_wall : MethodName := ⟨RX6, "wall", "(II)I"⟩
abbrev cX6_reader : ByteArray := prog_1_method_18_code
def yX6_reader : MethodName := ⟨RX6, "reader", "(II)I"⟩
abbrev cX6_felt : ByteArray := prog_1_method_19_code
def yX6_felt : MethodName := ⟨RX6, "felt", "(III)I"⟩
abbrev cX6_isFlavour : ByteArray := prog_1_method_20_code
def yX6_isFlavour : MethodName := ⟨RX6, "isFlavour", "(I)Z"⟩
abbrev cX6_canWalk : ByteArray := prog_1_method_21_code
def yX6_canWalk : MethodName := ⟨RX6, "canWalk", "(III)Z"⟩
abbrev cX6_wallsOnWay : ByteArray := prog_1_method_22_code
def yX6_wallsOnWay : MethodName := ⟨RX6, "wallsOnWay", "(II)I"⟩
abbrev cX6_wallOnWay : ByteArray := prog_1_method_23_code
def yX6_wallOnWay : MethodName := ⟨RX6, "wallOnWay", "(III)I"⟩
abbrev cX6_read : ByteArray := prog_1_method_24_code
def yX6_read : MethodName := ⟨RX6, "read", "(IIII)I"⟩
abbrev cX6_wrong : ByteArray := prog_1_method_25_code
def yX6_wrong : MethodName := ⟨RX6, "wrong", "(IIII)I"⟩
abbrev cX6_often : ByteArray := prog_1_method_26_code
def yX6_often : MethodName := ⟨RX6, "often", "(III)I"⟩
abbrev cX6_spice : ByteArray := prog_1_method_27_code
def yX6_spice : MethodName := ⟨RX6, "spice", "(IIIII)I"⟩
abbrev cX6_both : ByteArray := prog_1_method_28_code
def yX6_both : MethodName := ⟨RX6, "both", "(IIII)I"⟩
abbrev cX6_order : ByteArray := prog_1_method_29_code
def yX6_order : MethodName := ⟨RX6, "order", "(III)I"⟩
abbrev cX6_written : ByteArray := prog_1_method_30_code
def yX6_written : MethodName := ⟨RX6, "written", "(IIII)I"⟩
abbrev cX6_forged : ByteArray := prog_1_method_31_code
def yX6_forged : MethodName := ⟨RX6, "forged", "(II)I"⟩
abbrev cX6_image : ByteArray := prog_1_method_32_code
def yX6_image : MethodName := ⟨RX6, "image", "(I)I"⟩
abbrev cX6_restore : ByteArray := prog_1_method_33_code
def yX6_restore : MethodName := ⟨RX6, "restore", "(I)I"⟩
abbrev cX6_hearMessage : ByteArray := prog_1_method_34_code
def yX6_hearMessage : MethodName := ⟨RX6, "hearMessage", "(IIII)I"⟩
abbrev cX6_readsOtherwise : ByteArray := prog_1_method_35_code
def yX6_readsOtherwise : MethodName := ⟨RX6, "readsOtherwise", "(II)Z"⟩
abbrev cX6_findSpice : ByteArray := prog_1_method_36_code
def yX6_findSpice : MethodName := ⟨RX6, "findSpice", "(III[I)Z"⟩
abbrev cX6_firstFelt : ByteArray := prog_1_method_37_code
def yX6_firstFelt : MethodName := ⟨RX6, "firstFelt", "(II)I"⟩
abbrev cX6_fadesByDay : ByteArray := prog_1_method_38_code
def yX6_fadesByDay : MethodName := ⟨RX6, "fadesByDay", "(I)I"⟩
abbrev cX6_kind : ByteArray := prog_1_method_39_code
def yX6_kind : MethodName := ⟨RX6, "kind", "(I)I"⟩
abbrev cX6_as : ByteArray := prog_1_method_40_code
def yX6_as : MethodName := ⟨RX6, "as", "(II)I"⟩
abbrev cX6_ask : ByteArray := prog_1_method_41_code
def yX6_ask : MethodName := ⟨RX6, "ask", "(II)I"⟩
abbrev cX6_trace : ByteArray := prog_1_method_42_code
def yX6_trace : MethodName := ⟨RX6, "trace", "(I)I"⟩
abbrev cX6_count : ByteArray := prog_1_method_43_code
def yX6_count : MethodName := ⟨RX6, "count", "(I)I"⟩
abbrev cX6_status : ByteArray := prog_1_method_44_code
def yX6_status : MethodName := ⟨RX6, "status", "()I"⟩
abbrev cX6_isOfKind : ByteArray := prog_1_method_45_code
def yX6_isOfKind : MethodName := ⟨RX6, "isOfKind", "(II)Z"⟩
abbrev cX6_rowsThere : ByteArray := prog_1_method_46_code
def yX6_rowsThere : MethodName := ⟨RX6, "rowsThere", "()I"⟩
def RX7 : String := "PalmTastesModel"
def TX7 : u_T := fun k => match k with
  | 0 => ("PalmTastesModel", "thrown", "I", false)
  | 1 => ("PalmTastesModel", "status", "I", false)
  | 2 => ("PalmTastesModel", "lane", "[I", true)
  | 3 => ("PalmTastesModel", "many", "[I", true)
  | 4 => ("PalmTastesModel", "item", "[I", true)
  | 5 => ("PalmTastesModel", "street", "[I", true)
  | 6 => ("PalmTastesModel", "fresh", "[I", true)
  | 7 => ("PalmTastesModel", "was", "[I", true)
  | 8 => ("PalmTastesModel", "acts", "I", false)
  | 9 => ("PalmTastesModel", "tape", "[I", true)
  | 10 => ("PalmTastesModel", "taped", "I", false)
  | 11 => ("PalmTastesModel", "latest", "I", false)
  | 12 => ("PalmTastesModel", "length", "I", false)
  | 13 => ("PalmTastesModel", "cursor", "I", false)
  | 14 => ("PalmTastesModel", "token", "I", false)
  | 15 => ("PalmTastesModel", "start", "I", false)
  | 16 => ("PalmTastesModel", "till", "I", false)
  | 17 => ("PalmTastesModel", "fault", "I", false)
  | 18 => ("PalmTastesModel", "faultAt", "I", false)
  | 19 => ("PalmTastesModel", "sort", "I", false)
  | 20 => ("PalmTastesModel", "used", "[I", true)
  | 21 => ("PalmTastesModel", "after", "I", false)
  | 22 => ("PalmTastesModel", "first", "[I", true)
  | 23 => ("PalmTastesModel", "spice", "[I", true)
  | 24 => ("PalmTastesModel", "there", "[I", true)
  | 25 => ("PalmTastesModel", "isKept", "[Z", true)
  | 26 => ("PalmTastesModel", "kept", "[I", true)
  | 27 => ("PalmTastesModel", "trace", "[I", true)
  | _ => ("PalmTastesModel", "traced", "I", false)
def tyX7 : Nat → FieldType := fun k => match k with
  | 0 => .int
  | 1 => .int
  | 2 => .array .int
  | 3 => .array .int
  | 4 => .array .int
  | 5 => .array .int
  | 6 => .array .int
  | 7 => .array .int
  | 8 => .int
  | 9 => .array .int
  | 10 => .int
  | 11 => .int
  | 12 => .int
  | 13 => .int
  | 14 => .int
  | 15 => .int
  | 16 => .int
  | 17 => .int
  | 18 => .int
  | 19 => .int
  | 20 => .array .int
  | 21 => .int
  | 22 => .array .int
  | 23 => .array .int
  | 24 => .array .int
  | 25 => .array .boolean
  | 26 => .array .int
  | 27 => .array .int
  | _ => .int
abbrev wsX70 : List Cond := u_ws RX7 TX7 29
theorem nmX7 : ∀ a, a < 29 → ∀ b, b < 29 → a ≠ b → (TX7 a).2.1 ≠ (TX7 b).2.1 := by decide +kernel
theorem tyX7_ok : ∀ k, k < 29 → parseFieldDescriptor (TX7 k).2.2.1 = some (tyX7 k) := by decide +kernel
abbrev cX7_init : ByteArray := prog_9_method_1_code
def yX7_init : MethodName := ⟨RX7, "<init>", "()V"⟩
abbrev cX7_in : ByteArray := prog_9_method_3_code
def yX7_in : MethodName := ⟨RX7, "in", "(JJJ)Z"⟩
abbrev cX7_finding : ByteArray := prog_9_method_4_code
def yX7_finding : MethodName := ⟨RX7, "finding", "(I)I"⟩
abbrev cX7_isRow : ByteArray := prog_9_method_5_code
def yX7_isRow : MethodName := ⟨RX7, "isRow", "(I)Z"⟩
abbrev cX7_row : ByteArray := prog_9_method_6_code
def yX7_row : MethodName := ⟨RX7, "row", "(III)I"⟩
abbrev cX7_set : ByteArray := prog_9_method_7_code
def yX7_set : MethodName := ⟨RX7, "set", "(III)I"⟩
abbrev cX7_copy : ByteArray := prog_9_method_8_code
def yX7_copy : MethodName := ⟨RX7, "copy", "(IIIII)I"⟩
abbrev cX7_drop : ByteArray := prog_9_method_9_code
def yX7_drop : MethodName := ⟨RX7, "drop", "(I)I"⟩
abbrev cX7_feed : ByteArray := prog_9_method_10_code
def yX7_feed : MethodName := ⟨RX7, "feed", "(JI)I"⟩
abbrev cX7_byteAt : ByteArray := prog_9_method_11_code
def yX7_byteAt : MethodName := ⟨RX7, "byteAt", "(I)I"⟩
abbrev cX7_isLetter : ByteArray := prog_9_method_12_code
def yX7_isLetter : MethodName := ⟨RX7, "isLetter", "(I)Z"⟩
abbrev cX7_isFigure : ByteArray := prog_9_method_13_code
def yX7_isFigure : MethodName := ⟨RX7, "isFigure", "(I)Z"⟩
abbrev cX7_next : ByteArray := prog_9_method_14_code
def yX7_next : MethodName := ⟨RX7, "next", "()V"⟩
abbrev cX7_begin : ByteArray := prog_9_method_15_code
def yX7_begin : MethodName := ⟨RX7, "begin", "()V"⟩
abbrev cX7_bad : ByteArray := prog_9_method_16_code
def yX7_bad : MethodName := ⟨RX7, "bad", "(I)V"⟩
abbrev cX7_must : ByteArray := prog_9_method_17_code
def yX7_must : MethodName := ⟨RX7, "must", "(Z)V"⟩
abbrev cX7_name : ByteArray := prog_9_method_18_code
def yX7_name : MethodName := ⟨RX7, "name", "()J"⟩
abbrev cX7_figures : ByteArray := prog_9_method_19_code
def yX7_figures : MethodName := ⟨RX7, "figures", "()I"⟩
abbrev cX7_number : ByteArray := prog_9_method_20_code
def yX7_number : MethodName := ⟨RX7, "number", "(II)I"⟩
abbrev cX7_kindBy : ByteArray := prog_9_method_21_code
def yX7_kindBy : MethodName := ⟨RX7, "kindBy", "(J)I"⟩
abbrev cX7_mustEnd : ByteArray := prog_9_method_22_code
def yX7_mustEnd : MethodName := ⟨RX7, "mustEnd", "()V"⟩
abbrev cX7_begins : ByteArray := prog_9_method_23_code
def yX7_begins : MethodName := ⟨RX7, "begins", "(II)V"⟩
abbrev cX7_readWall : ByteArray := prog_9_method_24_code
def yX7_readWall : MethodName := ⟨RX7, "readWall", "()V"⟩
abbrev cX7_readReader : ByteArray := prog_9_method_25_code
def yX7_readReader : MethodName := ⟨RX7, "readReader", "()V"⟩
abbrev cX7_street : ByteArray := prog_9_method_26_code
def yX7_street : MethodName := ⟨RX7, "street", "()I"⟩
abbrev cX7_fault : ByteArray := prog_9_method_27_code
def yX7_fault : MethodName := ⟨RX7, "fault", "()I"⟩
abbrev cX7_isThere : ByteArray := prog_9_method_28_code
def yX7_isThere : MethodName := ⟨RX7, "isThere", "()Z"⟩
abbrev cX7_isWall : ByteArray := prog_9_method_29_code
def yX7_isWall : MethodName := ⟨RX7, "isWall", "(I)Z"⟩
abbrev cX7_isReader : ByteArray := prog_9_method_30_code
def yX7_isReader : MethodName := ⟨RX7, "isReader", "(I)Z"⟩
abbrev cX7_isFlavour : ByteArray := prog_9_method_31_code
def yX7_isFlavour : MethodName := ⟨RX7, "isFlavour", "(I)Z"⟩
abbrev cX7_isWalk : ByteArray := prog_9_method_32_code
def yX7_isWalk : MethodName := ⟨RX7, "isWalk", "(III)Z"⟩
abbrev cX7_of : ByteArray := prog_9_method_33_code
def yX7_of : MethodName := ⟨RX7, "of", "(II)I"⟩
abbrev cX7_strong : ByteArray := prog_9_method_34_code
def yX7_strong : MethodName := ⟨RX7, "strong", "(II)I"⟩
abbrev cX7_layPalm : ByteArray := prog_9_method_35_code
def yX7_layPalm : MethodName := ⟨RX7, "layPalm", "(I)V"⟩
abbrev cX7_feels : ByteArray := prog_9_method_36_code
def yX7_feels : MethodName := ⟨RX7, "feels", "(II)I"⟩
abbrev cX7_tastes : ByteArray := prog_9_method_37_code
def yX7_tastes : MethodName := ⟨RX7, "tastes", "(III)I"⟩
abbrev cX7_reads : ByteArray := prog_9_method_38_code
def yX7_reads : MethodName := ⟨RX7, "reads", "(I)I"⟩
abbrev cX7_getsUsed : ByteArray := prog_9_method_39_code
def yX7_getsUsed : MethodName := ⟨RX7, "getsUsed", "(I)V"⟩
abbrev cX7_wallsOf : ByteArray := prog_9_method_40_code
def yX7_wallsOf : MethodName := ⟨RX7, "wallsOf", "(II)I"⟩
abbrev cX7_wallAt : ByteArray := prog_9_method_41_code
def yX7_wallAt : MethodName := ⟨RX7, "wallAt", "(III)I"⟩
abbrev cX7_keep : ByteArray := prog_9_method_42_code
def yX7_keep : MethodName := ⟨RX7, "keep", "()V"⟩
abbrev cX7_paint : ByteArray := prog_9_method_43_code
def yX7_paint : MethodName := ⟨RX7, "paint", "(III)I"⟩
abbrev cX7_day : ByteArray := prog_9_method_44_code
def yX7_day : MethodName := ⟨RX7, "day", "(I)I"⟩
abbrev cX7_walk : ByteArray := prog_9_method_45_code
def yX7_walk : MethodName := ⟨RX7, "walk", "(III)I"⟩
abbrev cX7_usedOf : ByteArray := prog_9_method_46_code
def yX7_usedOf : MethodName := ⟨RX7, "usedOf", "(I)I"⟩
abbrev cX7_rest : ByteArray := prog_9_method_47_code
def yX7_rest : MethodName := ⟨RX7, "rest", "(I)I"⟩
abbrev cX7_undo : ByteArray := prog_9_method_48_code
def yX7_undo : MethodName := ⟨RX7, "undo", "()I"⟩
abbrev cX7_wall : ByteArray := prog_9_method_49_code
def yX7_wall : MethodName := ⟨RX7, "wall", "(II)I"⟩
abbrev cX7_reader : ByteArray := prog_9_method_50_code
def yX7_reader : MethodName := ⟨RX7, "reader", "(II)I"⟩
abbrev cX7_felt : ByteArray := prog_9_method_51_code
def yX7_felt : MethodName := ⟨RX7, "felt", "(III)I"⟩
abbrev cX7_read : ByteArray := prog_9_method_52_code
def yX7_read : MethodName := ⟨RX7, "read", "(IIII)I"⟩
abbrev cX7_barred : ByteArray := prog_9_method_53_code
def yX7_barred : MethodName := ⟨RX7, "barred", "(III)I"⟩
abbrev cX7_wrong : ByteArray := prog_9_method_54_code
def yX7_wrong : MethodName := ⟨RX7, "wrong", "(IIII)I"⟩
abbrev cX7_often : ByteArray := prog_9_method_55_code
def yX7_often : MethodName := ⟨RX7, "often", "(III)I"⟩
abbrev cX7_laySpice : ByteArray := prog_9_method_56_code
def yX7_laySpice : MethodName := ⟨RX7, "laySpice", "(IIIII)Z"⟩
abbrev cX7_spice : ByteArray := prog_9_method_57_code
def yX7_spice : MethodName := ⟨RX7, "spice", "(IIIII)I"⟩
abbrev cX7_both : ByteArray := prog_9_method_58_code
def yX7_both : MethodName := ⟨RX7, "both", "(IIII)I"⟩
abbrev cX7_goes : ByteArray := prog_9_method_59_code
def yX7_goes : MethodName := ⟨RX7, "goes", "(III)Z"⟩
abbrev cX7_isOrder : ByteArray := prog_9_method_60_code
def yX7_isOrder : MethodName := ⟨RX7, "isOrder", "(I)Z"⟩
abbrev cX7_order : ByteArray := prog_9_method_61_code
def yX7_order : MethodName := ⟨RX7, "order", "(III)I"⟩
abbrev cX7_written : ByteArray := prog_9_method_62_code
def yX7_written : MethodName := ⟨RX7, "written", "(IIII)I"⟩
abbrev cX7_forged : ByteArray := prog_9_method_63_code
def yX7_forged : MethodName := ⟨RX7, "forged", "(II)I"⟩
abbrev cX7_image : ByteArray := prog_9_method_64_code
def yX7_image : MethodName := ⟨RX7, "image", "(I)I"⟩
abbrev cX7_restore : ByteArray := prog_9_method_65_code
def yX7_restore : MethodName := ⟨RX7, "restore", "(I)I"⟩
abbrev cX7_isOf : ByteArray := prog_9_method_66_code
def yX7_isOf : MethodName := ⟨RX7, "isOf", "(II)Z"⟩
abbrev cX7_kind : ByteArray := prog_9_method_67_code
def yX7_kind : MethodName := ⟨RX7, "kind", "(I)I"⟩
abbrev cX7_as : ByteArray := prog_9_method_68_code
def yX7_as : MethodName := ⟨RX7, "as", "(II)I"⟩
abbrev cX7_began : ByteArray := prog_9_method_69_code
def yX7_began : MethodName := ⟨RX7, "began", "(I)V"⟩
abbrev cX7_plainSize : ByteArray := prog_9_method_70_code
def yX7_plainSize : MethodName := ⟨RX7, "plainSize", "(I)I"⟩
abbrev cX7_waxSize : ByteArray := prog_9_method_71_code
def yX7_waxSize : MethodName := ⟨RX7, "waxSize", "(I)I"⟩
abbrev cX7_markOf : ByteArray := prog_9_method_72_code
def yX7_markOf : MethodName := ⟨RX7, "markOf", "(I)I"⟩
abbrev cX7_sizeOf : ByteArray := prog_9_method_73_code
def yX7_sizeOf : MethodName := ⟨RX7, "sizeOf", "(I)I"⟩
abbrev cX7_ask : ByteArray := prog_9_method_74_code
def yX7_ask : MethodName := ⟨RX7, "ask", "(II)I"⟩
abbrev cX7_trace : ByteArray := prog_9_method_75_code
def yX7_trace : MethodName := ⟨RX7, "trace", "(I)I"⟩
abbrev cX7_count : ByteArray := prog_9_method_76_code
def yX7_count : MethodName := ⟨RX7, "count", "(I)I"⟩
abbrev cX7_status : ByteArray := prog_9_method_77_code
def yX7_status : MethodName := ⟨RX7, "status", "()I"⟩
def RJ9 : String := "java/lang/Math"
abbrev cJ9_abs_0f7a4 : ByteArray := prog_10_method_59_code
def yJ9_abs_0f7a4 : MethodName := ⟨RJ9, "abs", "(I)I"⟩
abbrev cJ9_max_7cf53 : ByteArray := prog_10_method_65_code
def yJ9_max_7cf53 : MethodName := ⟨RJ9, "max", "(II)I"⟩
abbrev cJ9_min_7cf53 : ByteArray := prog_10_method_69_code
def yJ9_min_7cf53 : MethodName := ⟨RJ9, "min", "(II)I"⟩
def RJ0 : String := "java/lang/String"
abbrev cJ0_length_8abf5 : ByteArray := prog_11_method_54_code
def yJ0_length_8abf5 : MethodName := ⟨RJ0, "length", "()I"⟩
abbrev cJ0_charAt_5068e : ByteArray := prog_11_method_56_code
def yJ0_charAt_5068e : MethodName := ⟨RJ0, "charAt", "(I)C"⟩
abbrev cJ0_coder_7d493 : ByteArray := prog_11_method_152_code
def yJ0_coder_7d493 : MethodName := ⟨RJ0, "coder", "()B"⟩
abbrev cJ0_isLatin1_aae02 : ByteArray := prog_11_method_154_code
def yJ0_isLatin1_aae02 : MethodName := ⟨RJ0, "isLatin1", "()Z"⟩
abbrev cJ0_checkIndex_df160 : ByteArray := prog_11_method_155_code
def yJ0_checkIndex_df160 : MethodName := ⟨RJ0, "checkIndex", "(II)V"⟩
def RJ1 : String := "java/lang/StringLatin1"
abbrev cJ1_charAt_3b067 : ByteArray := prog_12_method_2_code
def yJ1_charAt_3b067 : MethodName := ⟨RJ1, "charAt", "([BI)C"⟩
def RJ7 : String := "java/util/Arrays"
abbrev cJ7_fill_53178 : ByteArray := prog_15_method_103_code
def yJ7_fill_53178 : MethodName := ⟨RJ7, "fill", "([II)V"⟩
def RJ3 : String := "jdk/internal/util/Preconditions"
abbrev cJ3_checkIndex_8e157 : ByteArray := prog_16_method_11_code
def yJ3_checkIndex_8e157 : MethodName := ⟨RJ3, "checkIndex", "(IILjava/util/function/BiFunction;)I"⟩
def RL : String := "PalmTastesLaw"
abbrev cL_law : ByteArray := code
def yL_law : MethodName := ⟨RL, "law", "([I)Z"⟩
abbrev vwCl : List vw_C := [(RX0, TX0, 3), (RX1, TX1, 2), (RX2, TX2, 3), (RX3, TX3, 4), (RX4, TX4, 6), (RX5, TX5, 9), (RX6, TX6, 13), (RX7, TX7, 29)]
