section
-- ===== PART A: goes FIRST, ahead of the names: the tables' words, and 'selects' of the private methods out of them =====
/-- a private method of a class that the tables say can be made, by its rows of tables_1 -/
def lw_okq (q : MethodName × Nat) : Prop := (q.1.cls ≠ "java/lang/invoke/MethodHandle" ∧ q.1.cls ≠ "java/lang/invoke/VarHandle") ∧ Cond.instantiable q.1.cls q.2 ∈ tables_1 ∧ Cond.privateMethod q.1 ∈ tables_1 ∧ Cond.instanceMethod q.1 ∈ tables_1
theorem lw_p0 : lw_okq (⟨"PalmTastes", "finding", "(I)I"⟩, 13) := ⟨⟨by decide +kernel, by decide +kernel⟩, List.mem_of_getElem? (i := 17) (by decide +kernel), List.mem_of_getElem? (i := 229) (by decide +kernel), List.mem_of_getElem? (i := 230) (by decide +kernel)⟩
theorem lw_p1 : lw_okq (⟨"PalmTastes", "noFinding", "(I)I"⟩, 13) := ⟨⟨by decide +kernel, by decide +kernel⟩, List.mem_of_getElem? (i := 17) (by decide +kernel), List.mem_of_getElem? (i := 241) (by decide +kernel), List.mem_of_getElem? (i := 242) (by decide +kernel)⟩
theorem lw_p2 : lw_okq (⟨"PalmTastes$Tape", "toNextToken", "()V"⟩, 9) := ⟨⟨by decide +kernel, by decide +kernel⟩, List.mem_of_getElem? (i := 27) (by decide +kernel), List.mem_of_getElem? (i := 289) (by decide +kernel), List.mem_of_getElem? (i := 290) (by decide +kernel)⟩
theorem lw_p3 : lw_okq (⟨"PalmTastes$Tape", "at", "(I)I"⟩, 9) := ⟨⟨by decide +kernel, by decide +kernel⟩, List.mem_of_getElem? (i := 27) (by decide +kernel), List.mem_of_getElem? (i := 293) (by decide +kernel), List.mem_of_getElem? (i := 294) (by decide +kernel)⟩
theorem lw_p4 : lw_okq (⟨"PalmTastes$Tape", "toEndOfNumber", "()V"⟩, 9) := ⟨⟨by decide +kernel, by decide +kernel⟩, List.mem_of_getElem? (i := 27) (by decide +kernel), List.mem_of_getElem? (i := 306) (by decide +kernel), List.mem_of_getElem? (i := 307) (by decide +kernel)⟩
theorem lw_p5 : lw_okq (⟨"PalmTastes$Tape", "isWord", "(Ljava/lang/String;)Z"⟩, 9) := ⟨⟨by decide +kernel, by decide +kernel⟩, List.mem_of_getElem? (i := 27) (by decide +kernel), List.mem_of_getElem? (i := 311) (by decide +kernel), List.mem_of_getElem? (i := 312) (by decide +kernel)⟩
theorem lw_p6 : lw_okq (⟨"PalmTastes$Tape", "faulty", "(I)Z"⟩, 9) := ⟨⟨by decide +kernel, by decide +kernel⟩, List.mem_of_getElem? (i := 27) (by decide +kernel), List.mem_of_getElem? (i := 363) (by decide +kernel), List.mem_of_getElem? (i := 364) (by decide +kernel)⟩
theorem lw_p7 : lw_okq (⟨"PalmTastes$Tape", "tellWall", "()Z"⟩, 9) := ⟨⟨by decide +kernel, by decide +kernel⟩, List.mem_of_getElem? (i := 27) (by decide +kernel), List.mem_of_getElem? (i := 367) (by decide +kernel), List.mem_of_getElem? (i := 368) (by decide +kernel)⟩
theorem lw_p8 : lw_okq (⟨"PalmTastes$Tape", "tellNumbers", "([III)Z"⟩, 9) := ⟨⟨by decide +kernel, by decide +kernel⟩, List.mem_of_getElem? (i := 27) (by decide +kernel), List.mem_of_getElem? (i := 371) (by decide +kernel), List.mem_of_getElem? (i := 372) (by decide +kernel)⟩
theorem lw_p9 : lw_okq (⟨"PalmTastes$Tape", "tellSign", "()Z"⟩, 9) := ⟨⟨by decide +kernel, by decide +kernel⟩, List.mem_of_getElem? (i := 27) (by decide +kernel), List.mem_of_getElem? (i := 375) (by decide +kernel), List.mem_of_getElem? (i := 376) (by decide +kernel)⟩
theorem lw_p10 : lw_okq (⟨"PalmTastes$Tape", "tellReader", "()Z"⟩, 9) := ⟨⟨by decide +kernel, by decide +kernel⟩, List.mem_of_getElem? (i := 27) (by decide +kernel), List.mem_of_getElem? (i := 380) (by decide +kernel), List.mem_of_getElem? (i := 381) (by decide +kernel)⟩
theorem lw_p11 : lw_okq (⟨"PalmTastes$Tape", "kindOfSort", "()I"⟩, 9) := ⟨⟨by decide +kernel, by decide +kernel⟩, List.mem_of_getElem? (i := 27) (by decide +kernel), List.mem_of_getElem? (i := 384) (by decide +kernel), List.mem_of_getElem? (i := 385) (by decide +kernel)⟩
theorem lw_p12 : lw_okq (⟨"PalmTastes", "canWalk", "(III)Z"⟩, 13) := ⟨⟨by decide +kernel, by decide +kernel⟩, List.mem_of_getElem? (i := 17) (by decide +kernel), List.mem_of_getElem? (i := 454) (by decide +kernel), List.mem_of_getElem? (i := 455) (by decide +kernel)⟩
theorem lw_p13 : lw_okq (⟨"PalmTastes", "hearMessage", "(IIII)I"⟩, 13) := ⟨⟨by decide +kernel, by decide +kernel⟩, List.mem_of_getElem? (i := 17) (by decide +kernel), List.mem_of_getElem? (i := 548) (by decide +kernel), List.mem_of_getElem? (i := 549) (by decide +kernel)⟩
theorem lw_p14 : lw_okq (⟨"PalmTastes", "readsOtherwise", "(II)Z"⟩, 13) := ⟨⟨by decide +kernel, by decide +kernel⟩, List.mem_of_getElem? (i := 17) (by decide +kernel), List.mem_of_getElem? (i := 556) (by decide +kernel), List.mem_of_getElem? (i := 557) (by decide +kernel)⟩
theorem lw_p15 : lw_okq (⟨"PalmTastes", "findSpice", "(III[I)Z"⟩, 13) := ⟨⟨by decide +kernel, by decide +kernel⟩, List.mem_of_getElem? (i := 17) (by decide +kernel), List.mem_of_getElem? (i := 564) (by decide +kernel), List.mem_of_getElem? (i := 565) (by decide +kernel)⟩
def lw_privs_1 : List (MethodName × Nat) := [(⟨"PalmTastes", "finding", "(I)I"⟩, 13), (⟨"PalmTastes", "noFinding", "(I)I"⟩, 13), (⟨"PalmTastes$Tape", "toNextToken", "()V"⟩, 9), (⟨"PalmTastes$Tape", "at", "(I)I"⟩, 9), (⟨"PalmTastes$Tape", "toEndOfNumber", "()V"⟩, 9), (⟨"PalmTastes$Tape", "isWord", "(Ljava/lang/String;)Z"⟩, 9), (⟨"PalmTastes$Tape", "faulty", "(I)Z"⟩, 9), (⟨"PalmTastes$Tape", "tellWall", "()Z"⟩, 9), (⟨"PalmTastes$Tape", "tellNumbers", "([III)Z"⟩, 9), (⟨"PalmTastes$Tape", "tellSign", "()Z"⟩, 9), (⟨"PalmTastes$Tape", "tellReader", "()Z"⟩, 9), (⟨"PalmTastes$Tape", "kindOfSort", "()I"⟩, 9), (⟨"PalmTastes", "canWalk", "(III)Z"⟩, 13), (⟨"PalmTastes", "hearMessage", "(IIII)I"⟩, 13), (⟨"PalmTastes", "readsOtherwise", "(II)Z"⟩, 13), (⟨"PalmTastes", "findSpice", "(III[I)Z"⟩, 13)]
theorem lw_r1 : ∀ q ∈ lw_privs_1, lw_okq q := List.forall_mem_cons.mpr ⟨lw_p0, List.forall_mem_cons.mpr ⟨lw_p1, List.forall_mem_cons.mpr ⟨lw_p2, List.forall_mem_cons.mpr ⟨lw_p3, List.forall_mem_cons.mpr ⟨lw_p4, List.forall_mem_cons.mpr ⟨lw_p5, List.forall_mem_cons.mpr ⟨lw_p6, List.forall_mem_cons.mpr ⟨lw_p7, List.forall_mem_cons.mpr ⟨lw_p8, List.forall_mem_cons.mpr ⟨lw_p9, List.forall_mem_cons.mpr ⟨lw_p10, List.forall_mem_cons.mpr ⟨lw_p11, List.forall_mem_cons.mpr ⟨lw_p12, List.forall_mem_cons.mpr ⟨lw_p13, List.forall_mem_cons.mpr ⟨lw_p14, List.forall_mem_cons.mpr ⟨lw_p15, fun _ h => absurd h List.not_mem_nil⟩⟩⟩⟩⟩⟩⟩⟩⟩⟩⟩⟩⟩⟩⟩⟩
theorem lw_p16 : lw_okq (⟨"PalmTastes", "firstFelt", "(II)I"⟩, 13) := ⟨⟨by decide +kernel, by decide +kernel⟩, List.mem_of_getElem? (i := 17) (by decide +kernel), List.mem_of_getElem? (i := 584) (by decide +kernel), List.mem_of_getElem? (i := 585) (by decide +kernel)⟩
theorem lw_p17 : lw_okq (⟨"PalmTastes$Asks", "askAnew", "(LPalmTastes$Street;III)I"⟩, 2) := ⟨⟨by decide +kernel, by decide +kernel⟩, List.mem_of_getElem? (i := 128) (by decide +kernel), List.mem_of_getElem? (i := 626) (by decide +kernel), List.mem_of_getElem? (i := 627) (by decide +kernel)⟩
theorem lw_p18 : lw_okq (⟨"PalmTastes$Asks", "bodyFor", "(II)I"⟩, 2) := ⟨⟨by decide +kernel, by decide +kernel⟩, List.mem_of_getElem? (i := 128) (by decide +kernel), List.mem_of_getElem? (i := 630) (by decide +kernel), List.mem_of_getElem? (i := 631) (by decide +kernel)⟩
theorem lw_p19 : lw_okq (⟨"PalmTastes$Asks", "gives", "(LPalmTastes$Street;III)I"⟩, 2) := ⟨⟨by decide +kernel, by decide +kernel⟩, List.mem_of_getElem? (i := 128) (by decide +kernel), List.mem_of_getElem? (i := 639) (by decide +kernel), List.mem_of_getElem? (i := 640) (by decide +kernel)⟩
theorem lw_p20 : lw_okq (⟨"PalmTastes$Asks", "leave", "(I)V"⟩, 2) := ⟨⟨by decide +kernel, by decide +kernel⟩, List.mem_of_getElem? (i := 128) (by decide +kernel), List.mem_of_getElem? (i := 643) (by decide +kernel), List.mem_of_getElem? (i := 644) (by decide +kernel)⟩
theorem lw_p21 : lw_okq (⟨"PalmTastes", "rowsThere", "()I"⟩, 13) := ⟨⟨by decide +kernel, by decide +kernel⟩, List.mem_of_getElem? (i := 17) (by decide +kernel), List.mem_of_getElem? (i := 656) (by decide +kernel), List.mem_of_getElem? (i := 657) (by decide +kernel)⟩
theorem lw_p22 : lw_okq (⟨"PalmTastesModel", "finding", "(I)I"⟩, 29) := ⟨⟨by decide +kernel, by decide +kernel⟩, List.mem_of_getElem? (i := 668) (by decide +kernel), List.mem_of_getElem? (i := 776) (by decide +kernel), List.mem_of_getElem? (i := 777) (by decide +kernel)⟩
theorem lw_p23 : lw_okq (⟨"PalmTastesModel", "begin", "()V"⟩, 29) := ⟨⟨by decide +kernel, by decide +kernel⟩, List.mem_of_getElem? (i := 668) (by decide +kernel), List.mem_of_getElem? (i := 804) (by decide +kernel), List.mem_of_getElem? (i := 805) (by decide +kernel)⟩
theorem lw_p24 : lw_okq (⟨"PalmTastesModel", "next", "()V"⟩, 29) := ⟨⟨by decide +kernel, by decide +kernel⟩, List.mem_of_getElem? (i := 668) (by decide +kernel), List.mem_of_getElem? (i := 808) (by decide +kernel), List.mem_of_getElem? (i := 809) (by decide +kernel)⟩
theorem lw_p25 : lw_okq (⟨"PalmTastesModel", "byteAt", "(I)I"⟩, 29) := ⟨⟨by decide +kernel, by decide +kernel⟩, List.mem_of_getElem? (i := 668) (by decide +kernel), List.mem_of_getElem? (i := 812) (by decide +kernel), List.mem_of_getElem? (i := 813) (by decide +kernel)⟩
theorem lw_p26 : lw_okq (⟨"PalmTastesModel", "name", "()J"⟩, 29) := ⟨⟨by decide +kernel, by decide +kernel⟩, List.mem_of_getElem? (i := 668) (by decide +kernel), List.mem_of_getElem? (i := 823) (by decide +kernel), List.mem_of_getElem? (i := 824) (by decide +kernel)⟩
theorem lw_p27 : lw_okq (⟨"PalmTastesModel", "bad", "(I)V"⟩, 29) := ⟨⟨by decide +kernel, by decide +kernel⟩, List.mem_of_getElem? (i := 668) (by decide +kernel), List.mem_of_getElem? (i := 828) (by decide +kernel), List.mem_of_getElem? (i := 829) (by decide +kernel)⟩
theorem lw_p28 : lw_okq (⟨"PalmTastesModel", "readWall", "()V"⟩, 29) := ⟨⟨by decide +kernel, by decide +kernel⟩, List.mem_of_getElem? (i := 668) (by decide +kernel), List.mem_of_getElem? (i := 832) (by decide +kernel), List.mem_of_getElem? (i := 833) (by decide +kernel)⟩
theorem lw_p29 : lw_okq (⟨"PalmTastesModel", "begins", "(II)V"⟩, 29) := ⟨⟨by decide +kernel, by decide +kernel⟩, List.mem_of_getElem? (i := 668) (by decide +kernel), List.mem_of_getElem? (i := 836) (by decide +kernel), List.mem_of_getElem? (i := 837) (by decide +kernel)⟩
theorem lw_p30 : lw_okq (⟨"PalmTastesModel", "must", "(Z)V"⟩, 29) := ⟨⟨by decide +kernel, by decide +kernel⟩, List.mem_of_getElem? (i := 668) (by decide +kernel), List.mem_of_getElem? (i := 840) (by decide +kernel), List.mem_of_getElem? (i := 841) (by decide +kernel)⟩
theorem lw_p31 : lw_okq (⟨"PalmTastesModel", "number", "(II)I"⟩, 29) := ⟨⟨by decide +kernel, by decide +kernel⟩, List.mem_of_getElem? (i := 668) (by decide +kernel), List.mem_of_getElem? (i := 844) (by decide +kernel), List.mem_of_getElem? (i := 845) (by decide +kernel)⟩
def lw_privs_2 : List (MethodName × Nat) := [(⟨"PalmTastes", "firstFelt", "(II)I"⟩, 13), (⟨"PalmTastes$Asks", "askAnew", "(LPalmTastes$Street;III)I"⟩, 2), (⟨"PalmTastes$Asks", "bodyFor", "(II)I"⟩, 2), (⟨"PalmTastes$Asks", "gives", "(LPalmTastes$Street;III)I"⟩, 2), (⟨"PalmTastes$Asks", "leave", "(I)V"⟩, 2), (⟨"PalmTastes", "rowsThere", "()I"⟩, 13), (⟨"PalmTastesModel", "finding", "(I)I"⟩, 29), (⟨"PalmTastesModel", "begin", "()V"⟩, 29), (⟨"PalmTastesModel", "next", "()V"⟩, 29), (⟨"PalmTastesModel", "byteAt", "(I)I"⟩, 29), (⟨"PalmTastesModel", "name", "()J"⟩, 29), (⟨"PalmTastesModel", "bad", "(I)V"⟩, 29), (⟨"PalmTastesModel", "readWall", "()V"⟩, 29), (⟨"PalmTastesModel", "begins", "(II)V"⟩, 29), (⟨"PalmTastesModel", "must", "(Z)V"⟩, 29), (⟨"PalmTastesModel", "number", "(II)I"⟩, 29)]
theorem lw_r2 : ∀ q ∈ lw_privs_2, lw_okq q := List.forall_mem_cons.mpr ⟨lw_p16, List.forall_mem_cons.mpr ⟨lw_p17, List.forall_mem_cons.mpr ⟨lw_p18, List.forall_mem_cons.mpr ⟨lw_p19, List.forall_mem_cons.mpr ⟨lw_p20, List.forall_mem_cons.mpr ⟨lw_p21, List.forall_mem_cons.mpr ⟨lw_p22, List.forall_mem_cons.mpr ⟨lw_p23, List.forall_mem_cons.mpr ⟨lw_p24, List.forall_mem_cons.mpr ⟨lw_p25, List.forall_mem_cons.mpr ⟨lw_p26, List.forall_mem_cons.mpr ⟨lw_p27, List.forall_mem_cons.mpr ⟨lw_p28, List.forall_mem_cons.mpr ⟨lw_p29, List.forall_mem_cons.mpr ⟨lw_p30, List.forall_mem_cons.mpr ⟨lw_p31, fun _ h => absurd h List.not_mem_nil⟩⟩⟩⟩⟩⟩⟩⟩⟩⟩⟩⟩⟩⟩⟩⟩
theorem lw_p32 : lw_okq (⟨"PalmTastesModel", "figures", "()I"⟩, 29) := ⟨⟨by decide +kernel, by decide +kernel⟩, List.mem_of_getElem? (i := 668) (by decide +kernel), List.mem_of_getElem? (i := 848) (by decide +kernel), List.mem_of_getElem? (i := 849) (by decide +kernel)⟩
theorem lw_p33 : lw_okq (⟨"PalmTastesModel", "mustEnd", "()V"⟩, 29) := ⟨⟨by decide +kernel, by decide +kernel⟩, List.mem_of_getElem? (i := 668) (by decide +kernel), List.mem_of_getElem? (i := 852) (by decide +kernel), List.mem_of_getElem? (i := 853) (by decide +kernel)⟩
theorem lw_p34 : lw_okq (⟨"PalmTastesModel", "readReader", "()V"⟩, 29) := ⟨⟨by decide +kernel, by decide +kernel⟩, List.mem_of_getElem? (i := 668) (by decide +kernel), List.mem_of_getElem? (i := 857) (by decide +kernel), List.mem_of_getElem? (i := 858) (by decide +kernel)⟩
theorem lw_p35 : lw_okq (⟨"PalmTastesModel", "isWall", "(I)Z"⟩, 29) := ⟨⟨by decide +kernel, by decide +kernel⟩, List.mem_of_getElem? (i := 668) (by decide +kernel), List.mem_of_getElem? (i := 878) (by decide +kernel), List.mem_of_getElem? (i := 879) (by decide +kernel)⟩
theorem lw_p36 : lw_okq (⟨"PalmTastesModel", "keep", "()V"⟩, 29) := ⟨⟨by decide +kernel, by decide +kernel⟩, List.mem_of_getElem? (i := 668) (by decide +kernel), List.mem_of_getElem? (i := 887) (by decide +kernel), List.mem_of_getElem? (i := 888) (by decide +kernel)⟩
theorem lw_p37 : lw_okq (⟨"PalmTastesModel", "strong", "(II)I"⟩, 29) := ⟨⟨by decide +kernel, by decide +kernel⟩, List.mem_of_getElem? (i := 668) (by decide +kernel), List.mem_of_getElem? (i := 891) (by decide +kernel), List.mem_of_getElem? (i := 892) (by decide +kernel)⟩
theorem lw_p38 : lw_okq (⟨"PalmTastesModel", "isThere", "()Z"⟩, 29) := ⟨⟨by decide +kernel, by decide +kernel⟩, List.mem_of_getElem? (i := 668) (by decide +kernel), List.mem_of_getElem? (i := 899) (by decide +kernel), List.mem_of_getElem? (i := 900) (by decide +kernel)⟩
theorem lw_p39 : lw_okq (⟨"PalmTastesModel", "isWalk", "(III)Z"⟩, 29) := ⟨⟨by decide +kernel, by decide +kernel⟩, List.mem_of_getElem? (i := 668) (by decide +kernel), List.mem_of_getElem? (i := 909) (by decide +kernel), List.mem_of_getElem? (i := 910) (by decide +kernel)⟩
theorem lw_p40 : lw_okq (⟨"PalmTastesModel", "isReader", "(I)Z"⟩, 29) := ⟨⟨by decide +kernel, by decide +kernel⟩, List.mem_of_getElem? (i := 668) (by decide +kernel), List.mem_of_getElem? (i := 913) (by decide +kernel), List.mem_of_getElem? (i := 914) (by decide +kernel)⟩
theorem lw_p41 : lw_okq (⟨"PalmTastesModel", "layPalm", "(I)V"⟩, 29) := ⟨⟨by decide +kernel, by decide +kernel⟩, List.mem_of_getElem? (i := 668) (by decide +kernel), List.mem_of_getElem? (i := 917) (by decide +kernel), List.mem_of_getElem? (i := 918) (by decide +kernel)⟩
theorem lw_p42 : lw_okq (⟨"PalmTastesModel", "of", "(II)I"⟩, 29) := ⟨⟨by decide +kernel, by decide +kernel⟩, List.mem_of_getElem? (i := 668) (by decide +kernel), List.mem_of_getElem? (i := 921) (by decide +kernel), List.mem_of_getElem? (i := 922) (by decide +kernel)⟩
theorem lw_p43 : lw_okq (⟨"PalmTastesModel", "tastes", "(III)I"⟩, 29) := ⟨⟨by decide +kernel, by decide +kernel⟩, List.mem_of_getElem? (i := 668) (by decide +kernel), List.mem_of_getElem? (i := 931) (by decide +kernel), List.mem_of_getElem? (i := 932) (by decide +kernel)⟩
theorem lw_p44 : lw_okq (⟨"PalmTastesModel", "feels", "(II)I"⟩, 29) := ⟨⟨by decide +kernel, by decide +kernel⟩, List.mem_of_getElem? (i := 668) (by decide +kernel), List.mem_of_getElem? (i := 935) (by decide +kernel), List.mem_of_getElem? (i := 936) (by decide +kernel)⟩
theorem lw_p45 : lw_okq (⟨"PalmTastesModel", "getsUsed", "(I)V"⟩, 29) := ⟨⟨by decide +kernel, by decide +kernel⟩, List.mem_of_getElem? (i := 668) (by decide +kernel), List.mem_of_getElem? (i := 939) (by decide +kernel), List.mem_of_getElem? (i := 940) (by decide +kernel)⟩
theorem lw_p46 : lw_okq (⟨"PalmTastesModel", "usedOf", "(I)I"⟩, 29) := ⟨⟨by decide +kernel, by decide +kernel⟩, List.mem_of_getElem? (i := 668) (by decide +kernel), List.mem_of_getElem? (i := 947) (by decide +kernel), List.mem_of_getElem? (i := 948) (by decide +kernel)⟩
theorem lw_p47 : lw_okq (⟨"PalmTastesModel", "reads", "(I)I"⟩, 29) := ⟨⟨by decide +kernel, by decide +kernel⟩, List.mem_of_getElem? (i := 668) (by decide +kernel), List.mem_of_getElem? (i := 971) (by decide +kernel), List.mem_of_getElem? (i := 972) (by decide +kernel)⟩
def lw_privs_3 : List (MethodName × Nat) := [(⟨"PalmTastesModel", "figures", "()I"⟩, 29), (⟨"PalmTastesModel", "mustEnd", "()V"⟩, 29), (⟨"PalmTastesModel", "readReader", "()V"⟩, 29), (⟨"PalmTastesModel", "isWall", "(I)Z"⟩, 29), (⟨"PalmTastesModel", "keep", "()V"⟩, 29), (⟨"PalmTastesModel", "strong", "(II)I"⟩, 29), (⟨"PalmTastesModel", "isThere", "()Z"⟩, 29), (⟨"PalmTastesModel", "isWalk", "(III)Z"⟩, 29), (⟨"PalmTastesModel", "isReader", "(I)Z"⟩, 29), (⟨"PalmTastesModel", "layPalm", "(I)V"⟩, 29), (⟨"PalmTastesModel", "of", "(II)I"⟩, 29), (⟨"PalmTastesModel", "tastes", "(III)I"⟩, 29), (⟨"PalmTastesModel", "feels", "(II)I"⟩, 29), (⟨"PalmTastesModel", "getsUsed", "(I)V"⟩, 29), (⟨"PalmTastesModel", "usedOf", "(I)I"⟩, 29), (⟨"PalmTastesModel", "reads", "(I)I"⟩, 29)]
theorem lw_r3 : ∀ q ∈ lw_privs_3, lw_okq q := List.forall_mem_cons.mpr ⟨lw_p32, List.forall_mem_cons.mpr ⟨lw_p33, List.forall_mem_cons.mpr ⟨lw_p34, List.forall_mem_cons.mpr ⟨lw_p35, List.forall_mem_cons.mpr ⟨lw_p36, List.forall_mem_cons.mpr ⟨lw_p37, List.forall_mem_cons.mpr ⟨lw_p38, List.forall_mem_cons.mpr ⟨lw_p39, List.forall_mem_cons.mpr ⟨lw_p40, List.forall_mem_cons.mpr ⟨lw_p41, List.forall_mem_cons.mpr ⟨lw_p42, List.forall_mem_cons.mpr ⟨lw_p43, List.forall_mem_cons.mpr ⟨lw_p44, List.forall_mem_cons.mpr ⟨lw_p45, List.forall_mem_cons.mpr ⟨lw_p46, List.forall_mem_cons.mpr ⟨lw_p47, fun _ h => absurd h List.not_mem_nil⟩⟩⟩⟩⟩⟩⟩⟩⟩⟩⟩⟩⟩⟩⟩⟩
theorem lw_p48 : lw_okq (⟨"PalmTastesModel", "barred", "(III)I"⟩, 29) := ⟨⟨by decide +kernel, by decide +kernel⟩, List.mem_of_getElem? (i := 668) (by decide +kernel), List.mem_of_getElem? (i := 979) (by decide +kernel), List.mem_of_getElem? (i := 980) (by decide +kernel)⟩
theorem lw_p49 : lw_okq (⟨"PalmTastesModel", "laySpice", "(IIIII)Z"⟩, 29) := ⟨⟨by decide +kernel, by decide +kernel⟩, List.mem_of_getElem? (i := 668) (by decide +kernel), List.mem_of_getElem? (i := 991) (by decide +kernel), List.mem_of_getElem? (i := 992) (by decide +kernel)⟩
theorem lw_p50 : lw_okq (⟨"PalmTastesModel", "goes", "(III)Z"⟩, 29) := ⟨⟨by decide +kernel, by decide +kernel⟩, List.mem_of_getElem? (i := 668) (by decide +kernel), List.mem_of_getElem? (i := 1007) (by decide +kernel), List.mem_of_getElem? (i := 1008) (by decide +kernel)⟩
theorem lw_p51 : lw_okq (⟨"PalmTastesModel", "sizeOf", "(I)I"⟩, 29) := ⟨⟨by decide +kernel, by decide +kernel⟩, List.mem_of_getElem? (i := 668) (by decide +kernel), List.mem_of_getElem? (i := 1044) (by decide +kernel), List.mem_of_getElem? (i := 1045) (by decide +kernel)⟩
theorem lw_p52 : lw_okq (⟨"PalmTastesModel", "waxSize", "(I)I"⟩, 29) := ⟨⟨by decide +kernel, by decide +kernel⟩, List.mem_of_getElem? (i := 668) (by decide +kernel), List.mem_of_getElem? (i := 1048) (by decide +kernel), List.mem_of_getElem? (i := 1049) (by decide +kernel)⟩
theorem lw_p53 : lw_okq (⟨"PalmTastesModel", "began", "(I)V"⟩, 29) := ⟨⟨by decide +kernel, by decide +kernel⟩, List.mem_of_getElem? (i := 668) (by decide +kernel), List.mem_of_getElem? (i := 1052) (by decide +kernel), List.mem_of_getElem? (i := 1053) (by decide +kernel)⟩
theorem lw_p54 : lw_okq (⟨"PalmTastesModel", "plainSize", "(I)I"⟩, 29) := ⟨⟨by decide +kernel, by decide +kernel⟩, List.mem_of_getElem? (i := 668) (by decide +kernel), List.mem_of_getElem? (i := 1056) (by decide +kernel), List.mem_of_getElem? (i := 1057) (by decide +kernel)⟩
theorem lw_p55 : lw_okq (⟨"PalmTastesModel", "markOf", "(I)I"⟩, 29) := ⟨⟨by decide +kernel, by decide +kernel⟩, List.mem_of_getElem? (i := 668) (by decide +kernel), List.mem_of_getElem? (i := 1060) (by decide +kernel), List.mem_of_getElem? (i := 1061) (by decide +kernel)⟩
def lw_privs_4 : List (MethodName × Nat) := [(⟨"PalmTastesModel", "barred", "(III)I"⟩, 29), (⟨"PalmTastesModel", "laySpice", "(IIIII)Z"⟩, 29), (⟨"PalmTastesModel", "goes", "(III)Z"⟩, 29), (⟨"PalmTastesModel", "sizeOf", "(I)I"⟩, 29), (⟨"PalmTastesModel", "waxSize", "(I)I"⟩, 29), (⟨"PalmTastesModel", "began", "(I)V"⟩, 29), (⟨"PalmTastesModel", "plainSize", "(I)I"⟩, 29), (⟨"PalmTastesModel", "markOf", "(I)I"⟩, 29)]
theorem lw_r4 : ∀ q ∈ lw_privs_4, lw_okq q := List.forall_mem_cons.mpr ⟨lw_p48, List.forall_mem_cons.mpr ⟨lw_p49, List.forall_mem_cons.mpr ⟨lw_p50, List.forall_mem_cons.mpr ⟨lw_p51, List.forall_mem_cons.mpr ⟨lw_p52, List.forall_mem_cons.mpr ⟨lw_p53, List.forall_mem_cons.mpr ⟨lw_p54, List.forall_mem_cons.mpr ⟨lw_p55, fun _ h => absurd h List.not_mem_nil⟩⟩⟩⟩⟩⟩⟩⟩
def lw_privs : List (MethodName × Nat) := lw_privs_1 ++ (lw_privs_2 ++ (lw_privs_3 ++ (lw_privs_4)))
def lw_tbl : List Cond := k2_sels lw_privs ++ tables_1
theorem lw_privs_ok : ∀ q ∈ lw_privs, lw_okq q := by
  show ∀ q ∈ lw_privs_1 ++ (lw_privs_2 ++ (lw_privs_3 ++ (lw_privs_4))), lw_okq q
  exact List.forall_mem_append.mpr ⟨lw_r1, List.forall_mem_append.mpr ⟨lw_r2, List.forall_mem_append.mpr ⟨lw_r3, lw_r4⟩⟩⟩
def RX0 : String := "PalmTastes$Acts"
def TX0 : u_T := fun k => match k with
  | 0 => ("PalmTastes$Acts", "kept", "I", false)
  | 1 => ("PalmTastes$Acts", "next", "I", false)
  | _ => ("PalmTastes$Acts", "before", "[LPalmTastes$Street;", true)
def tyX0 : Nat → FieldType := fun k => match k with
  | 0 => .int
  | 1 => .int
  | _ => .array (.object "PalmTastes$Street")
abbrev wsX00 : List Cond := u_ws RX0 TX0 3
theorem nmX0 : ∀ a, a < 3 → ∀ b, b < 3 → a ≠ b → (TX0 a).2.1 ≠ (TX0 b).2.1 := by decide +kernel
theorem tyX0_ok : ∀ k, k < 3 → parseFieldDescriptor (TX0 k).2.2.1 = some (tyX0 k) := by decide +kernel
abbrev cX0_init : ByteArray := prog_2_method_1_code
def yX0_init : MethodName := ⟨RX0, "<init>", "()V"⟩
abbrev cX0_keep : ByteArray := prog_2_method_2_code
def yX0_keep : MethodName := ⟨RX0, "keep", "(LPalmTastes$Street;)V"⟩
abbrev cX0_undoLatest : ByteArray := prog_2_method_3_code
def yX0_undoLatest : MethodName := ⟨RX0, "undoLatest", "(LPalmTastes$Street;)V"⟩
abbrev cX0_forgetAll : ByteArray := prog_2_method_4_code
def yX0_forgetAll : MethodName := ⟨RX0, "forgetAll", "()V"⟩
def RX1 : String := "PalmTastes$Asks"
def TX1 : u_T := fun k => match k with
  | 0 => ("PalmTastes$Asks", "traced", "I", false)
  | _ => ("PalmTastes$Asks", "bodies", "[I", true)
def tyX1 : Nat → FieldType := fun k => match k with
  | 0 => .int
  | _ => .array .int
abbrev wsX10 : List Cond := u_ws RX1 TX1 2
theorem nmX1 : ∀ a, a < 2 → ∀ b, b < 2 → a ≠ b → (TX1 a).2.1 ≠ (TX1 b).2.1 := by decide +kernel
theorem tyX1_ok : ∀ k, k < 2 → parseFieldDescriptor (TX1 k).2.2.1 = some (tyX1 k) := by decide +kernel
abbrev cX1_init : ByteArray := prog_3_method_1_code
def yX1_init : MethodName := ⟨RX1, "<init>", "()V"⟩
abbrev cX1_answer : ByteArray := prog_3_method_2_code
def yX1_answer : MethodName := ⟨RX1, "answer", "(LPalmTastes$Street;II)I"⟩
abbrev cX1_askAnew : ByteArray := prog_3_method_3_code
def yX1_askAnew : MethodName := ⟨RX1, "askAnew", "(LPalmTastes$Street;III)I"⟩
abbrev cX1_bodyFor : ByteArray := prog_3_method_4_code
def yX1_bodyFor : MethodName := ⟨RX1, "bodyFor", "(II)I"⟩
abbrev cX1_gives : ByteArray := prog_3_method_5_code
def yX1_gives : MethodName := ⟨RX1, "gives", "(LPalmTastes$Street;III)I"⟩
abbrev cX1_leave : ByteArray := prog_3_method_6_code
def yX1_leave : MethodName := ⟨RX1, "leave", "(I)V"⟩
def RX2 : String := "PalmTastes$Palm"
def TX2 : u_T := fun k => match k with
  | 0 => ("PalmTastes$Palm", "kind", "I", false)
  | 1 => ("PalmTastes$Palm", "aftertaste", "I", false)
  | _ => ("PalmTastes$Palm", "used", "[I", true)
def tyX2 : Nat → FieldType := fun k => match k with
  | 0 => .int
  | 1 => .int
  | _ => .array .int
abbrev wsX20 : List Cond := u_ws RX2 TX2 3
theorem nmX2 : ∀ a, a < 3 → ∀ b, b < 3 → a ≠ b → (TX2 a).2.1 ≠ (TX2 b).2.1 := by decide +kernel
theorem tyX2_ok : ∀ k, k < 3 → parseFieldDescriptor (TX2 k).2.2.1 = some (tyX2 k) := by decide +kernel
abbrev cX2_init : ByteArray := prog_4_method_1_code
def yX2_init : MethodName := ⟨RX2, "<init>", "()V"⟩
abbrev cX2_take : ByteArray := prog_4_method_2_code
def yX2_take : MethodName := ⟨RX2, "take", "(LPalmTastes$Street;I)V"⟩
abbrev cX2_leave : ByteArray := prog_4_method_3_code
def yX2_leave : MethodName := ⟨RX2, "leave", "(LPalmTastes$Street;I)V"⟩
abbrev cX2_forgetAll : ByteArray := prog_4_method_4_code
def yX2_forgetAll : MethodName := ⟨RX2, "forgetAll", "()V"⟩
abbrev cX2_feels : ByteArray := prog_4_method_5_code
def yX2_feels : MethodName := ⟨RX2, "feels", "(II)I"⟩
abbrev cX2_tasteOn : ByteArray := prog_4_method_6_code
def yX2_tasteOn : MethodName := ⟨RX2, "tasteOn", "(LPalmTastes$Street;I)I"⟩
abbrev cX2_readOn : ByteArray := prog_4_method_7_code
def yX2_readOn : MethodName := ⟨RX2, "readOn", "(LPalmTastes$Street;I)I"⟩
abbrev cX2_swapped : ByteArray := prog_4_method_8_code
def yX2_swapped : MethodName := ⟨RX2, "swapped", "(I)I"⟩
abbrev cX2_getsUsedTo : ByteArray := prog_4_method_9_code
def yX2_getsUsedTo : MethodName := ⟨RX2, "getsUsedTo", "(I)V"⟩
abbrev cX2_leastSpice : ByteArray := prog_4_method_10_code
def yX2_leastSpice : MethodName := ⟨RX2, "leastSpice", "(LPalmTastes$Street;II)I"⟩
def RX3 : String := "PalmTastes$Row"
def TX3 : u_T := fun k => match k with
  | 0 => ("PalmTastes$Row", "there", "Z", false)
  | 1 => ("PalmTastes$Row", "lane", "I", false)
  | 2 => ("PalmTastes$Row", "size", "I", false)
  | _ => ("PalmTastes$Row", "items", "[I", true)
def tyX3 : Nat → FieldType := fun k => match k with
  | 0 => .boolean
  | 1 => .int
  | 2 => .int
  | _ => .array .int
abbrev wsX30 : List Cond := u_ws RX3 TX3 4
theorem nmX3 : ∀ a, a < 4 → ∀ b, b < 4 → a ≠ b → (TX3 a).2.1 ≠ (TX3 b).2.1 := by decide +kernel
theorem tyX3_ok : ∀ k, k < 4 → parseFieldDescriptor (TX3 k).2.2.1 = some (tyX3 k) := by decide +kernel
abbrev cX3_init : ByteArray := prog_5_method_1_code
def yX3_init : MethodName := ⟨RX3, "<init>", "()V"⟩
abbrev cX3_begin : ByteArray := prog_5_method_2_code
def yX3_begin : MethodName := ⟨RX3, "begin", "(II)V"⟩
abbrev cX3_hasPlaces : ByteArray := prog_5_method_3_code
def yX3_hasPlaces : MethodName := ⟨RX3, "hasPlaces", "(II)Z"⟩
abbrev cX3_inLane : ByteArray := prog_5_method_4_code
def yX3_inLane : MethodName := ⟨RX3, "inLane", "(I)I"⟩
def RX4 : String := "PalmTastes$Street"
def TX4 : u_T := fun k => match k with
  | 0 => ("PalmTastes$Street", "walls", "I", false)
  | 1 => ("PalmTastes$Street", "readers", "I", false)
  | 2 => ("PalmTastes$Street", "days", "I", false)
  | 3 => ("PalmTastes$Street", "strong", "[I", true)
  | 4 => ("PalmTastes$Street", "kinds", "[I", true)
  | _ => ("PalmTastes$Street", "palms", "[I", true)
def tyX4 : Nat → FieldType := fun k => match k with
  | 0 => .int
  | 1 => .int
  | 2 => .int
  | 3 => .array .int
  | 4 => .array .int
  | _ => .array .int
abbrev wsX40 : List Cond := u_ws RX4 TX4 6
theorem nmX4 : ∀ a, a < 6 → ∀ b, b < 6 → a ≠ b → (TX4 a).2.1 ≠ (TX4 b).2.1 := by decide +kernel
theorem tyX4_ok : ∀ k, k < 6 → parseFieldDescriptor (TX4 k).2.2.1 = some (tyX4 k) := by decide +kernel
abbrev cX4_init : ByteArray := prog_6_method_1_code
def yX4_init : MethodName := ⟨RX4, "<init>", "()V"⟩
abbrev cX4_clear : ByteArray := prog_6_method_2_code
def yX4_clear : MethodName := ⟨RX4, "clear", "()V"⟩
abbrev cX4_become : ByteArray := prog_6_method_3_code
def yX4_become : MethodName := ⟨RX4, "become", "(LPalmTastes$Street;)V"⟩
abbrev cX4_hasWall : ByteArray := prog_6_method_4_code
def yX4_hasWall : MethodName := ⟨RX4, "hasWall", "(I)Z"⟩
abbrev cX4_hasReader : ByteArray := prog_6_method_5_code
def yX4_hasReader : MethodName := ⟨RX4, "hasReader", "(I)Z"⟩
abbrev cX4_hasFlavour : ByteArray := prog_6_method_6_code
def yX4_hasFlavour : MethodName := ⟨RX4, "hasFlavour", "(II)Z"⟩
abbrev cX4_strength : ByteArray := prog_6_method_7_code
def yX4_strength : MethodName := ⟨RX4, "strength", "(II)I"⟩
abbrev cX4_strengthInAll : ByteArray := prog_6_method_8_code
def yX4_strengthInAll : MethodName := ⟨RX4, "strengthInAll", "()I"⟩
abbrev cX4_usedInAll : ByteArray := prog_6_method_9_code
def yX4_usedInAll : MethodName := ⟨RX4, "usedInAll", "(I)I"⟩
abbrev cX4_fadeByDay : ByteArray := prog_6_method_10_code
def yX4_fadeByDay : MethodName := ⟨RX4, "fadeByDay", "(I)I"⟩
def RX5 : String := "PalmTastes$Tape"
def TX5 : u_T := fun k => match k with
  | 0 => ("PalmTastes$Tape", "length", "I", false)
  | 1 => ("PalmTastes$Tape", "draft", "LPalmTastes$Street;", true)
  | 2 => ("PalmTastes$Tape", "fault", "I", false)
  | 3 => ("PalmTastes$Tape", "faultPlace", "I", false)
  | 4 => ("PalmTastes$Tape", "bytes", "[I", true)
  | 5 => ("PalmTastes$Tape", "token", "I", false)
  | 6 => ("PalmTastes$Tape", "begins", "I", false)
  | 7 => ("PalmTastes$Tape", "ends", "I", false)
  | _ => ("PalmTastes$Tape", "value", "I", false)
def tyX5 : Nat → FieldType := fun k => match k with
  | 0 => .int
  | 1 => .object "PalmTastes$Street"
  | 2 => .int
  | 3 => .int
  | 4 => .array .int
  | 5 => .int
  | 6 => .int
  | 7 => .int
  | _ => .int
abbrev wsX50 : List Cond := u_ws RX5 TX5 9
theorem nmX5 : ∀ a, a < 9 → ∀ b, b < 9 → a ≠ b → (TX5 a).2.1 ≠ (TX5 b).2.1 := by decide +kernel
theorem tyX5_ok : ∀ k, k < 9 → parseFieldDescriptor (TX5 k).2.2.1 = some (tyX5 k) := by decide +kernel
abbrev cX5_init : ByteArray := prog_7_method_1_code
def yX5_init : MethodName := ⟨RX5, "<init>", "()V"⟩
abbrev cX5_add : ByteArray := prog_7_method_2_code
def yX5_add : MethodName := ⟨RX5, "add", "(I)V"⟩
abbrev cX5_isStreet : ByteArray := prog_7_method_3_code
def yX5_isStreet : MethodName := ⟨RX5, "isStreet", "()Z"⟩
abbrev cX5_tellWall : ByteArray := prog_7_method_4_code
def yX5_tellWall : MethodName := ⟨RX5, "tellWall", "()Z"⟩
abbrev cX5_tellReader : ByteArray := prog_7_method_5_code
def yX5_tellReader : MethodName := ⟨RX5, "tellReader", "()Z"⟩
abbrev cX5_tellNumbers : ByteArray := prog_7_method_6_code
def yX5_tellNumbers : MethodName := ⟨RX5, "tellNumbers", "([III)Z"⟩
abbrev cX5_tellSign : ByteArray := prog_7_method_7_code
def yX5_tellSign : MethodName := ⟨RX5, "tellSign", "()Z"⟩
abbrev cX5_kindOfSort : ByteArray := prog_7_method_8_code
def yX5_kindOfSort : MethodName := ⟨RX5, "kindOfSort", "()I"⟩
abbrev cX5_at : ByteArray := prog_7_method_9_code
def yX5_at : MethodName := ⟨RX5, "at", "(I)I"⟩
abbrev cX5_faulty : ByteArray := prog_7_method_10_code
def yX5_faulty : MethodName := ⟨RX5, "faulty", "(I)Z"⟩
abbrev cX5_isWord : ByteArray := prog_7_method_11_code
def yX5_isWord : MethodName := ⟨RX5, "isWord", "(Ljava/lang/String;)Z"⟩
abbrev cX5_toNextToken : ByteArray := prog_7_method_12_code
def yX5_toNextToken : MethodName := ⟨RX5, "toNextToken", "()V"⟩
abbrev cX5_toEndOfNumber : ByteArray := prog_7_method_13_code
def yX5_toEndOfNumber : MethodName := ⟨RX5, "toEndOfNumber", "()V"⟩
abbrev cX5_isBlank : ByteArray := prog_7_method_14_code
def yX5_isBlank : MethodName := ⟨RX5, "isBlank", "(I)Z"⟩
abbrev cX5_isLetter : ByteArray := prog_7_method_15_code
def yX5_isLetter : MethodName := ⟨RX5, "isLetter", "(I)Z"⟩
abbrev cX5_isFigure : ByteArray := prog_7_method_16_code
def yX5_isFigure : MethodName := ⟨RX5, "isFigure", "(I)Z"⟩
def RX6 : String := "PalmTastes"
def TX6 : u_T := fun k => match k with
  | 0 => ("PalmTastes", "rows", "[LPalmTastes$Row;", true)
  | 1 => ("PalmTastes", "tape", "LPalmTastes$Tape;", true)
  | 2 => ("PalmTastes", "street", "LPalmTastes$Street;", true)
  | 3 => ("PalmTastes", "acts", "LPalmTastes$Acts;", true)
  | 4 => ("PalmTastes", "images", "[LPalmTastes$Street;", true)
  | 5 => ("PalmTastes", "asks", "LPalmTastes$Asks;", true)
  | 6 => ("PalmTastes", "latestFault", "I", false)
  | 7 => ("PalmTastes", "latestFinding", "I", false)
  | 8 => ("PalmTastes", "palm", "LPalmTastes$Palm;", true)
  | 9 => ("PalmTastes", "told", "[I", true)
  | 10 => ("PalmTastes", "readFirst", "[I", true)
  | 11 => ("PalmTastes", "spiceThere", "[I", true)
  | _ => ("PalmTastes", "spiceBack", "[I", true)
def tyX6 : Nat → FieldType := fun k => match k with
  | 0 => .array (.object "PalmTastes$Row")
  | 1 => .object "PalmTastes$Tape"
  | 2 => .object "PalmTastes$Street"
  | 3 => .object "PalmTastes$Acts"
  | 4 => .array (.object "PalmTastes$Street")
  | 5 => .object "PalmTastes$Asks"
  | 6 => .int
  | 7 => .int
  | 8 => .object "PalmTastes$Palm"
  | 9 => .array .int
  | 10 => .array .int
  | 11 => .array .int
  | _ => .array .int
abbrev wsX60 : List Cond := u_ws RX6 TX6 13
theorem nmX6 : ∀ a, a < 13 → ∀ b, b < 13 → a ≠ b → (TX6 a).2.1 ≠ (TX6 b).2.1 := by decide +kernel
theorem tyX6_ok : ∀ k, k < 13 → parseFieldDescriptor (TX6 k).2.2.1 = some (tyX6 k) := by decide +kernel
abbrev cX6_init : ByteArray := prog_1_method_1_code
def yX6_init : MethodName := ⟨RX6, "<init>", "()V"⟩
abbrev cX6_row : ByteArray := prog_1_method_2_code
def yX6_row : MethodName := ⟨RX6, "row", "(III)I"⟩
abbrev cX6_set : ByteArray := prog_1_method_3_code
def yX6_set : MethodName := ⟨RX6, "set", "(III)I"⟩
abbrev cX6_copy : ByteArray := prog_1_method_4_code
def yX6_copy : MethodName := ⟨RX6, "copy", "(IIIII)I"⟩
abbrev cX6_drop : ByteArray := prog_1_method_5_code
def yX6_drop : MethodName := ⟨RX6, "drop", "(I)I"⟩
abbrev cX6_isRow : ByteArray := prog_1_method_6_code
def yX6_isRow : MethodName := ⟨RX6, "isRow", "(I)Z"⟩
abbrev cX6_finding : ByteArray := prog_1_method_7_code
def yX6_finding : MethodName := ⟨RX6, "finding", "(I)I"⟩
abbrev cX6_noFinding : ByteArray := prog_1_method_8_code
def yX6_noFinding : MethodName := ⟨RX6, "noFinding", "(I)I"⟩
abbrev cX6_feed : ByteArray := prog_1_method_9_code
def yX6_feed : MethodName := ⟨RX6, "feed", "(JI)I"⟩
abbrev cX6_street : ByteArray := prog_1_method_10_code
def yX6_street : MethodName := ⟨RX6, "street", "()I"⟩
abbrev cX6_fault : ByteArray := prog_1_method_11_code
def yX6_fault : MethodName := ⟨RX6, "fault", "()I"⟩
abbrev cX6_paint : ByteArray := prog_1_method_12_code
def yX6_paint : MethodName := ⟨RX6, "paint", "(III)I"⟩
abbrev cX6_day : ByteArray := prog_1_method_13_code
def yX6_day : MethodName := ⟨RX6, "day", "(I)I"⟩
abbrev cX6_walk : ByteArray := prog_1_method_14_code
def yX6_walk : MethodName := ⟨RX6, "walk", "(III)I"⟩
abbrev cX6_rest : ByteArray := prog_1_method_15_code
def yX6_rest : MethodName := ⟨RX6, "rest", "(I)I"⟩
abbrev cX6_undo : ByteArray := prog_1_method_16_code
def yX6_undo : MethodName := ⟨RX6, "undo", "()I"⟩
abbrev cX6_wall : ByteArray := prog_1_method_17_code
def yX6_wall : MethodName := ⟨RX6, "wall", "(II)I"⟩
abbrev cX6_reader : ByteArray := prog_1_method_18_code
def yX6_reader : MethodName := ⟨RX6, "reader", "(II)I"⟩
abbrev cX6_felt : ByteArray := prog_1_method_19_code
def yX6_felt : MethodName := ⟨RX6, "felt", "(III)I"⟩
abbrev cX6_isFlavour : ByteArray := prog_1_method_20_code
def yX6_isFlavour : MethodName := ⟨RX6, "isFlavour", "(I)Z"⟩
abbrev cX6_canWalk : ByteArray := prog_1_method_21_code
def yX6_canWalk : MethodName := ⟨RX6, "canWalk", "(III)Z"⟩
abbrev cX6_wallsOnWay : ByteArray := prog_1_method_22_code
def yX6_wallsOnWay : MethodName := ⟨RX6, "wallsOnWay", "(II)I"⟩
abbrev cX6_wallOnWay : ByteArray := prog_1_method_23_code
def yX6_wallOnWay : MethodName := ⟨RX6, "wallOnWay", "(III)I"⟩
abbrev cX6_read : ByteArray := prog_1_method_24_code
def yX6_read : MethodName := ⟨RX6, "read", "(IIII)I"⟩
abbrev cX6_wrong : ByteArray := prog_1_method_25_code
def yX6_wrong : MethodName := ⟨RX6, "wrong", "(IIII)I"⟩
abbrev cX6_often : ByteArray := prog_1_method_26_code
def yX6_often : MethodName := ⟨RX6, "often", "(III)I"⟩
abbrev cX6_spice : ByteArray := prog_1_method_27_code
def yX6_spice : MethodName := ⟨RX6, "spice", "(IIIII)I"⟩
abbrev cX6_both : ByteArray := prog_1_method_28_code
def yX6_both : MethodName := ⟨RX6, "both", "(IIII)I"⟩
abbrev cX6_order : ByteArray := prog_1_method_29_code
def yX6_order : MethodName := ⟨RX6, "order", "(III)I"⟩
abbrev cX6_written : ByteArray := prog_1_method_30_code
def yX6_written : MethodName := ⟨RX6, "written", "(IIII)I"⟩
abbrev cX6_forged : ByteArray := prog_1_method_31_code
def yX6_forged : MethodName := ⟨RX6, "forged", "(II)I"⟩
abbrev cX6_image : ByteArray := prog_1_method_32_code
def yX6_image : MethodName := ⟨RX6, "image", "(I)I"⟩
abbrev cX6_restore : ByteArray := prog_1_method_33_code
def yX6_restore : MethodName := ⟨RX6, "restore", "(I)I"⟩
abbrev cX6_hearMessage : ByteArray := prog_1_method_34_code
def yX6_hearMessage : MethodName := ⟨RX6, "hearMessage", "(IIII)I"⟩
abbrev cX6_readsOtherwise : ByteArray := prog_1_method_35_code
def yX6_readsOtherwise : MethodName := ⟨RX6, "readsOtherwise", "(II)Z"⟩
abbrev cX6_findSpice : ByteArray := prog_1_method_36_code
def yX6_findSpice : MethodName := ⟨RX6, "findSpice", "(III[I)Z"⟩
abbrev cX6_firstFelt : ByteArray := prog_1_method_37_code
def yX6_firstFelt : MethodName := ⟨RX6, "firstFelt", "(II)I"⟩
abbrev cX6_fadesByDay : ByteArray := prog_1_method_38_code
def yX6_fadesByDay : MethodName := ⟨RX6, "fadesByDay", "(I)I"⟩
abbrev cX6_kind : ByteArray := prog_1_method_39_code
def yX6_kind : MethodName := ⟨RX6, "kind", "(I)I"⟩
abbrev cX6_as : ByteArray := prog_1_method_40_code
def yX6_as : MethodName := ⟨RX6, "as", "(II)I"⟩
abbrev cX6_ask : ByteArray := prog_1_method_41_code
def yX6_ask : MethodName := ⟨RX6, "ask", "(II)I"⟩
abbrev cX6_trace : ByteArray := prog_1_method_42_code
def yX6_trace : MethodName := ⟨RX6, "trace", "(I)I"⟩
abbrev cX6_count : ByteArray := prog_1_method_43_code
def yX6_count : MethodName := ⟨RX6, "count", "(I)I"⟩
abbrev cX6_status : ByteArray := prog_1_method_44_code
def yX6_status : MethodName := ⟨RX6, "status", "()I"⟩
abbrev cX6_isOfKind : ByteArray := prog_1_method_45_code
def yX6_isOfKind : MethodName := ⟨RX6, "isOfKind", "(II)Z"⟩
abbrev cX6_rowsThere : ByteArray := prog_1_method_46_code
def yX6_rowsThere : MethodName := ⟨RX6, "rowsThere", "()I"⟩
def RX7 : String := "PalmTastesModel"
def TX7 : u_T := fun k => match k with
  | 0 => ("PalmTastesModel", "thrown", "I", false)
  | 1 => ("PalmTastesModel", "status", "I", false)
  | 2 => ("PalmTastesModel", "lane", "[I", true)
  | 3 => ("PalmTastesModel", "many", "[I", true)
  | 4 => ("PalmTastesModel", "item", "[I", true)
  | 5 => ("PalmTastesModel", "street", "[I", true)
  | 6 => ("PalmTastesModel", "fresh", "[I", true)
  | 7 => ("PalmTastesModel", "was", "[I", true)
  | 8 => ("PalmTastesModel", "acts", "I", false)
  | 9 => ("PalmTastesModel", "tape", "[I", true)
  | 10 => ("PalmTastesModel", "taped", "I", false)
  | 11 => ("PalmTastesModel", "latest", "I", false)
  | 12 => ("PalmTastesModel", "length", "I", false)
  | 13 => ("PalmTastesModel", "cursor", "I", false)
  | 14 => ("PalmTastesModel", "token", "I", false)
  | 15 => ("PalmTastesModel", "start", "I", false)
  | 16 => ("PalmTastesModel", "till", "I", false)
  | 17 => ("PalmTastesModel", "fault", "I", false)
  | 18 => ("PalmTastesModel", "faultAt", "I", false)
  | 19 => ("PalmTastesModel", "sort", "I", false)
  | 20 => ("PalmTastesModel", "used", "[I", true)
  | 21 => ("PalmTastesModel", "after", "I", false)
  | 22 => ("PalmTastesModel", "first", "[I", true)
  | 23 => ("PalmTastesModel", "spice", "[I", true)
  | 24 => ("PalmTastesModel", "there", "[I", true)
  | 25 => ("PalmTastesModel", "isKept", "[Z", true)
  | 26 => ("PalmTastesModel", "kept", "[I", true)
  | 27 => ("PalmTastesModel", "trace", "[I", true)
  | _ => ("PalmTastesModel", "traced", "I", false)
def tyX7 : Nat → FieldType := fun k => match k with
  | 0 => .int
  | 1 => .int
  | 2 => .array .int
  | 3 => .array .int
  | 4 => .array .int
  | 5 => .array .int
  | 6 => .array .int
  | 7 => .array .int
  | 8 => .int
  | 9 => .array .int
  | 10 => .int
  | 11 => .int
  | 12 => .int
  | 13 => .int
  | 14 => .int
  | 15 => .int
  | 16 => .int
  | 17 => .int
  | 18 => .int
  | 19 => .int
  | 20 => .array .int
  | 21 => .int
  | 22 => .array .int
  | 23 => .array .int
  | 24 => .array .int
  | 25 => .array .boolean
  | 26 => .array .int
  | 27 => .array .int
  | _ => .int
abbrev wsX70 : List Cond := u_ws RX7 TX7 29
theorem nmX7 : ∀ a, a < 29 → ∀ b, b < 29 → a ≠ b → (TX7 a).2.1 ≠ (TX7 b).2.1 := by decide +kernel
theorem tyX7_ok : ∀ k, k < 29 → parseFieldDescriptor (TX7 k).2.2.1 = some (tyX7 k) := by decide +kernel
abbrev cX7_init : ByteArray := prog_9_method_1_code
def yX7_init : MethodName := ⟨RX7, "<init>", "()V"⟩
abbrev cX7_in : ByteArray := prog_9_method_3_code
def yX7_in : MethodName := ⟨RX7, "in", "(JJJ)Z"⟩
abbrev cX7_finding : ByteArray := prog_9_method_4_code
def yX7_finding : MethodName := ⟨RX7, "finding", "(I)I"⟩
abbrev cX7_isRow : ByteArray := prog_9_method_5_code
def yX7_isRow : MethodName := ⟨RX7, "isRow", "(I)Z"⟩
abbrev cX7_row : ByteArray := prog_9_method_6_code
def yX7_row : MethodName := ⟨RX7, "row", "(III)I"⟩
abbrev cX7_set : ByteArray := prog_9_method_7_code
def yX7_set : MethodName := ⟨RX7, "set", "(III)I"⟩
abbrev cX7_copy : ByteArray := prog_9_method_8_code
def yX7_copy : MethodName := ⟨RX7, "copy", "(IIIII)I"⟩
abbrev cX7_drop : ByteArray := prog_9_method_9_code
def yX7_drop : MethodName := ⟨RX7, "drop", "(I)I"⟩
abbrev cX7_feed : ByteArray := prog_9_method_10_code
def yX7_feed : MethodName := ⟨RX7, "feed", "(JI)I"⟩
abbrev cX7_byteAt : ByteArray := prog_9_method_11_code
def yX7_byteAt : MethodName := ⟨RX7, "byteAt", "(I)I"⟩
abbrev cX7_isLetter : ByteArray := prog_9_method_12_code
def yX7_isLetter : MethodName := ⟨RX7, "isLetter", "(I)Z"⟩
abbrev cX7_isFigure : ByteArray := prog_9_method_13_code
def yX7_isFigure : MethodName := ⟨RX7, "isFigure", "(I)Z"⟩
abbrev cX7_next : ByteArray := prog_9_method_14_code
def yX7_next : MethodName := ⟨RX7, "next", "()V"⟩
abbrev cX7_begin : ByteArray := prog_9_method_15_code
def yX7_begin : MethodName := ⟨RX7, "begin", "()V"⟩
abbrev cX7_bad : ByteArray := prog_9_method_16_code
def yX7_bad : MethodName := ⟨RX7, "bad", "(I)V"⟩
abbrev cX7_must : ByteArray := prog_9_method_17_code
def yX7_must : MethodName := ⟨RX7, "must", "(Z)V"⟩
abbrev cX7_name : ByteArray := prog_9_method_18_code
def yX7_name : MethodName := ⟨RX7, "name", "()J"⟩
abbrev cX7_figures : ByteArray := prog_9_method_19_code
def yX7_figures : MethodName := ⟨RX7, "figures", "()I"⟩
abbrev cX7_number : ByteArray := prog_9_method_20_code
def yX7_number : MethodName := ⟨RX7, "number", "(II)I"⟩
abbrev cX7_kindBy : ByteArray := prog_9_method_21_code
def yX7_kindBy : MethodName := ⟨RX7, "kindBy", "(J)I"⟩
abbrev cX7_mustEnd : ByteArray := prog_9_method_22_code
def yX7_mustEnd : MethodName := ⟨RX7, "mustEnd", "()V"⟩
abbrev cX7_begins : ByteArray := prog_9_method_23_code
def yX7_begins : MethodName := ⟨RX7, "begins", "(II)V"⟩
abbrev cX7_readWall : ByteArray := prog_9_method_24_code
def yX7_readWall : MethodName := ⟨RX7, "readWall", "()V"⟩
abbrev cX7_readReader : ByteArray := prog_9_method_25_code
def yX7_readReader : MethodName := ⟨RX7, "readReader", "()V"⟩
abbrev cX7_street : ByteArray := prog_9_method_26_code
def yX7_street : MethodName := ⟨RX7, "street", "()I"⟩
abbrev cX7_fault : ByteArray := prog_9_method_27_code
def yX7_fault : MethodName := ⟨RX7, "fault", "()I"⟩
abbrev cX7_isThere : ByteArray := prog_9_method_28_code
def yX7_isThere : MethodName := ⟨RX7, "isThere", "()Z"⟩
abbrev cX7_isWall : ByteArray := prog_9_method_29_code
def yX7_isWall : MethodName := ⟨RX7, "isWall", "(I)Z"⟩
abbrev cX7_isReader : ByteArray := prog_9_method_30_code
def yX7_isReader : MethodName := ⟨RX7, "isReader", "(I)Z"⟩
abbrev cX7_isFlavour : ByteArray := prog_9_method_31_code
def yX7_isFlavour : MethodName := ⟨RX7, "isFlavour", "(I)Z"⟩
abbrev cX7_isWalk : ByteArray := prog_9_method_32_code
def yX7_isWalk : MethodName := ⟨RX7, "isWalk", "(III)Z"⟩
abbrev cX7_of : ByteArray := prog_9_method_33_code
def yX7_of : MethodName := ⟨RX7, "of", "(II)I"⟩
abbrev cX7_strong : ByteArray := prog_9_method_34_code
def yX7_strong : MethodName := ⟨RX7, "strong", "(II)I"⟩
abbrev cX7_layPalm : ByteArray := prog_9_method_35_code
def yX7_layPalm : MethodName := ⟨RX7, "layPalm", "(I)V"⟩
abbrev cX7_feels : ByteArray := prog_9_method_36_code
def yX7_feels : MethodName := ⟨RX7, "feels", "(II)I"⟩
abbrev cX7_tastes : ByteArray := prog_9_method_37_code
def yX7_tastes : MethodName := ⟨RX7, "tastes", "(III)I"⟩
abbrev cX7_reads : ByteArray := prog_9_method_38_code
def yX7_reads : MethodName := ⟨RX7, "reads", "(I)I"⟩
abbrev cX7_getsUsed : ByteArray := prog_9_method_39_code
def yX7_getsUsed : MethodName := ⟨RX7, "getsUsed", "(I)V"⟩
abbrev cX7_wallsOf : ByteArray := prog_9_method_40_code
def yX7_wallsOf : MethodName := ⟨RX7, "wallsOf", "(II)I"⟩
abbrev cX7_wallAt : ByteArray := prog_9_method_41_code
def yX7_wallAt : MethodName := ⟨RX7, "wallAt", "(III)I"⟩
abbrev cX7_keep : ByteArray := prog_9_method_42_code
def yX7_keep : MethodName := ⟨RX7, "keep", "()V"⟩
abbrev cX7_paint : ByteArray := prog_9_method_43_code
def yX7_paint : MethodName := ⟨RX7, "paint", "(III)I"⟩
abbrev cX7_day : ByteArray := prog_9_method_44_code
def yX7_day : MethodName := ⟨RX7, "day", "(I)I"⟩
abbrev cX7_walk : ByteArray := prog_9_method_45_code
def yX7_walk : MethodName := ⟨RX7, "walk", "(III)I"⟩
abbrev cX7_usedOf : ByteArray := prog_9_method_46_code
def yX7_usedOf : MethodName := ⟨RX7, "usedOf", "(I)I"⟩
abbrev cX7_rest : ByteArray := prog_9_method_47_code
def yX7_rest : MethodName := ⟨RX7, "rest", "(I)I"⟩
abbrev cX7_undo : ByteArray := prog_9_method_48_code
def yX7_undo : MethodName := ⟨RX7, "undo", "()I"⟩
abbrev cX7_wall : ByteArray := prog_9_method_49_code
def yX7_wall : MethodName := ⟨RX7, "wall", "(II)I"⟩
abbrev cX7_reader : ByteArray := prog_9_method_50_code
def yX7_reader : MethodName := ⟨RX7, "reader", "(II)I"⟩
abbrev cX7_felt : ByteArray := prog_9_method_51_code
def yX7_felt : MethodName := ⟨RX7, "felt", "(III)I"⟩
abbrev cX7_read : ByteArray := prog_9_method_52_code
def yX7_read : MethodName := ⟨RX7, "read", "(IIII)I"⟩
abbrev cX7_barred : ByteArray := prog_9_method_53_code
def yX7_barred : MethodName := ⟨RX7, "barred", "(III)I"⟩
abbrev cX7_wrong : ByteArray := prog_9_method_54_code
def yX7_wrong : MethodName := ⟨RX7, "wrong", "(IIII)I"⟩
abbrev cX7_often : ByteArray := prog_9_method_55_code
def yX7_often : MethodName := ⟨RX7, "often", "(III)I"⟩
abbrev cX7_laySpice : ByteArray := prog_9_method_56_code
def yX7_laySpice : MethodName := ⟨RX7, "laySpice", "(IIIII)Z"⟩
abbrev cX7_spice : ByteArray := prog_9_method_57_code
def yX7_spice : MethodName := ⟨RX7, "spice", "(IIIII)I"⟩
abbrev cX7_both : ByteArray := prog_9_method_58_code
def yX7_both : MethodName := ⟨RX7, "both", "(IIII)I"⟩
abbrev cX7_goes : ByteArray := prog_9_method_59_code
def yX7_goes : MethodName := ⟨RX7, "goes", "(III)Z"⟩
abbrev cX7_isOrder : ByteArray := prog_9_method_60_code
def yX7_isOrder : MethodName := ⟨RX7, "isOrder", "(I)Z"⟩
abbrev cX7_order : ByteArray := prog_9_method_61_code
def yX7_order : MethodName := ⟨RX7, "order", "(III)I"⟩
abbrev cX7_written : ByteArray := prog_9_method_62_code
def yX7_written : MethodName := ⟨RX7, "written", "(IIII)I"⟩
abbrev cX7_forged : ByteArray := prog_9_method_63_code
def yX7_forged : MethodName := ⟨RX7, "forged", "(II)I"⟩
abbrev cX7_image : ByteArray := prog_9_method_64_code
def yX7_image : MethodName := ⟨RX7, "image", "(I)I"⟩
abbrev cX7_restore : ByteArray := prog_9_method_65_code
def yX7_restore : MethodName := ⟨RX7, "restore", "(I)I"⟩
abbrev cX7_isOf : ByteArray := prog_9_method_66_code
def yX7_isOf : MethodName := ⟨RX7, "isOf", "(II)Z"⟩
abbrev cX7_kind : ByteArray := prog_9_method_67_code
def yX7_kind : MethodName := ⟨RX7, "kind", "(I)I"⟩
abbrev cX7_as : ByteArray := prog_9_method_68_code
def yX7_as : MethodName := ⟨RX7, "as", "(II)I"⟩
abbrev cX7_began : ByteArray := prog_9_method_69_code
def yX7_began : MethodName := ⟨RX7, "began", "(I)V"⟩
abbrev cX7_plainSize : ByteArray := prog_9_method_70_code
def yX7_plainSize : MethodName := ⟨RX7, "plainSize", "(I)I"⟩
abbrev cX7_waxSize : ByteArray := prog_9_method_71_code
def yX7_waxSize : MethodName := ⟨RX7, "waxSize", "(I)I"⟩
abbrev cX7_markOf : ByteArray := prog_9_method_72_code
def yX7_markOf : MethodName := ⟨RX7, "markOf", "(I)I"⟩
abbrev cX7_sizeOf : ByteArray := prog_9_method_73_code
def yX7_sizeOf : MethodName := ⟨RX7, "sizeOf", "(I)I"⟩
abbrev cX7_ask : ByteArray := prog_9_method_74_code
def yX7_ask : MethodName := ⟨RX7, "ask", "(II)I"⟩
abbrev cX7_trace : ByteArray := prog_9_method_75_code
def yX7_trace : MethodName := ⟨RX7, "trace", "(I)I"⟩
abbrev cX7_count : ByteArray := prog_9_method_76_code
def yX7_count : MethodName := ⟨RX7, "count", "(I)I"⟩
abbrev cX7_status : ByteArray := prog_9_method_77_code
def yX7_status : MethodName := ⟨RX7, "status", "()I"⟩
def RJ9 : String := "java/lang/Math"
abbrev cJ9_abs_0f7a4 : ByteArray := prog_10_method_59_code
def yJ9_abs_0f7a4 : MethodName := ⟨RJ9, "abs", "(I)I"⟩
abbrev cJ9_max_7cf53 : ByteArray := prog_10_method_65_code
def yJ9_max_7cf53 : MethodName := ⟨RJ9, "max", "(II)I"⟩
abbrev cJ9_min_7cf53 : ByteArray := prog_10_method_69_code
def yJ9_min_7cf53 : MethodName := ⟨RJ9, "min", "(II)I"⟩
def RJ0 : String := "java/lang/String"
abbrev cJ0_length_8abf5 : ByteArray := prog_11_method_54_code
def yJ0_length_8abf5 : MethodName := ⟨RJ0, "length", "()I"⟩
abbrev cJ0_charAt_5068e : ByteArray := prog_11_method_56_code
def yJ0_charAt_5068e : MethodName := ⟨RJ0, "charAt", "(I)C"⟩
abbrev cJ0_coder_7d493 : ByteArray := prog_11_method_152_code
def yJ0_coder_7d493 : MethodName := ⟨RJ0, "coder", "()B"⟩
abbrev cJ0_isLatin1_aae02 : ByteArray := prog_11_method_154_code
def yJ0_isLatin1_aae02 : MethodName := ⟨RJ0, "isLatin1", "()Z"⟩
abbrev cJ0_checkIndex_df160 : ByteArray := prog_11_method_155_code
def yJ0_checkIndex_df160 : MethodName := ⟨RJ0, "checkIndex", "(II)V"⟩
def RJ1 : String := "java/lang/StringLatin1"
abbrev cJ1_charAt_3b067 : ByteArray := prog_12_method_2_code
def yJ1_charAt_3b067 : MethodName := ⟨RJ1, "charAt", "([BI)C"⟩
def RJ7 : String := "java/util/Arrays"
abbrev cJ7_fill_53178 : ByteArray := prog_15_method_103_code
def yJ7_fill_53178 : MethodName := ⟨RJ7, "fill", "([II)V"⟩
def RJ3 : String := "jdk/internal/util/Preconditions"
abbrev cJ3_checkIndex_8e157 : ByteArray := prog_16_method_11_code
def yJ3_checkIndex_8e157 : MethodName := ⟨RJ3, "checkIndex", "(IILjava/util/function/BiFunction;)I"⟩
def RL : String := "PalmTastesLaw"
abbrev cL_law : ByteArray := code
def yL_law : MethodName := ⟨RL, "law", "([I)Z"⟩
abbrev vwCl : List vw_C := [(RX0, TX0, 3), (RX1, TX1, 2), (RX2, TX2, 3), (RX3, TX3, 4), (RX4, TX4, 6), (RX5, TX5, 9), (RX6, TX6, 13), (RX7, TX7, 29)]
end
section
/-! 02.mach: a small machine over one memory of ints (cell, place): values, states, worlds, contexts. Own work. -/
abbrev pt_V : Type := Int32 ⊕ (Int64 ⊕ (Nat × Nat))
abbrev pt_M : Type := Nat → Nat → Int32
abbrev pt_Q : Type := Option pt_V → pt_M → Prop
abbrev pt_L : Type := List (Option pt_V)
abbrev pt_S : Type := List pt_V
abbrev pt_K : Type := Nat → pt_L → pt_S → pt_M → Prop
abbrev pt_C : Type := Nat → List pt_V → pt_M → pt_Q → Prop
abbrev pt_O : Type := pt_C → pt_L → pt_S → pt_M → pt_K → pt_Q → Prop
abbrev zI (x : Int32) : pt_V := Sum.inl x
abbrev zL (x : Int64) : pt_V := Sum.inr (Sum.inl x)
abbrev zR (t o : Nat) : pt_V := Sum.inr (Sum.inr (t, o))
/-! the cells: 0 the class's object .. 142, 143 the model's object .. 157; a tag each: 0..7 an object of that class, 8 rows, 9 and 10 streets, 11 booleans, 1000 + n ints -/
def pt_tags : List Nat := [6, 8, 3, 1040, 3, 1040, 3, 1040, 3, 1040, 3, 1040, 3, 1040, 3, 1040, 3, 1040, 5, 1400, 4, 1040, 1005, 1030, 4, 1040, 1005, 1030, 0, 9] ++ ((List.replicate 24 [4, 1040, 1005, 1030]).flatten ++ ([10, 4, 1040, 1005, 1030, 4, 1040, 1005, 1030, 1, 1016, 2, 1005, 1008, 1008, 1008, 1008] ++ [7, 1008, 1008, 1320, 1078, 1078, 2872, 1400, 1005, 1008, 1008, 1008, 11, 1156, 1016]))
theorem pt_tags_len : pt_tags.length = 158 := by decide +kernel
def pt_N : Nat → Nat := fun t => [3, 2, 3, 4, 6, 9, 13, 29].getD t 0
/-- a field that holds a reference: the tag there, and how far behind the object it lies -/
def pt_fr : Nat → Nat → Option (Nat × Nat) := fun t k => match t with
  | 0 => match k with | 2 => some (9, 1) | _ => none
  | 1 => match k with | 1 => some (1016, 1) | _ => none
  | 2 => match k with | 2 => some (1005, 1) | _ => none
  | 3 => match k with | 3 => some (1040, 1) | _ => none
  | 4 => match k with | 3 => some (1040, 1) | 4 => some (1005, 2) | 5 => some (1030, 3) | _ => none
  | 5 => match k with | 1 => some (4, 2) | 4 => some (1400, 1) | _ => none
  | 6 => match k with | 0 => some (8, 1) | 1 => some (5, 18) | 2 => some (4, 24) | 3 => some (0, 28) | 4 => some (10, 126) | 5 => some (1, 135) | 8 => some (2, 137) | 9 => some (1008, 139) | 10 => some (1008, 140) | 11 => some (1008, 141) | 12 => some (1008, 142) | _ => none
  | 7 => match k with | 2 => some (1008, 1) | 3 => some (1008, 2) | 4 => some (1320, 3) | 5 => some (1078, 4) | 6 => some (1078, 5) | 7 => some (2872, 6) | 9 => some (1400, 7) | 20 => some (1005, 8) | 22 => some (1008, 9) | 23 => some (1008, 10) | 24 => some (1008, 11) | 25 => some (11, 12) | 26 => some (1156, 13) | 27 => some (1016, 14) | _ => none
  | _ => none
/-- class ids and field places; class ids of the array classes; addresses of the cells, of the texts, of their bytes, of the static tables; the script; the formatter; the lowest address that may change -/
abbrev pt_G : Type := va_G × (Nat → ClassId) × (Nat → Nat) × (Nat → Nat) × (Nat → Nat) × (Nat → Nat) × (Nat × Nat × (Nat → Int32)) × Value × Nat
abbrev gD (G : pt_G) : va_G := G.1
abbrev gC (G : pt_G) : Nat → ClassId := G.2.1
abbrev gA (G : pt_G) : Nat → Nat := G.2.2.1
abbrev gK (G : pt_G) : Nat → Nat := G.2.2.2.1
abbrev gV (G : pt_G) : Nat → Nat := G.2.2.2.2.1
abbrev gT (G : pt_G) : Nat → Nat := G.2.2.2.2.2.1
abbrev gX (G : pt_G) : Nat × Nat × (Nat → Int32) := G.2.2.2.2.2.2.1
abbrev gF (G : pt_G) : Value := G.2.2.2.2.2.2.2.1
abbrev gO (G : pt_G) : Nat := G.2.2.2.2.2.2.2.2
def pt_A (G : pt_G) : Nat → Prop := fun q => gO G ≤ q
def pt_rv (G : pt_G) (t o : Nat) : Value := if t = 12 then .ref (gK G o) else if t = 13 then .ref (gV G o) else if t = 20 then .ref (gT G o) else if t = 21 then .ref (gX G).1 else if t = 22 then gF G else .ref (gA G o)
def pt_cv (G : pt_G) : pt_V → Value
  | .inl x => .int x
  | .inr (.inl x) => .long x
  | .inr (.inr (t, o)) => pt_rv G t o
def pt_ok : pt_V → Prop
  | .inr (.inr (t, o)) => (t = 12 ∧ o < 7) ∨ (t = 13 ∧ o < 7) ∨ (t = 20 ∧ o < 3) ∨ t = 21 ∨ t = 22 ∨ pt_tags[o]? = some t
  | _ => True
theorem pt_tag_lt {t o : Nat} (h : pt_tags[o]? = some t) : o < 158 := by
  have := (List.getElem?_eq_some_iff.mp h).1
  rwa [pt_tags_len] at this
theorem pt_tag_all : ∀ t ∈ pt_tags, t < 12 ∨ (1000 ≤ t ∧ t < 4000) := by decide +kernel
theorem pt_tag_w {t o : Nat} (h : pt_tags[o]? = some t) : t < 12 ∨ (1000 ≤ t ∧ t < 4000) := pt_tag_all t (List.mem_of_getElem? h)
theorem pt_ok_w {t o : Nat} (h : pt_ok (zR t o)) (ht : t < 12 ∨ 1000 ≤ t) : pt_tags[o]? = some t := by
  rcases h with h | h | h | h | h | h <;> first | exact h | omega
theorem pt_rv_w {G : pt_G} {t o : Nat} (ht : t < 12 ∨ 1000 ≤ t) : pt_rv G t o = .ref (gA G o) := by
  unfold pt_rv
  rw [if_neg (by omega), if_neg (by omega), if_neg (by omega), if_neg (by omega), if_neg (by omega)]
theorem pt_cv_w {G : pt_G} {t o : Nat} (ht : t < 12 ∨ 1000 ≤ t) : pt_cv G (zR t o) = .ref (gA G o) := pt_rv_w ht
/-- what a field holds -/
def pt_fv (G : pt_G) (m : pt_M) (t o k : Nat) : Value := match pt_fr t k with
  | some (_, d) => .ref (gA G (o + d))
  | none => .int (m o k)
def pt_fs (G : pt_G) (m : pt_M) (t o : Nat) : List Value := (List.range (pt_N t)).map (pt_fv G m t o)
/-- a cell -/
def pt_E (G : pt_G) (m : pt_M) (t o : Nat) : va_E :=
  if t < 8 then .inr (t, pt_fs G m t o)
  else if t = 8 then .inl (gC G 2, 8, .inr (.inr (.inr (.inr fun j => some (gA G (o + 1 + 2 * j))))))
  else if t = 9 then .inl (gC G 3, 24, .inr (.inr (.inr (.inr fun j => some (gA G (o + 1 + 4 * j))))))
  else if t = 10 then .inl (gC G 3, 2, .inr (.inr (.inr (.inr fun j => some (gA G (o + 1 + 4 * j))))))
  else if t = 11 then .inl (gC G 1, 2, .inl (m o))
  else .inl (gC G 0, t - 1000, .inl (m o))
def pt_W (G : pt_G) (m : pt_M) : va_W := (List.range 158).map (fun o => (gA G o, pt_E G m (pt_tags.getD o 0) o))
theorem pt_W_at {G : pt_G} {m : pt_M} {t o : Nat} (h : pt_tags[o]? = some t) : (pt_W G m)[o]? = some (gA G o, pt_E G m t o) := by
  have ho := pt_tag_lt h
  unfold pt_W
  rw [List.getElem?_map, List.getElem?_range ho]
  show some (gA G o, pt_E G m (pt_tags.getD o 0) o) = _
  rw [List.getD_eq_getElem?_getD, h]
  rfl
theorem pt_E_m {G : pt_G} {m m' : pt_M} {t o : Nat} (h : m' o = m o) : pt_E G m' t o = pt_E G m t o := by
  have e : pt_fs G m' t o = pt_fs G m t o := by
    unfold pt_fs
    congr 1
    funext k
    unfold pt_fv
    rw [h]
  unfold pt_E
  rw [e, h]
theorem pt_W_set {G : pt_G} {m m' : pt_M} {t o : Nat} (h : pt_tags[o]? = some t) (hm : ∀ q, q ≠ o → m' q = m q) : pt_W G m' = (pt_W G m).set o (gA G o, pt_E G m' t o) := by
  have ho := pt_tag_lt h
  apply List.ext_getElem?
  intro q
  rw [List.getElem?_set]
  by_cases hq : o = q
  · subst hq
    rw [if_pos rfl, if_pos (by unfold pt_W; rw [List.length_map, List.length_range]; exact ho), pt_W_at h]
  · rw [if_neg hq]
    unfold pt_W
    rw [List.getElem?_map, List.getElem?_map]
    by_cases hq2 : q < 158
    · rw [List.getElem?_range hq2]
      show some (gA G q, pt_E G m' (pt_tags.getD q 0) q) = some (gA G q, pt_E G m (pt_tags.getD q 0) q)
      rw [pt_E_m (hm q (fun e => hq e.symm))]
    · rw [List.getElem?_eq_none (by rw [List.length_range]; omega)]
      rfl
/-- a store -/
def st (m : pt_M) (o k : Nat) (x : Int32) : pt_M := fun q => if q = o then (fun j => if j = k then x else m o j) else m q
theorem st_o {m : pt_M} {o k : Nat} {x : Int32} : st m o k x o = upd (m o) k x := by
  unfold st upd
  rw [if_pos rfl]
theorem st_ne {m : pt_M} {o k q : Nat} {x : Int32} (h : q ≠ o) : st m o k x q = m q := by
  unfold st
  rw [if_neg h]
/-- a copy -/
def cpm (m : pt_M) (o1 a o2 b n : Nat) : pt_M := fun q => if q = o2 then (fun j => if b ≤ j ∧ j < b + n then m o1 (a + (j - b)) else m o2 j) else m q
theorem cpm_o {m : pt_M} {o1 a o2 b n : Nat} : cpm m o1 a o2 b n o2 = va_cpy (m o1) (m o2) a b n := by
  unfold cpm va_cpy
  rw [if_pos rfl]
theorem cpm_ne {m : pt_M} {o1 a o2 b n q : Nat} (h : q ≠ o2) : cpm m o1 a o2 b n q = m q := by
  unfold cpm
  rw [if_neg h]
/-! fields of the objects -/
theorem pt_E_obj {G : pt_G} {m : pt_M} {t o : Nat} (h : t < 8) : pt_E G m t o = .inr (t, pt_fs G m t o) := by
  unfold pt_E
  rw [if_pos h]
theorem pt_fs_at {G : pt_G} {m : pt_M} {t o k : Nat} (hk : k < pt_N t) : (pt_fs G m t o)[k]? = some (pt_fv G m t o k) := by
  unfold pt_fs
  rw [List.getElem?_map, List.getElem?_range hk]
  rfl
theorem pt_fs_len {G : pt_G} {m : pt_M} {t o : Nat} : (pt_fs G m t o).length = pt_N t := by
  unfold pt_fs
  rw [List.length_map, List.length_range]
theorem pt_fs_set {G : pt_G} {m : pt_M} {t o k : Nat} {x : Int32} (hf : pt_fr t k = none) : (pt_fs G m t o).set k (.int x) = pt_fs G (st m o k x) t o := by
  apply List.ext_getElem?
  intro q
  rw [List.getElem?_set, pt_fs_len]
  by_cases hq : k = q
  · subst hq
    rw [if_pos rfl]
    by_cases hk : k < pt_N t
    · rw [if_pos hk, pt_fs_at hk]
      show some _ = some _
      unfold pt_fv
      rw [hf, st_o]
      show some _ = some (Value.int (upd (m o) k x k))
      rw [show upd (m o) k x k = x from if_pos rfl]
    · rw [if_neg hk, List.getElem?_eq_none (by rw [pt_fs_len]; omega)]
  · rw [if_neg hq]
    by_cases hk : q < pt_N t
    · rw [pt_fs_at hk, pt_fs_at hk]
      show some _ = some _
      unfold pt_fv
      rw [st_o, show upd (m o) k x q = m o q from if_neg (fun e => hq e.symm)]
    · rw [List.getElem?_eq_none (by rw [pt_fs_len]; omega), List.getElem?_eq_none (by rw [pt_fs_len]; omega)]
theorem pt_E_int {G : pt_G} {m : pt_M} {t o : Nat} (h : 1000 ≤ t) : pt_E G m t o = .inl (gC G 0, t - 1000, .inl (m o)) := by
  unfold pt_E
  rw [if_neg (by omega), if_neg (by omega), if_neg (by omega), if_neg (by omega), if_neg (by omega)]
/-! locals -/
def pt_get : pt_L → Nat → Option pt_V
  | [], _ => none
  | x :: _, 0 => x
  | _ :: l, i + 1 => pt_get l i
def pt_lset : pt_L → Nat → Option pt_V → pt_L
  | [], _, _ => []
  | _ :: l, 0, v => v :: l
  | x :: l, i + 1, v => x :: pt_lset l i v
def pt_clr (L : pt_L) : Nat → pt_L
  | 0 => L
  | i + 1 => match pt_get L i with
    | some (.inr (.inl _)) => pt_lset L i none
    | _ => L
def pt_put (L : pt_L) (i : Nat) (v : pt_V) : pt_L := pt_lset (pt_clr L i) i (some v)
def pt_putL (L : pt_L) (i : Nat) (v : pt_V) : pt_L := pt_lset (pt_lset (pt_clr L i) i (some v)) (i + 1) none
theorem pt_lset_len : ∀ (L : pt_L) (i : Nat) (v : Option pt_V), (pt_lset L i v).length = L.length
  | [], _, _ => rfl
  | _ :: _, 0, _ => rfl
  | _ :: l, i + 1, v => by
    show (pt_lset l i v).length + 1 = l.length + 1
    rw [pt_lset_len l i v]
theorem pt_get_lset : ∀ (L : pt_L) (i : Nat) (v : Option pt_V) (j : Nat), pt_get (pt_lset L i v) j = if j = i ∧ j < L.length then v else pt_get L j
  | [], i, v, j => by
    rw [if_neg (by intro h; exact absurd h.2 (Nat.not_lt_zero _))]
    rfl
  | x :: l, 0, v, 0 => by
    rw [if_pos ⟨rfl, Nat.succ_pos _⟩]
    rfl
  | x :: l, 0, v, j + 1 => by
    rw [if_neg (by omega)]
    rfl
  | x :: l, i + 1, v, 0 => by
    rw [if_neg (by omega)]
    rfl
  | x :: l, i + 1, v, j + 1 => by
    show pt_get (pt_lset l i v) j = _
    rw [pt_get_lset l i v j]
    show _ = if j + 1 = i + 1 ∧ j + 1 < l.length + 1 then v else pt_get l j
    by_cases h : j = i ∧ j < l.length
    · rw [if_pos h, if_pos (by omega)]
    · rw [if_neg h, if_neg (by omega)]
theorem pt_clr_s (L : pt_L) (i : Nat) : pt_clr L (i + 1) = match pt_get L i with
    | some (.inr (.inl _)) => pt_lset L i none
    | _ => L := rfl
theorem pt_clr_len (L : pt_L) (i : Nat) : (pt_clr L i).length = L.length := by
  cases i with
  | zero => rfl
  | succ i =>
    rw [pt_clr_s]
    split
    · exact pt_lset_len _ _ _
    · rfl
theorem pt_clr_get {L : pt_L} {i j : Nat} {w : pt_V} (h : pt_get (pt_clr L i) j = some w) : pt_get L j = some w ∧ ¬ (j + 1 = i ∧ ∃ x, w = zL x) := by
  cases i with
  | zero => exact ⟨h, by omega⟩
  | succ i =>
    rw [pt_clr_s] at h
    split at h
    next x hx =>
      rw [pt_get_lset] at h
      by_cases hj : j = i ∧ j < L.length
      · rw [if_pos hj] at h
        cases h
      · rw [if_neg hj] at h
        refine ⟨h, fun q => ?_⟩
        have hji : j = i := by omega
        subst hji
        by_cases hl : j < L.length
        · exact hj ⟨rfl, hl⟩
        · have : ∀ (L : pt_L) (j : Nat), L.length ≤ j → pt_get L j = none := by
            intro L
            induction L with
            | nil => intro j _; rfl
            | cons a l ih =>
              intro j hj
              cases j with
              | zero => exact absurd hj (by simp)
              | succ j => exact ih j (by simpa using hj)
          rw [this L j (by omega)] at h
          cases h
    next hx =>
      refine ⟨h, fun q => ?_⟩
      have hji : j = i := by omega
      subst hji
      obtain ⟨x, rfl⟩ := q.2
      exact hx x h
theorem pt_put_len (L : pt_L) (i : Nat) (v : pt_V) : (pt_put L i v).length = L.length := by
  unfold pt_put
  rw [pt_lset_len, pt_clr_len]
theorem pt_putL_len (L : pt_L) (i : Nat) (v : pt_V) : (pt_putL L i v).length = L.length := by
  unfold pt_putL
  rw [pt_lset_len, pt_lset_len, pt_clr_len]
theorem pt_put_get {L : pt_L} {i j : Nat} {v w : pt_V} (h : pt_get (pt_put L i v) j = some w) : (j = i ∧ w = v) ∨ (j ≠ i ∧ pt_get L j = some w ∧ ¬ (j + 1 = i ∧ ∃ x, w = zL x)) := by
  unfold pt_put at h
  rw [pt_get_lset] at h
  by_cases hj : j = i ∧ j < (pt_clr L i).length
  · rw [if_pos hj] at h
    cases h
    exact Or.inl ⟨hj.1, rfl⟩
  · rw [if_neg hj] at h
    by_cases hji : j = i
    · subst hji
      have hlen : ¬ j < L.length := fun q => hj ⟨rfl, by rw [pt_clr_len]; exact q⟩
      have key : ∀ (L : pt_L) (j : Nat), ¬ j < L.length → pt_get L j = none := by
        intro L
        induction L with
        | nil => intro j _; rfl
        | cons a l ih =>
          intro j hj
          cases j with
          | zero => exact absurd (by simp) hj
          | succ j => exact ih j (fun q => hj (by simpa using q))
      rw [key _ j (by rw [pt_clr_len]; exact hlen)] at h
      cases h
    · have := pt_clr_get h
      exact Or.inr ⟨hji, this.1, this.2⟩
theorem pt_putL_get {L : pt_L} {i j : Nat} {v w : pt_V} (h : pt_get (pt_putL L i v) j = some w) : (j = i ∧ w = v) ∨ (j ≠ i ∧ j ≠ i + 1 ∧ pt_get L j = some w ∧ ¬ (j + 1 = i ∧ ∃ x, w = zL x)) := by
  unfold pt_putL at h
  rw [pt_get_lset] at h
  by_cases hj : j = i + 1 ∧ j < (pt_lset (pt_clr L i) i (some v)).length
  · rw [if_pos hj] at h
    cases h
  · rw [if_neg hj] at h
    rcases pt_put_get (L := L) (i := i) (v := v) h with q | q
    · exact Or.inl q
    · refine Or.inr ⟨q.1, fun e => ?_, q.2⟩
      have hlen : ¬ j < L.length := fun z => hj ⟨e, by rw [pt_lset_len, pt_clr_len]; exact z⟩
      have key : ∀ (L : pt_L) (j : Nat), ¬ j < L.length → pt_get L j = none := by
        intro L
        induction L with
        | nil => intro j _; rfl
        | cons a l ih =>
          intro j hj
          cases j with
          | zero => exact absurd (by simp) hj
          | succ j => exact ih j (fun q => hj (by simpa using q))
      rw [key L j hlen] at q
      cases q.2.1
/-- the locals as the kit lists them -/
def pt_lv (G : pt_G) (L : pt_L) : List (Nat × Value) := (List.range L.length).filterMap (fun i => (pt_get L i).map (fun v => (i, pt_cv G v)))
theorem pt_get_lt : ∀ {L : pt_L} {i : Nat} {v : pt_V}, pt_get L i = some v → i < L.length
  | [], _, _, h => by cases h
  | _ :: _, 0, _, _ => Nat.succ_pos _
  | _ :: l, i + 1, v, h => Nat.succ_lt_succ (pt_get_lt (L := l) h)
theorem pt_lv_mem {G : pt_G} {L : pt_L} {i : Nat} {v : pt_V} (h : pt_get L i = some v) : (i, pt_cv G v) ∈ pt_lv G L :=
  List.mem_filterMap.mpr ⟨i, List.mem_range.mpr (pt_get_lt h), by rw [h]; rfl⟩
theorem pt_lv_of {G : pt_G} {L : pt_L} {q : Nat × Value} (h : q ∈ pt_lv G L) : ∃ v, pt_get L q.1 = some v ∧ q.2 = pt_cv G v := by
  obtain ⟨i, -, e⟩ := List.mem_filterMap.mp h
  cases hg : pt_get L i with
  | none => rw [hg] at e; cases e
  | some v =>
    rw [hg] at e
    cases e
    exact ⟨v, hg, rfl⟩
theorem pt_lv_at {G : pt_G} {ls : Array Slot} {nL : Nat} {L : pt_L} {i : Nat} {v : pt_V} (hl : lv_has ls nL (pt_lv G L)) (h : pt_get L i = some v) : ls[i]? = some (.val (pt_cv G v)) := hl.2.2 _ (pt_lv_mem h)
/-- that reference's category is 1 -/
def pt_J (G : pt_G) : Prop := (∀ i j, i < 158 → j < 158 → gA G i = gA G j → i = j) ∧ (∀ i, i < 158 → gO G ≤ gA G i) ∧ (gF G).category = 1
theorem pt_cat2 {G : pt_G} (J : pt_J G) {v : pt_V} (h : (pt_cv G v).category = 2) : ∃ x, v = zL x := by
  rcases v with x | x | ⟨t, o⟩
  · cases h
  · exact ⟨x, rfl⟩
  · exfalso
    have h : (pt_rv G t o).category = 2 := h
    unfold pt_rv at h
    repeat (first | (split at h) | (rw [J.2.2] at h) | (cases h))
theorem pt_cat1 {G : pt_G} (J : pt_J G) {v : pt_V} (h : ¬ ∃ x, v = zL x) : (pt_cv G v).category = 1 := by
  rcases lv_cat (pt_cv G v) with q | q
  · exact q
  · exact absurd (pt_cat2 J q) h
theorem pt_lv_put {G : pt_G} (J : pt_J G) {ls : Array Slot} {nL i : Nat} {L : pt_L} {v : pt_V}
    (h : lv_has ls nL ((i, pt_cv G v) :: (pt_lv G L).filter (fun q => !(q.1 == i) && !(q.1 + 1 == i && q.2.category == 2)))) : lv_has ls nL (pt_lv G (pt_put L i v)) := by
  refine ⟨h.1, h.2.1, fun q hq => ?_⟩
  obtain ⟨w, hw, e⟩ := pt_lv_of hq
  obtain ⟨j, z⟩ := q
  dsimp only at hw e
  subst e
  rcases pt_put_get hw with ⟨rfl, rfl⟩ | ⟨h1, h2, h3⟩
  · exact h.2.2 _ List.mem_cons_self
  · refine h.2.2 _ (List.mem_cons_of_mem _ (List.mem_filter.mpr ⟨pt_lv_mem h2, ?_⟩))
    have g1 : (j == i) = false := by simpa using h1
    dsimp only
    rw [g1]
    by_cases h4 : j + 1 = i
    · have g2 : ¬ (pt_cv G w).category = 2 := fun c => h3 ⟨h4, pt_cat2 J c⟩
      have g3 : ((pt_cv G w).category == 2) = false := by simpa using g2
      rw [g3]
      simp
    · have g3 : (j + 1 == i) = false := by simpa using h4
      rw [g3]
      rfl
theorem pt_lv_putL {G : pt_G} (J : pt_J G) {ls : Array Slot} {nL i : Nat} {L : pt_L} {v : pt_V}
    (h : lv_has ls nL ((i, pt_cv G v) :: (pt_lv G L).filter (fun q => !(q.1 == i) && (!(q.1 == i + 1) && !(q.1 + 1 == i && q.2.category == 2))))) : lv_has ls nL (pt_lv G (pt_putL L i v)) := by
  refine ⟨h.1, h.2.1, fun q hq => ?_⟩
  obtain ⟨w, hw, e⟩ := pt_lv_of hq
  obtain ⟨j, z⟩ := q
  dsimp only at hw e
  subst e
  rcases pt_putL_get hw with ⟨rfl, rfl⟩ | ⟨h1, h2, h3, h4⟩
  · exact h.2.2 _ List.mem_cons_self
  · refine h.2.2 _ (List.mem_cons_of_mem _ (List.mem_filter.mpr ⟨pt_lv_mem h3, ?_⟩))
    have g1 : (j == i) = false := by simpa using h1
    have g4 : (j == i + 1) = false := by simpa using h2
    dsimp only
    rw [g1, g4]
    by_cases h5 : j + 1 = i
    · have g2 : ¬ (pt_cv G w).category = 2 := fun c => h4 ⟨h5, pt_cat2 J c⟩
      have g3 : ((pt_cv G w).category == 2) = false := by simpa using g2
      rw [g3]
      simp
    · have g3 : (j + 1 == i) = false := by simpa using h5
      rw [g3]
      rfl
end
