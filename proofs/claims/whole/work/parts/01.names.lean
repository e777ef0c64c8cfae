-- ===== PART A: goes FIRST, ahead of the names: the tables' words, and 'selects' of the private methods out of them =====
/-- a private method of a class that the tables say can be made, by its rows of tables_1 -/
def lw_okq (q : MethodName × Nat) : Prop := (q.1.cls ≠ "java/lang/invoke/MethodHandle" ∧ q.1.cls ≠ "java/lang/invoke/VarHandle") ∧ Cond.instantiable q.1.cls q.2 ∈ tables_1 ∧ Cond.privateMethod q.1 ∈ tables_1 ∧ Cond.instanceMethod q.1 ∈ tables_1
theorem lw_p0 : lw_okq (⟨"NoTwoTogether$Parser", "begin", "()V"⟩, 6) := ⟨⟨by decide +kernel, by decide +kernel⟩, List.mem_of_getElem? (i := 62) (by decide +kernel), List.mem_of_getElem? (i := 474) (by decide +kernel), List.mem_of_getElem? (i := 475) (by decide +kernel)⟩
theorem lw_p1 : lw_okq (⟨"NoTwoTogether$Tape", "tokenEnd", "(I)I"⟩, 6) := ⟨⟨by decide +kernel, by decide +kernel⟩, List.mem_of_getElem? (i := 32) (by decide +kernel), List.mem_of_getElem? (i := 485) (by decide +kernel), List.mem_of_getElem? (i := 486) (by decide +kernel)⟩
theorem lw_p2 : lw_okq (⟨"NoTwoTogether$Tape", "kindOf", "(II)I"⟩, 6) := ⟨⟨by decide +kernel, by decide +kernel⟩, List.mem_of_getElem? (i := 32) (by decide +kernel), List.mem_of_getElem? (i := 495) (by decide +kernel), List.mem_of_getElem? (i := 496) (by decide +kernel)⟩
theorem lw_p3 : lw_okq (⟨"NoTwoTogether$Tape", "wordKind", "(II)I"⟩, 6) := ⟨⟨by decide +kernel, by decide +kernel⟩, List.mem_of_getElem? (i := 32) (by decide +kernel), List.mem_of_getElem? (i := 499) (by decide +kernel), List.mem_of_getElem? (i := 500) (by decide +kernel)⟩
theorem lw_p4 : lw_okq (⟨"NoTwoTogether$Tape", "valueOf", "(II)I"⟩, 6) := ⟨⟨by decide +kernel, by decide +kernel⟩, List.mem_of_getElem? (i := 32) (by decide +kernel), List.mem_of_getElem? (i := 555) (by decide +kernel), List.mem_of_getElem? (i := 556) (by decide +kernel)⟩
theorem lw_p5 : lw_okq (⟨"NoTwoTogether$Parser", "readBreak", "(I)Z"⟩, 6) := ⟨⟨by decide +kernel, by decide +kernel⟩, List.mem_of_getElem? (i := 62) (by decide +kernel), List.mem_of_getElem? (i := 564) (by decide +kernel), List.mem_of_getElem? (i := 565) (by decide +kernel)⟩
theorem lw_p6 : lw_okq (⟨"NoTwoTogether$Parser", "stop", "(I)Z"⟩, 6) := ⟨⟨by decide +kernel, by decide +kernel⟩, List.mem_of_getElem? (i := 62) (by decide +kernel), List.mem_of_getElem? (i := 568) (by decide +kernel), List.mem_of_getElem? (i := 569) (by decide +kernel)⟩
theorem lw_p7 : lw_okq (⟨"NoTwoTogether$Parser", "readShape", "()Z"⟩, 6) := ⟨⟨by decide +kernel, by decide +kernel⟩, List.mem_of_getElem? (i := 62) (by decide +kernel), List.mem_of_getElem? (i := 576) (by decide +kernel), List.mem_of_getElem? (i := 577) (by decide +kernel)⟩
theorem lw_p8 : lw_okq (⟨"NoTwoTogether$Parser", "pass", "(I)Z"⟩, 6) := ⟨⟨by decide +kernel, by decide +kernel⟩, List.mem_of_getElem? (i := 62) (by decide +kernel), List.mem_of_getElem? (i := 587) (by decide +kernel), List.mem_of_getElem? (i := 588) (by decide +kernel)⟩
theorem lw_p9 : lw_okq (⟨"NoTwoTogether$Parser", "readSide", "()Z"⟩, 6) := ⟨⟨by decide +kernel, by decide +kernel⟩, List.mem_of_getElem? (i := 62) (by decide +kernel), List.mem_of_getElem? (i := 591) (by decide +kernel), List.mem_of_getElem? (i := 592) (by decide +kernel)⟩
theorem lw_p10 : lw_okq (⟨"NoTwoTogether$Parser", "passNumber", "(I)Z"⟩, 6) := ⟨⟨by decide +kernel, by decide +kernel⟩, List.mem_of_getElem? (i := 62) (by decide +kernel), List.mem_of_getElem? (i := 599) (by decide +kernel), List.mem_of_getElem? (i := 600) (by decide +kernel)⟩
theorem lw_p11 : lw_okq (⟨"NoTwoTogether$Parser", "readAny", "()Z"⟩, 6) := ⟨⟨by decide +kernel, by decide +kernel⟩, List.mem_of_getElem? (i := 62) (by decide +kernel), List.mem_of_getElem? (i := 613) (by decide +kernel), List.mem_of_getElem? (i := 614) (by decide +kernel)⟩
theorem lw_p12 : lw_okq (⟨"NoTwoTogether$Parser", "readLine", "(I)Z"⟩, 6) := ⟨⟨by decide +kernel, by decide +kernel⟩, List.mem_of_getElem? (i := 62) (by decide +kernel), List.mem_of_getElem? (i := 625) (by decide +kernel), List.mem_of_getElem? (i := 626) (by decide +kernel)⟩
theorem lw_p13 : lw_okq (⟨"NoTwoTogether$Parser", "readSum", "()Z"⟩, 6) := ⟨⟨by decide +kernel, by decide +kernel⟩, List.mem_of_getElem? (i := 62) (by decide +kernel), List.mem_of_getElem? (i := 629) (by decide +kernel), List.mem_of_getElem? (i := 630) (by decide +kernel)⟩
theorem lw_p14 : lw_okq (⟨"NoTwoTogether$Parser", "readProduct", "()Z"⟩, 6) := ⟨⟨by decide +kernel, by decide +kernel⟩, List.mem_of_getElem? (i := 62) (by decide +kernel), List.mem_of_getElem? (i := 633) (by decide +kernel), List.mem_of_getElem? (i := 634) (by decide +kernel)⟩
theorem lw_p15 : lw_okq (⟨"NoTwoTogether$Parser", "readUnit", "()Z"⟩, 6) := ⟨⟨by decide +kernel, by decide +kernel⟩, List.mem_of_getElem? (i := 62) (by decide +kernel), List.mem_of_getElem? (i := 637) (by decide +kernel), List.mem_of_getElem? (i := 638) (by decide +kernel)⟩
def lw_privs_1 : List (MethodName × Nat) := [(⟨"NoTwoTogether$Parser", "begin", "()V"⟩, 6), (⟨"NoTwoTogether$Tape", "tokenEnd", "(I)I"⟩, 6), (⟨"NoTwoTogether$Tape", "kindOf", "(II)I"⟩, 6), (⟨"NoTwoTogether$Tape", "wordKind", "(II)I"⟩, 6), (⟨"NoTwoTogether$Tape", "valueOf", "(II)I"⟩, 6), (⟨"NoTwoTogether$Parser", "readBreak", "(I)Z"⟩, 6), (⟨"NoTwoTogether$Parser", "stop", "(I)Z"⟩, 6), (⟨"NoTwoTogether$Parser", "readShape", "()Z"⟩, 6), (⟨"NoTwoTogether$Parser", "pass", "(I)Z"⟩, 6), (⟨"NoTwoTogether$Parser", "readSide", "()Z"⟩, 6), (⟨"NoTwoTogether$Parser", "passNumber", "(I)Z"⟩, 6), (⟨"NoTwoTogether$Parser", "readAny", "()Z"⟩, 6), (⟨"NoTwoTogether$Parser", "readLine", "(I)Z"⟩, 6), (⟨"NoTwoTogether$Parser", "readSum", "()Z"⟩, 6), (⟨"NoTwoTogether$Parser", "readProduct", "()Z"⟩, 6), (⟨"NoTwoTogether$Parser", "readUnit", "()Z"⟩, 6)]
theorem lw_r1 : ∀ q ∈ lw_privs_1, lw_okq q := List.forall_mem_cons.mpr ⟨lw_p0, List.forall_mem_cons.mpr ⟨lw_p1, List.forall_mem_cons.mpr ⟨lw_p2, List.forall_mem_cons.mpr ⟨lw_p3, List.forall_mem_cons.mpr ⟨lw_p4, List.forall_mem_cons.mpr ⟨lw_p5, List.forall_mem_cons.mpr ⟨lw_p6, List.forall_mem_cons.mpr ⟨lw_p7, List.forall_mem_cons.mpr ⟨lw_p8, List.forall_mem_cons.mpr ⟨lw_p9, List.forall_mem_cons.mpr ⟨lw_p10, List.forall_mem_cons.mpr ⟨lw_p11, List.forall_mem_cons.mpr ⟨lw_p12, List.forall_mem_cons.mpr ⟨lw_p13, List.forall_mem_cons.mpr ⟨lw_p14, List.forall_mem_cons.mpr ⟨lw_p15, fun _ h => absurd h List.not_mem_nil⟩⟩⟩⟩⟩⟩⟩⟩⟩⟩⟩⟩⟩⟩⟩⟩
theorem lw_p16 : lw_okq (⟨"NoTwoTogether$Parser", "isName", "(I)Z"⟩, 6) := ⟨⟨by decide +kernel, by decide +kernel⟩, List.mem_of_getElem? (i := 62) (by decide +kernel), List.mem_of_getElem? (i := 645) (by decide +kernel), List.mem_of_getElem? (i := 646) (by decide +kernel)⟩
theorem lw_p17 : lw_okq (⟨"NoTwoTogether$Parser", "isDivisor", "()Z"⟩, 6) := ⟨⟨by decide +kernel, by decide +kernel⟩, List.mem_of_getElem? (i := 62) (by decide +kernel), List.mem_of_getElem? (i := 649) (by decide +kernel), List.mem_of_getElem? (i := 650) (by decide +kernel)⟩
theorem lw_p18 : lw_okq (⟨"NoTwoTogether$Parser", "readOr", "(I)Z"⟩, 6) := ⟨⟨by decide +kernel, by decide +kernel⟩, List.mem_of_getElem? (i := 62) (by decide +kernel), List.mem_of_getElem? (i := 657) (by decide +kernel), List.mem_of_getElem? (i := 658) (by decide +kernel)⟩
theorem lw_p19 : lw_okq (⟨"NoTwoTogether$Parser", "readAnd", "(I)Z"⟩, 6) := ⟨⟨by decide +kernel, by decide +kernel⟩, List.mem_of_getElem? (i := 62) (by decide +kernel), List.mem_of_getElem? (i := 661) (by decide +kernel), List.mem_of_getElem? (i := 662) (by decide +kernel)⟩
theorem lw_p20 : lw_okq (⟨"NoTwoTogether$Parser", "readClause", "(I)Z"⟩, 6) := ⟨⟨by decide +kernel, by decide +kernel⟩, List.mem_of_getElem? (i := 62) (by decide +kernel), List.mem_of_getElem? (i := 665) (by decide +kernel), List.mem_of_getElem? (i := 666) (by decide +kernel)⟩
theorem lw_p21 : lw_okq (⟨"NoTwoTogether", "keepRead", "(I)V"⟩, 15) := ⟨⟨by decide +kernel, by decide +kernel⟩, List.mem_of_getElem? (i := 24) (by decide +kernel), List.mem_of_getElem? (i := 673) (by decide +kernel), List.mem_of_getElem? (i := 674) (by decide +kernel)⟩
theorem lw_p22 : lw_okq (⟨"NoTwoTogether$Asker", "name", "(LNoTwoTogether$Row;III)V"⟩, 2) := ⟨⟨by decide +kernel, by decide +kernel⟩, List.mem_of_getElem? (i := 271) (by decide +kernel), List.mem_of_getElem? (i := 712) (by decide +kernel), List.mem_of_getElem? (i := 713) (by decide +kernel)⟩
theorem lw_p23 : lw_okq (⟨"NoTwoTogether$Asker", "firstOf", "(LNoTwoTogether$Lines;)I"⟩, 2) := ⟨⟨by decide +kernel, by decide +kernel⟩, List.mem_of_getElem? (i := 271) (by decide +kernel), List.mem_of_getElem? (i := 720) (by decide +kernel), List.mem_of_getElem? (i := 721) (by decide +kernel)⟩
theorem lw_p24 : lw_okq (⟨"NoTwoTogether$Asker", "valueOf", "(LNoTwoTogether$Lines;II)I"⟩, 2) := ⟨⟨by decide +kernel, by decide +kernel⟩, List.mem_of_getElem? (i := 271) (by decide +kernel), List.mem_of_getElem? (i := 724) (by decide +kernel), List.mem_of_getElem? (i := 725) (by decide +kernel)⟩
theorem lw_p25 : lw_okq (⟨"NoTwoTogether$Bridge", "wear", "(LNoTwoTogether$Row;I)V"⟩, 3) := ⟨⟨by decide +kernel, by decide +kernel⟩, List.mem_of_getElem? (i := 345) (by decide +kernel), List.mem_of_getElem? (i := 778) (by decide +kernel), List.mem_of_getElem? (i := 779) (by decide +kernel)⟩
theorem lw_p26 : lw_okq (⟨"NoTwoTogether$Bridge", "come", "(LNoTwoTogether$Row;LNoTwoTogether$Lines;)V"⟩, 3) := ⟨⟨by decide +kernel, by decide +kernel⟩, List.mem_of_getElem? (i := 345) (by decide +kernel), List.mem_of_getElem? (i := 789) (by decide +kernel), List.mem_of_getElem? (i := 790) (by decide +kernel)⟩
theorem lw_p27 : lw_okq (⟨"NoTwoTogether$Bridge", "mostUrgent", "(I)I"⟩, 3) := ⟨⟨by decide +kernel, by decide +kernel⟩, List.mem_of_getElem? (i := 345) (by decide +kernel), List.mem_of_getElem? (i := 795) (by decide +kernel), List.mem_of_getElem? (i := 796) (by decide +kernel)⟩
theorem lw_p28 : lw_okq (⟨"NoTwoTogether$Odds", "out", "(ILNoTwoTogether$Breaks;)J"⟩, 6) := ⟨⟨by decide +kernel, by decide +kernel⟩, List.mem_of_getElem? (i := 284) (by decide +kernel), List.mem_of_getElem? (i := 814) (by decide +kernel), List.mem_of_getElem? (i := 815) (by decide +kernel)⟩
theorem lw_p29 : lw_okq (⟨"NoTwoTogether$Odds", "pass", "(ILNoTwoTogether$Breaks;)J"⟩, 6) := ⟨⟨by decide +kernel, by decide +kernel⟩, List.mem_of_getElem? (i := 284) (by decide +kernel), List.mem_of_getElem? (i := 819) (by decide +kernel), List.mem_of_getElem? (i := 820) (by decide +kernel)⟩
theorem lw_p30 : lw_okq (⟨"NoTwoTogether", "goAhead", "(I)V"⟩, 15) := ⟨⟨by decide +kernel, by decide +kernel⟩, List.mem_of_getElem? (i := 24) (by decide +kernel), List.mem_of_getElem? (i := 841) (by decide +kernel), List.mem_of_getElem? (i := 842) (by decide +kernel)⟩
theorem lw_p31 : lw_okq (⟨"NoTwoTogether$Future", "split", "(I)V"⟩, 9) := ⟨⟨by decide +kernel, by decide +kernel⟩, List.mem_of_getElem? (i := 310) (by decide +kernel), List.mem_of_getElem? (i := 858) (by decide +kernel), List.mem_of_getElem? (i := 859) (by decide +kernel)⟩
def lw_privs_2 : List (MethodName × Nat) := [(⟨"NoTwoTogether$Parser", "isName", "(I)Z"⟩, 6), (⟨"NoTwoTogether$Parser", "isDivisor", "()Z"⟩, 6), (⟨"NoTwoTogether$Parser", "readOr", "(I)Z"⟩, 6), (⟨"NoTwoTogether$Parser", "readAnd", "(I)Z"⟩, 6), (⟨"NoTwoTogether$Parser", "readClause", "(I)Z"⟩, 6), (⟨"NoTwoTogether", "keepRead", "(I)V"⟩, 15), (⟨"NoTwoTogether$Asker", "name", "(LNoTwoTogether$Row;III)V"⟩, 2), (⟨"NoTwoTogether$Asker", "firstOf", "(LNoTwoTogether$Lines;)I"⟩, 2), (⟨"NoTwoTogether$Asker", "valueOf", "(LNoTwoTogether$Lines;II)I"⟩, 2), (⟨"NoTwoTogether$Bridge", "wear", "(LNoTwoTogether$Row;I)V"⟩, 3), (⟨"NoTwoTogether$Bridge", "come", "(LNoTwoTogether$Row;LNoTwoTogether$Lines;)V"⟩, 3), (⟨"NoTwoTogether$Bridge", "mostUrgent", "(I)I"⟩, 3), (⟨"NoTwoTogether$Odds", "out", "(ILNoTwoTogether$Breaks;)J"⟩, 6), (⟨"NoTwoTogether$Odds", "pass", "(ILNoTwoTogether$Breaks;)J"⟩, 6), (⟨"NoTwoTogether", "goAhead", "(I)V"⟩, 15), (⟨"NoTwoTogether$Future", "split", "(I)V"⟩, 9)]
theorem lw_r2 : ∀ q ∈ lw_privs_2, lw_okq q := List.forall_mem_cons.mpr ⟨lw_p16, List.forall_mem_cons.mpr ⟨lw_p17, List.forall_mem_cons.mpr ⟨lw_p18, List.forall_mem_cons.mpr ⟨lw_p19, List.forall_mem_cons.mpr ⟨lw_p20, List.forall_mem_cons.mpr ⟨lw_p21, List.forall_mem_cons.mpr ⟨lw_p22, List.forall_mem_cons.mpr ⟨lw_p23, List.forall_mem_cons.mpr ⟨lw_p24, List.forall_mem_cons.mpr ⟨lw_p25, List.forall_mem_cons.mpr ⟨lw_p26, List.forall_mem_cons.mpr ⟨lw_p27, List.forall_mem_cons.mpr ⟨lw_p28, List.forall_mem_cons.mpr ⟨lw_p29, List.forall_mem_cons.mpr ⟨lw_p30, List.forall_mem_cons.mpr ⟨lw_p31, fun _ h => absurd h List.not_mem_nil⟩⟩⟩⟩⟩⟩⟩⟩⟩⟩⟩⟩⟩⟩⟩⟩
theorem lw_p32 : lw_okq (⟨"NoTwoTogether$Future", "splitBy", "(III)I"⟩, 9) := ⟨⟨by decide +kernel, by decide +kernel⟩, List.mem_of_getElem? (i := 310) (by decide +kernel), List.mem_of_getElem? (i := 864) (by decide +kernel), List.mem_of_getElem? (i := 865) (by decide +kernel)⟩
theorem lw_p33 : lw_okq (⟨"NoTwoTogether", "lasts", "()I"⟩, 15) := ⟨⟨by decide +kernel, by decide +kernel⟩, List.mem_of_getElem? (i := 24) (by decide +kernel), List.mem_of_getElem? (i := 877) (by decide +kernel), List.mem_of_getElem? (i := 878) (by decide +kernel)⟩
theorem lw_p34 : lw_okq (⟨"NoTwoTogether$Odds", "clearRows", "(I)V"⟩, 6) := ⟨⟨by decide +kernel, by decide +kernel⟩, List.mem_of_getElem? (i := 284) (by decide +kernel), List.mem_of_getElem? (i := 895) (by decide +kernel), List.mem_of_getElem? (i := 896) (by decide +kernel)⟩
theorem lw_p35 : lw_okq (⟨"NoTwoTogether$Odds", "addRows", "(IILNoTwoTogether$Breaks;)V"⟩, 6) := ⟨⟨by decide +kernel, by decide +kernel⟩, List.mem_of_getElem? (i := 284) (by decide +kernel), List.mem_of_getElem? (i := 899) (by decide +kernel), List.mem_of_getElem? (i := 900) (by decide +kernel)⟩
theorem lw_p36 : lw_okq (⟨"NoTwoTogether", "think", "(III)V"⟩, 15) := ⟨⟨by decide +kernel, by decide +kernel⟩, List.mem_of_getElem? (i := 24) (by decide +kernel), List.mem_of_getElem? (i := 963) (by decide +kernel), List.mem_of_getElem? (i := 964) (by decide +kernel)⟩
theorem lw_p37 : lw_okq (⟨"NoTwoTogether", "cheapestEvery", "(I)I"⟩, 15) := ⟨⟨by decide +kernel, by decide +kernel⟩, List.mem_of_getElem? (i := 24) (by decide +kernel), List.mem_of_getElem? (i := 972) (by decide +kernel), List.mem_of_getElem? (i := 973) (by decide +kernel)⟩
theorem lw_p38 : lw_okq (⟨"NoTwoTogether", "cheaperRule", "(I)I"⟩, 15) := ⟨⟨by decide +kernel, by decide +kernel⟩, List.mem_of_getElem? (i := 24) (by decide +kernel), List.mem_of_getElem? (i := 976) (by decide +kernel), List.mem_of_getElem? (i := 977) (by decide +kernel)⟩
theorem lw_p39 : lw_okq (⟨"NoTwoTogetherModel", "isIn", "(III)Z"⟩, 79) := ⟨⟨by decide +kernel, by decide +kernel⟩, List.mem_of_getElem? (i := 1005) (by decide +kernel), List.mem_of_getElem? (i := 1257) (by decide +kernel), List.mem_of_getElem? (i := 1258) (by decide +kernel)⟩
theorem lw_p40 : lw_okq (⟨"NoTwoTogetherModel", "isPlace", "(I)Z"⟩, 79) := ⟨⟨by decide +kernel, by decide +kernel⟩, List.mem_of_getElem? (i := 1005) (by decide +kernel), List.mem_of_getElem? (i := 1265) (by decide +kernel), List.mem_of_getElem? (i := 1266) (by decide +kernel)⟩
theorem lw_p41 : lw_okq (⟨"NoTwoTogetherModel", "leastOf", "(I)I"⟩, 79) := ⟨⟨by decide +kernel, by decide +kernel⟩, List.mem_of_getElem? (i := 1005) (by decide +kernel), List.mem_of_getElem? (i := 1277) (by decide +kernel), List.mem_of_getElem? (i := 1278) (by decide +kernel)⟩
theorem lw_p42 : lw_okq (⟨"NoTwoTogetherModel", "mostOf", "(I)I"⟩, 79) := ⟨⟨by decide +kernel, by decide +kernel⟩, List.mem_of_getElem? (i := 1005) (by decide +kernel), List.mem_of_getElem? (i := 1281) (by decide +kernel), List.mem_of_getElem? (i := 1282) (by decide +kernel)⟩
theorem lw_p43 : lw_okq (⟨"NoTwoTogetherModel", "puts", "(I)V"⟩, 79) := ⟨⟨by decide +kernel, by decide +kernel⟩, List.mem_of_getElem? (i := 1005) (by decide +kernel), List.mem_of_getElem? (i := 1289) (by decide +kernel), List.mem_of_getElem? (i := 1290) (by decide +kernel)⟩
theorem lw_p44 : lw_okq (⟨"NoTwoTogetherModel", "reads", "()V"⟩, 79) := ⟨⟨by decide +kernel, by decide +kernel⟩, List.mem_of_getElem? (i := 1005) (by decide +kernel), List.mem_of_getElem? (i := 1301) (by decide +kernel), List.mem_of_getElem? (i := 1302) (by decide +kernel)⟩
theorem lw_p45 : lw_okq (⟨"NoTwoTogetherModel", "raw", "(I)I"⟩, 79) := ⟨⟨by decide +kernel, by decide +kernel⟩, List.mem_of_getElem? (i := 1005) (by decide +kernel), List.mem_of_getElem? (i := 1305) (by decide +kernel), List.mem_of_getElem? (i := 1306) (by decide +kernel)⟩
theorem lw_p46 : lw_okq (⟨"NoTwoTogetherModel", "isLetter", "(I)Z"⟩, 79) := ⟨⟨by decide +kernel, by decide +kernel⟩, List.mem_of_getElem? (i := 1005) (by decide +kernel), List.mem_of_getElem? (i := 1309) (by decide +kernel), List.mem_of_getElem? (i := 1310) (by decide +kernel)⟩
theorem lw_p47 : lw_okq (⟨"NoTwoTogetherModel", "wordAt", "(II)I"⟩, 79) := ⟨⟨by decide +kernel, by decide +kernel⟩, List.mem_of_getElem? (i := 1005) (by decide +kernel), List.mem_of_getElem? (i := 1313) (by decide +kernel), List.mem_of_getElem? (i := 1314) (by decide +kernel)⟩
def lw_privs_3 : List (MethodName × Nat) := [(⟨"NoTwoTogether$Future", "splitBy", "(III)I"⟩, 9), (⟨"NoTwoTogether", "lasts", "()I"⟩, 15), (⟨"NoTwoTogether$Odds", "clearRows", "(I)V"⟩, 6), (⟨"NoTwoTogether$Odds", "addRows", "(IILNoTwoTogether$Breaks;)V"⟩, 6), (⟨"NoTwoTogether", "think", "(III)V"⟩, 15), (⟨"NoTwoTogether", "cheapestEvery", "(I)I"⟩, 15), (⟨"NoTwoTogether", "cheaperRule", "(I)I"⟩, 15), (⟨"NoTwoTogetherModel", "isIn", "(III)Z"⟩, 79), (⟨"NoTwoTogetherModel", "isPlace", "(I)Z"⟩, 79), (⟨"NoTwoTogetherModel", "leastOf", "(I)I"⟩, 79), (⟨"NoTwoTogetherModel", "mostOf", "(I)I"⟩, 79), (⟨"NoTwoTogetherModel", "puts", "(I)V"⟩, 79), (⟨"NoTwoTogetherModel", "reads", "()V"⟩, 79), (⟨"NoTwoTogetherModel", "raw", "(I)I"⟩, 79), (⟨"NoTwoTogetherModel", "isLetter", "(I)Z"⟩, 79), (⟨"NoTwoTogetherModel", "wordAt", "(II)I"⟩, 79)]
theorem lw_r3 : ∀ q ∈ lw_privs_3, lw_okq q := List.forall_mem_cons.mpr ⟨lw_p32, List.forall_mem_cons.mpr ⟨lw_p33, List.forall_mem_cons.mpr ⟨lw_p34, List.forall_mem_cons.mpr ⟨lw_p35, List.forall_mem_cons.mpr ⟨lw_p36, List.forall_mem_cons.mpr ⟨lw_p37, List.forall_mem_cons.mpr ⟨lw_p38, List.forall_mem_cons.mpr ⟨lw_p39, List.forall_mem_cons.mpr ⟨lw_p40, List.forall_mem_cons.mpr ⟨lw_p41, List.forall_mem_cons.mpr ⟨lw_p42, List.forall_mem_cons.mpr ⟨lw_p43, List.forall_mem_cons.mpr ⟨lw_p44, List.forall_mem_cons.mpr ⟨lw_p45, List.forall_mem_cons.mpr ⟨lw_p46, List.forall_mem_cons.mpr ⟨lw_p47, fun _ h => absurd h List.not_mem_nil⟩⟩⟩⟩⟩⟩⟩⟩⟩⟩⟩⟩⟩⟩⟩⟩
theorem lw_p48 : lw_okq (⟨"NoTwoTogetherModel", "isDigit", "(I)Z"⟩, 79) := ⟨⟨by decide +kernel, by decide +kernel⟩, List.mem_of_getElem? (i := 1005) (by decide +kernel), List.mem_of_getElem? (i := 1317) (by decide +kernel), List.mem_of_getElem? (i := 1318) (by decide +kernel)⟩
theorem lw_p49 : lw_okq (⟨"NoTwoTogetherModel", "isMarkSign", "(I)Z"⟩, 79) := ⟨⟨by decide +kernel, by decide +kernel⟩, List.mem_of_getElem? (i := 1005) (by decide +kernel), List.mem_of_getElem? (i := 1321) (by decide +kernel), List.mem_of_getElem? (i := 1322) (by decide +kernel)⟩
theorem lw_p50 : lw_okq (⟨"NoTwoTogetherModel", "readFails", "()I"⟩, 79) := ⟨⟨by decide +kernel, by decide +kernel⟩, List.mem_of_getElem? (i := 1005) (by decide +kernel), List.mem_of_getElem? (i := 1325) (by decide +kernel), List.mem_of_getElem? (i := 1326) (by decide +kernel)⟩
theorem lw_p51 : lw_okq (⟨"NoTwoTogetherModel", "errs", "(I)I"⟩, 79) := ⟨⟨by decide +kernel, by decide +kernel⟩, List.mem_of_getElem? (i := 1005) (by decide +kernel), List.mem_of_getElem? (i := 1329) (by decide +kernel), List.mem_of_getElem? (i := 1330) (by decide +kernel)⟩
theorem lw_p52 : lw_okq (⟨"NoTwoTogetherModel", "readFail", "(I)I"⟩, 79) := ⟨⟨by decide +kernel, by decide +kernel⟩, List.mem_of_getElem? (i := 1005) (by decide +kernel), List.mem_of_getElem? (i := 1333) (by decide +kernel), List.mem_of_getElem? (i := 1334) (by decide +kernel)⟩
theorem lw_p53 : lw_okq (⟨"NoTwoTogetherModel", "readShape", "(I)I"⟩, 79) := ⟨⟨by decide +kernel, by decide +kernel⟩, List.mem_of_getElem? (i := 1005) (by decide +kernel), List.mem_of_getElem? (i := 1337) (by decide +kernel), List.mem_of_getElem? (i := 1338) (by decide +kernel)⟩
theorem lw_p54 : lw_okq (⟨"NoTwoTogetherModel", "readNumber", "(I)I"⟩, 79) := ⟨⟨by decide +kernel, by decide +kernel⟩, List.mem_of_getElem? (i := 1005) (by decide +kernel), List.mem_of_getElem? (i := 1341) (by decide +kernel), List.mem_of_getElem? (i := 1342) (by decide +kernel)⟩
theorem lw_p55 : lw_okq (⟨"NoTwoTogetherModel", "isWord", "(I)Z"⟩, 79) := ⟨⟨by decide +kernel, by decide +kernel⟩, List.mem_of_getElem? (i := 1005) (by decide +kernel), List.mem_of_getElem? (i := 1345) (by decide +kernel), List.mem_of_getElem? (i := 1346) (by decide +kernel)⟩
theorem lw_p56 : lw_okq (⟨"NoTwoTogetherModel", "isSign", "(I)Z"⟩, 79) := ⟨⟨by decide +kernel, by decide +kernel⟩, List.mem_of_getElem? (i := 1005) (by decide +kernel), List.mem_of_getElem? (i := 1349) (by decide +kernel), List.mem_of_getElem? (i := 1350) (by decide +kernel)⟩
theorem lw_p57 : lw_okq (⟨"NoTwoTogetherModel", "readLaw", "()I"⟩, 79) := ⟨⟨by decide +kernel, by decide +kernel⟩, List.mem_of_getElem? (i := 1005) (by decide +kernel), List.mem_of_getElem? (i := 1353) (by decide +kernel), List.mem_of_getElem? (i := 1354) (by decide +kernel)⟩
theorem lw_p58 : lw_okq (⟨"NoTwoTogetherModel", "readLine", "(I)I"⟩, 79) := ⟨⟨by decide +kernel, by decide +kernel⟩, List.mem_of_getElem? (i := 1005) (by decide +kernel), List.mem_of_getElem? (i := 1357) (by decide +kernel), List.mem_of_getElem? (i := 1358) (by decide +kernel)⟩
theorem lw_p59 : lw_okq (⟨"NoTwoTogetherModel", "readSum", "()I"⟩, 79) := ⟨⟨by decide +kernel, by decide +kernel⟩, List.mem_of_getElem? (i := 1005) (by decide +kernel), List.mem_of_getElem? (i := 1361) (by decide +kernel), List.mem_of_getElem? (i := 1362) (by decide +kernel)⟩
theorem lw_p60 : lw_okq (⟨"NoTwoTogetherModel", "readProduct", "()I"⟩, 79) := ⟨⟨by decide +kernel, by decide +kernel⟩, List.mem_of_getElem? (i := 1005) (by decide +kernel), List.mem_of_getElem? (i := 1365) (by decide +kernel), List.mem_of_getElem? (i := 1366) (by decide +kernel)⟩
theorem lw_p61 : lw_okq (⟨"NoTwoTogetherModel", "readUnit", "()I"⟩, 79) := ⟨⟨by decide +kernel, by decide +kernel⟩, List.mem_of_getElem? (i := 1005) (by decide +kernel), List.mem_of_getElem? (i := 1369) (by decide +kernel), List.mem_of_getElem? (i := 1370) (by decide +kernel)⟩
theorem lw_p62 : lw_okq (⟨"NoTwoTogetherModel", "isAskedWord", "()Z"⟩, 79) := ⟨⟨by decide +kernel, by decide +kernel⟩, List.mem_of_getElem? (i := 1005) (by decide +kernel), List.mem_of_getElem? (i := 1373) (by decide +kernel), List.mem_of_getElem? (i := 1374) (by decide +kernel)⟩
theorem lw_p63 : lw_okq (⟨"NoTwoTogetherModel", "emits", "(II)V"⟩, 79) := ⟨⟨by decide +kernel, by decide +kernel⟩, List.mem_of_getElem? (i := 1005) (by decide +kernel), List.mem_of_getElem? (i := 1377) (by decide +kernel), List.mem_of_getElem? (i := 1378) (by decide +kernel)⟩
def lw_privs_4 : List (MethodName × Nat) := [(⟨"NoTwoTogetherModel", "isDigit", "(I)Z"⟩, 79), (⟨"NoTwoTogetherModel", "isMarkSign", "(I)Z"⟩, 79), (⟨"NoTwoTogetherModel", "readFails", "()I"⟩, 79), (⟨"NoTwoTogetherModel", "errs", "(I)I"⟩, 79), (⟨"NoTwoTogetherModel", "readFail", "(I)I"⟩, 79), (⟨"NoTwoTogetherModel", "readShape", "(I)I"⟩, 79), (⟨"NoTwoTogetherModel", "readNumber", "(I)I"⟩, 79), (⟨"NoTwoTogetherModel", "isWord", "(I)Z"⟩, 79), (⟨"NoTwoTogetherModel", "isSign", "(I)Z"⟩, 79), (⟨"NoTwoTogetherModel", "readLaw", "()I"⟩, 79), (⟨"NoTwoTogetherModel", "readLine", "(I)I"⟩, 79), (⟨"NoTwoTogetherModel", "readSum", "()I"⟩, 79), (⟨"NoTwoTogetherModel", "readProduct", "()I"⟩, 79), (⟨"NoTwoTogetherModel", "readUnit", "()I"⟩, 79), (⟨"NoTwoTogetherModel", "isAskedWord", "()Z"⟩, 79), (⟨"NoTwoTogetherModel", "emits", "(II)V"⟩, 79)]
theorem lw_r4 : ∀ q ∈ lw_privs_4, lw_okq q := List.forall_mem_cons.mpr ⟨lw_p48, List.forall_mem_cons.mpr ⟨lw_p49, List.forall_mem_cons.mpr ⟨lw_p50, List.forall_mem_cons.mpr ⟨lw_p51, List.forall_mem_cons.mpr ⟨lw_p52, List.forall_mem_cons.mpr ⟨lw_p53, List.forall_mem_cons.mpr ⟨lw_p54, List.forall_mem_cons.mpr ⟨lw_p55, List.forall_mem_cons.mpr ⟨lw_p56, List.forall_mem_cons.mpr ⟨lw_p57, List.forall_mem_cons.mpr ⟨lw_p58, List.forall_mem_cons.mpr ⟨lw_p59, List.forall_mem_cons.mpr ⟨lw_p60, List.forall_mem_cons.mpr ⟨lw_p61, List.forall_mem_cons.mpr ⟨lw_p62, List.forall_mem_cons.mpr ⟨lw_p63, fun _ h => absurd h List.not_mem_nil⟩⟩⟩⟩⟩⟩⟩⟩⟩⟩⟩⟩⟩⟩⟩⟩
theorem lw_p64 : lw_okq (⟨"NoTwoTogetherModel", "readAny", "()I"⟩, 79) := ⟨⟨by decide +kernel, by decide +kernel⟩, List.mem_of_getElem? (i := 1005) (by decide +kernel), List.mem_of_getElem? (i := 1381) (by decide +kernel), List.mem_of_getElem? (i := 1382) (by decide +kernel)⟩
theorem lw_p65 : lw_okq (⟨"NoTwoTogetherModel", "waits", "(I)V"⟩, 79) := ⟨⟨by decide +kernel, by decide +kernel⟩, List.mem_of_getElem? (i := 1005) (by decide +kernel), List.mem_of_getElem? (i := 1385) (by decide +kernel), List.mem_of_getElem? (i := 1386) (by decide +kernel)⟩
theorem lw_p66 : lw_okq (⟨"NoTwoTogetherModel", "readCompared", "()I"⟩, 79) := ⟨⟨by decide +kernel, by decide +kernel⟩, List.mem_of_getElem? (i := 1005) (by decide +kernel), List.mem_of_getElem? (i := 1389) (by decide +kernel), List.mem_of_getElem? (i := 1390) (by decide +kernel)⟩
theorem lw_p67 : lw_okq (⟨"NoTwoTogetherModel", "settles", "(I)V"⟩, 79) := ⟨⟨by decide +kernel, by decide +kernel⟩, List.mem_of_getElem? (i := 1005) (by decide +kernel), List.mem_of_getElem? (i := 1393) (by decide +kernel), List.mem_of_getElem? (i := 1394) (by decide +kernel)⟩
theorem lw_p68 : lw_okq (⟨"NoTwoTogetherModel", "takesFails", "(I)V"⟩, 79) := ⟨⟨by decide +kernel, by decide +kernel⟩, List.mem_of_getElem? (i := 1005) (by decide +kernel), List.mem_of_getElem? (i := 1397) (by decide +kernel), List.mem_of_getElem? (i := 1398) (by decide +kernel)⟩
theorem lw_p69 : lw_okq (⟨"NoTwoTogetherModel", "takes", "(II)V"⟩, 79) := ⟨⟨by decide +kernel, by decide +kernel⟩, List.mem_of_getElem? (i := 1005) (by decide +kernel), List.mem_of_getElem? (i := 1401) (by decide +kernel), List.mem_of_getElem? (i := 1402) (by decide +kernel)⟩
theorem lw_p70 : lw_okq (⟨"NoTwoTogetherModel", "areBits", "(II)Z"⟩, 79) := ⟨⟨by decide +kernel, by decide +kernel⟩, List.mem_of_getElem? (i := 1005) (by decide +kernel), List.mem_of_getElem? (i := 1413) (by decide +kernel), List.mem_of_getElem? (i := 1414) (by decide +kernel)⟩
theorem lw_p71 : lw_okq (⟨"NoTwoTogetherModel", "failsTrial", "()Z"⟩, 79) := ⟨⟨by decide +kernel, by decide +kernel⟩, List.mem_of_getElem? (i := 1005) (by decide +kernel), List.mem_of_getElem? (i := 1418) (by decide +kernel), List.mem_of_getElem? (i := 1419) (by decide +kernel)⟩
theorem lw_p72 : lw_okq (⟨"NoTwoTogetherModel", "isMet", "(II)Z"⟩, 79) := ⟨⟨by decide +kernel, by decide +kernel⟩, List.mem_of_getElem? (i := 1005) (by decide +kernel), List.mem_of_getElem? (i := 1422) (by decide +kernel), List.mem_of_getElem? (i := 1423) (by decide +kernel)⟩
theorem lw_p73 : lw_okq (⟨"NoTwoTogetherModel", "ones", "(I)I"⟩, 79) := ⟨⟨by decide +kernel, by decide +kernel⟩, List.mem_of_getElem? (i := 1005) (by decide +kernel), List.mem_of_getElem? (i := 1426) (by decide +kernel), List.mem_of_getElem? (i := 1427) (by decide +kernel)⟩
theorem lw_p74 : lw_okq (⟨"NoTwoTogetherModel", "isShape", "(II)Z"⟩, 79) := ⟨⟨by decide +kernel, by decide +kernel⟩, List.mem_of_getElem? (i := 1005) (by decide +kernel), List.mem_of_getElem? (i := 1430) (by decide +kernel), List.mem_of_getElem? (i := 1431) (by decide +kernel)⟩
theorem lw_p75 : lw_okq (⟨"NoTwoTogetherModel", "goesBy", "()V"⟩, 79) := ⟨⟨by decide +kernel, by decide +kernel⟩, List.mem_of_getElem? (i := 1005) (by decide +kernel), List.mem_of_getElem? (i := 1438) (by decide +kernel), List.mem_of_getElem? (i := 1439) (by decide +kernel)⟩
theorem lw_p76 : lw_okq (⟨"NoTwoTogetherModel", "goesNow", "(I)I"⟩, 79) := ⟨⟨by decide +kernel, by decide +kernel⟩, List.mem_of_getElem? (i := 1005) (by decide +kernel), List.mem_of_getElem? (i := 1442) (by decide +kernel), List.mem_of_getElem? (i := 1443) (by decide +kernel)⟩
theorem lw_p77 : lw_okq (⟨"NoTwoTogetherModel", "besideOf", "(I)I"⟩, 79) := ⟨⟨by decide +kernel, by decide +kernel⟩, List.mem_of_getElem? (i := 1005) (by decide +kernel), List.mem_of_getElem? (i := 1446) (by decide +kernel), List.mem_of_getElem? (i := 1447) (by decide +kernel)⟩
theorem lw_p78 : lw_okq (⟨"NoTwoTogetherModel", "goesOf", "(IIIII)I"⟩, 79) := ⟨⟨by decide +kernel, by decide +kernel⟩, List.mem_of_getElem? (i := 1005) (by decide +kernel), List.mem_of_getElem? (i := 1450) (by decide +kernel), List.mem_of_getElem? (i := 1451) (by decide +kernel)⟩
theorem lw_p79 : lw_okq (⟨"NoTwoTogetherModel", "size", "(I)I"⟩, 79) := ⟨⟨by decide +kernel, by decide +kernel⟩, List.mem_of_getElem? (i := 1005) (by decide +kernel), List.mem_of_getElem? (i := 1454) (by decide +kernel), List.mem_of_getElem? (i := 1455) (by decide +kernel)⟩
def lw_privs_5 : List (MethodName × Nat) := [(⟨"NoTwoTogetherModel", "readAny", "()I"⟩, 79), (⟨"NoTwoTogetherModel", "waits", "(I)V"⟩, 79), (⟨"NoTwoTogetherModel", "readCompared", "()I"⟩, 79), (⟨"NoTwoTogetherModel", "settles", "(I)V"⟩, 79), (⟨"NoTwoTogetherModel", "takesFails", "(I)V"⟩, 79), (⟨"NoTwoTogetherModel", "takes", "(II)V"⟩, 79), (⟨"NoTwoTogetherModel", "areBits", "(II)Z"⟩, 79), (⟨"NoTwoTogetherModel", "failsTrial", "()Z"⟩, 79), (⟨"NoTwoTogetherModel", "isMet", "(II)Z"⟩, 79), (⟨"NoTwoTogetherModel", "ones", "(I)I"⟩, 79), (⟨"NoTwoTogetherModel", "isShape", "(II)Z"⟩, 79), (⟨"NoTwoTogetherModel", "goesBy", "()V"⟩, 79), (⟨"NoTwoTogetherModel", "goesNow", "(I)I"⟩, 79), (⟨"NoTwoTogetherModel", "besideOf", "(I)I"⟩, 79), (⟨"NoTwoTogetherModel", "goesOf", "(IIIII)I"⟩, 79), (⟨"NoTwoTogetherModel", "size", "(I)I"⟩, 79)]
theorem lw_r5 : ∀ q ∈ lw_privs_5, lw_okq q := List.forall_mem_cons.mpr ⟨lw_p64, List.forall_mem_cons.mpr ⟨lw_p65, List.forall_mem_cons.mpr ⟨lw_p66, List.forall_mem_cons.mpr ⟨lw_p67, List.forall_mem_cons.mpr ⟨lw_p68, List.forall_mem_cons.mpr ⟨lw_p69, List.forall_mem_cons.mpr ⟨lw_p70, List.forall_mem_cons.mpr ⟨lw_p71, List.forall_mem_cons.mpr ⟨lw_p72, List.forall_mem_cons.mpr ⟨lw_p73, List.forall_mem_cons.mpr ⟨lw_p74, List.forall_mem_cons.mpr ⟨lw_p75, List.forall_mem_cons.mpr ⟨lw_p76, List.forall_mem_cons.mpr ⟨lw_p77, List.forall_mem_cons.mpr ⟨lw_p78, List.forall_mem_cons.mpr ⟨lw_p79, fun _ h => absurd h List.not_mem_nil⟩⟩⟩⟩⟩⟩⟩⟩⟩⟩⟩⟩⟩⟩⟩⟩
theorem lw_p80 : lw_okq (⟨"NoTwoTogetherModel", "tells", "(I)I"⟩, 79) := ⟨⟨by decide +kernel, by decide +kernel⟩, List.mem_of_getElem? (i := 1005) (by decide +kernel), List.mem_of_getElem? (i := 1458) (by decide +kernel), List.mem_of_getElem? (i := 1459) (by decide +kernel)⟩
theorem lw_p81 : lw_okq (⟨"NoTwoTogetherModel", "worth", "(III)I"⟩, 79) := ⟨⟨by decide +kernel, by decide +kernel⟩, List.mem_of_getElem? (i := 1005) (by decide +kernel), List.mem_of_getElem? (i := 1462) (by decide +kernel), List.mem_of_getElem? (i := 1463) (by decide +kernel)⟩
theorem lw_p82 : lw_okq (⟨"NoTwoTogetherModel", "twoOf", "(III)I"⟩, 79) := ⟨⟨by decide +kernel, by decide +kernel⟩, List.mem_of_getElem? (i := 1005) (by decide +kernel), List.mem_of_getElem? (i := 1466) (by decide +kernel), List.mem_of_getElem? (i := 1467) (by decide +kernel)⟩
theorem lw_p83 : lw_okq (⟨"NoTwoTogetherModel", "draw", "(I)I"⟩, 79) := ⟨⟨by decide +kernel, by decide +kernel⟩, List.mem_of_getElem? (i := 1005) (by decide +kernel), List.mem_of_getElem? (i := 1470) (by decide +kernel), List.mem_of_getElem? (i := 1471) (by decide +kernel)⟩
theorem lw_p84 : lw_okq (⟨"NoTwoTogetherModel", "failsNow", "()Z"⟩, 79) := ⟨⟨by decide +kernel, by decide +kernel⟩, List.mem_of_getElem? (i := 1005) (by decide +kernel), List.mem_of_getElem? (i := 1476) (by decide +kernel), List.mem_of_getElem? (i := 1477) (by decide +kernel)⟩
theorem lw_p85 : lw_okq (⟨"NoTwoTogetherModel", "heComes", "()V"⟩, 79) := ⟨⟨by decide +kernel, by decide +kernel⟩, List.mem_of_getElem? (i := 1005) (by decide +kernel), List.mem_of_getElem? (i := 1480) (by decide +kernel), List.mem_of_getElem? (i := 1481) (by decide +kernel)⟩
theorem lw_p86 : lw_okq (⟨"NoTwoTogetherModel", "urgeOf", "(II)I"⟩, 79) := ⟨⟨by decide +kernel, by decide +kernel⟩, List.mem_of_getElem? (i := 1005) (by decide +kernel), List.mem_of_getElem? (i := 1484) (by decide +kernel), List.mem_of_getElem? (i := 1485) (by decide +kernel)⟩
theorem lw_p87 : lw_okq (⟨"NoTwoTogetherModel", "bestUrge", "()I"⟩, 79) := ⟨⟨by decide +kernel, by decide +kernel⟩, List.mem_of_getElem? (i := 1005) (by decide +kernel), List.mem_of_getElem? (i := 1488) (by decide +kernel), List.mem_of_getElem? (i := 1489) (by decide +kernel)⟩
theorem lw_p88 : lw_okq (⟨"NoTwoTogetherModel", "changes", "(I)Z"⟩, 79) := ⟨⟨by decide +kernel, by decide +kernel⟩, List.mem_of_getElem? (i := 1005) (by decide +kernel), List.mem_of_getElem? (i := 1492) (by decide +kernel), List.mem_of_getElem? (i := 1493) (by decide +kernel)⟩
theorem lw_p89 : lw_okq (⟨"NoTwoTogetherModel", "guessOf", "(I)I"⟩, 79) := ⟨⟨by decide +kernel, by decide +kernel⟩, List.mem_of_getElem? (i := 1005) (by decide +kernel), List.mem_of_getElem? (i := 1505) (by decide +kernel), List.mem_of_getElem? (i := 1506) (by decide +kernel)⟩
theorem lw_p90 : lw_okq (⟨"NoTwoTogetherModel", "chanceNow", "()J"⟩, 79) := ⟨⟨by decide +kernel, by decide +kernel⟩, List.mem_of_getElem? (i := 1005) (by decide +kernel), List.mem_of_getElem? (i := 1513) (by decide +kernel), List.mem_of_getElem? (i := 1514) (by decide +kernel)⟩
theorem lw_p91 : lw_okq (⟨"NoTwoTogetherModel", "chanceOf", "()J"⟩, 79) := ⟨⟨by decide +kernel, by decide +kernel⟩, List.mem_of_getElem? (i := 1005) (by decide +kernel), List.mem_of_getElem? (i := 1517) (by decide +kernel), List.mem_of_getElem? (i := 1518) (by decide +kernel)⟩
theorem lw_p92 : lw_okq (⟨"NoTwoTogetherModel", "beginsAhead", "()V"⟩, 79) := ⟨⟨by decide +kernel, by decide +kernel⟩, List.mem_of_getElem? (i := 1005) (by decide +kernel), List.mem_of_getElem? (i := 1528) (by decide +kernel), List.mem_of_getElem? (i := 1529) (by decide +kernel)⟩
theorem lw_p93 : lw_okq (⟨"NoTwoTogetherModel", "findsSetFails", "()V"⟩, 79) := ⟨⟨by decide +kernel, by decide +kernel⟩, List.mem_of_getElem? (i := 1005) (by decide +kernel), List.mem_of_getElem? (i := 1532) (by decide +kernel), List.mem_of_getElem? (i := 1533) (by decide +kernel)⟩
theorem lw_p94 : lw_okq (⟨"NoTwoTogetherModel", "aDayAhead", "(I)V"⟩, 79) := ⟨⟨by decide +kernel, by decide +kernel⟩, List.mem_of_getElem? (i := 1005) (by decide +kernel), List.mem_of_getElem? (i := 1536) (by decide +kernel), List.mem_of_getElem? (i := 1537) (by decide +kernel)⟩
theorem lw_p95 : lw_okq (⟨"NoTwoTogetherModel", "splits", "(II)V"⟩, 79) := ⟨⟨by decide +kernel, by decide +kernel⟩, List.mem_of_getElem? (i := 1005) (by decide +kernel), List.mem_of_getElem? (i := 1540) (by decide +kernel), List.mem_of_getElem? (i := 1541) (by decide +kernel)⟩
def lw_privs_6 : List (MethodName × Nat) := [(⟨"NoTwoTogetherModel", "tells", "(I)I"⟩, 79), (⟨"NoTwoTogetherModel", "worth", "(III)I"⟩, 79), (⟨"NoTwoTogetherModel", "twoOf", "(III)I"⟩, 79), (⟨"NoTwoTogetherModel", "draw", "(I)I"⟩, 79), (⟨"NoTwoTogetherModel", "failsNow", "()Z"⟩, 79), (⟨"NoTwoTogetherModel", "heComes", "()V"⟩, 79), (⟨"NoTwoTogetherModel", "urgeOf", "(II)I"⟩, 79), (⟨"NoTwoTogetherModel", "bestUrge", "()I"⟩, 79), (⟨"NoTwoTogetherModel", "changes", "(I)Z"⟩, 79), (⟨"NoTwoTogetherModel", "guessOf", "(I)I"⟩, 79), (⟨"NoTwoTogetherModel", "chanceNow", "()J"⟩, 79), (⟨"NoTwoTogetherModel", "chanceOf", "()J"⟩, 79), (⟨"NoTwoTogetherModel", "beginsAhead", "()V"⟩, 79), (⟨"NoTwoTogetherModel", "findsSetFails", "()V"⟩, 79), (⟨"NoTwoTogetherModel", "aDayAhead", "(I)V"⟩, 79), (⟨"NoTwoTogetherModel", "splits", "(II)V"⟩, 79)]
theorem lw_r6 : ∀ q ∈ lw_privs_6, lw_okq q := List.forall_mem_cons.mpr ⟨lw_p80, List.forall_mem_cons.mpr ⟨lw_p81, List.forall_mem_cons.mpr ⟨lw_p82, List.forall_mem_cons.mpr ⟨lw_p83, List.forall_mem_cons.mpr ⟨lw_p84, List.forall_mem_cons.mpr ⟨lw_p85, List.forall_mem_cons.mpr ⟨lw_p86, List.forall_mem_cons.mpr ⟨lw_p87, List.forall_mem_cons.mpr ⟨lw_p88, List.forall_mem_cons.mpr ⟨lw_p89, List.forall_mem_cons.mpr ⟨lw_p90, List.forall_mem_cons.mpr ⟨lw_p91, List.forall_mem_cons.mpr ⟨lw_p92, List.forall_mem_cons.mpr ⟨lw_p93, List.forall_mem_cons.mpr ⟨lw_p94, List.forall_mem_cons.mpr ⟨lw_p95, fun _ h => absurd h List.not_mem_nil⟩⟩⟩⟩⟩⟩⟩⟩⟩⟩⟩⟩⟩⟩⟩⟩
theorem lw_p96 : lw_okq (⟨"NoTwoTogetherModel", "leftNow", "()J"⟩, 79) := ⟨⟨by decide +kernel, by decide +kernel⟩, List.mem_of_getElem? (i := 1005) (by decide +kernel), List.mem_of_getElem? (i := 1544) (by decide +kernel), List.mem_of_getElem? (i := 1545) (by decide +kernel)⟩
theorem lw_p97 : lw_okq (⟨"NoTwoTogetherModel", "lasts", "()I"⟩, 79) := ⟨⟨by decide +kernel, by decide +kernel⟩, List.mem_of_getElem? (i := 1005) (by decide +kernel), List.mem_of_getElem? (i := 1552) (by decide +kernel), List.mem_of_getElem? (i := 1553) (by decide +kernel)⟩
theorem lw_p98 : lw_okq (⟨"NoTwoTogetherModel", "keepsRow", "()V"⟩, 79) := ⟨⟨by decide +kernel, by decide +kernel⟩, List.mem_of_getElem? (i := 1005) (by decide +kernel), List.mem_of_getElem? (i := 1564) (by decide +kernel), List.mem_of_getElem? (i := 1565) (by decide +kernel)⟩
theorem lw_p99 : lw_okq (⟨"NoTwoTogetherModel", "givesRowBack", "()V"⟩, 79) := ⟨⟨by decide +kernel, by decide +kernel⟩, List.mem_of_getElem? (i := 1005) (by decide +kernel), List.mem_of_getElem? (i := 1568) (by decide +kernel), List.mem_of_getElem? (i := 1569) (by decide +kernel)⟩
theorem lw_p100 : lw_okq (⟨"NoTwoTogetherModel", "sortsOrder", "()V"⟩, 79) := ⟨⟨by decide +kernel, by decide +kernel⟩, List.mem_of_getElem? (i := 1005) (by decide +kernel), List.mem_of_getElem? (i := 1576) (by decide +kernel), List.mem_of_getElem? (i := 1577) (by decide +kernel)⟩
theorem lw_p101 : lw_okq (⟨"NoTwoTogetherModel", "goesOn", "()Z"⟩, 79) := ⟨⟨by decide +kernel, by decide +kernel⟩, List.mem_of_getElem? (i := 1005) (by decide +kernel), List.mem_of_getElem? (i := 1580) (by decide +kernel), List.mem_of_getElem? (i := 1581) (by decide +kernel)⟩
theorem lw_p102 : lw_okq (⟨"NoTwoTogetherModel", "thinks", "(III)V"⟩, 79) := ⟨⟨by decide +kernel, by decide +kernel⟩, List.mem_of_getElem? (i := 1005) (by decide +kernel), List.mem_of_getElem? (i := 1592) (by decide +kernel), List.mem_of_getElem? (i := 1593) (by decide +kernel)⟩
theorem lw_p103 : lw_okq (⟨"NoTwoTogetherModel", "asides", "(Z)V"⟩, 79) := ⟨⟨by decide +kernel, by decide +kernel⟩, List.mem_of_getElem? (i := 1005) (by decide +kernel), List.mem_of_getElem? (i := 1596) (by decide +kernel), List.mem_of_getElem? (i := 1597) (by decide +kernel)⟩
theorem lw_p104 : lw_okq (⟨"NoTwoTogetherModel", "putAside", "(I)I"⟩, 79) := ⟨⟨by decide +kernel, by decide +kernel⟩, List.mem_of_getElem? (i := 1005) (by decide +kernel), List.mem_of_getElem? (i := 1600) (by decide +kernel), List.mem_of_getElem? (i := 1601) (by decide +kernel)⟩
theorem lw_p105 : lw_okq (⟨"NoTwoTogetherModel", "keepsTexts", "()V"⟩, 79) := ⟨⟨by decide +kernel, by decide +kernel⟩, List.mem_of_getElem? (i := 1005) (by decide +kernel), List.mem_of_getElem? (i := 1617) (by decide +kernel), List.mem_of_getElem? (i := 1618) (by decide +kernel)⟩
theorem lw_p106 : lw_okq (⟨"NoTwoTogetherModel", "keptText", "(I)I"⟩, 79) := ⟨⟨by decide +kernel, by decide +kernel⟩, List.mem_of_getElem? (i := 1005) (by decide +kernel), List.mem_of_getElem? (i := 1621) (by decide +kernel), List.mem_of_getElem? (i := 1622) (by decide +kernel)⟩
def lw_privs_7 : List (MethodName × Nat) := [(⟨"NoTwoTogetherModel", "leftNow", "()J"⟩, 79), (⟨"NoTwoTogetherModel", "lasts", "()I"⟩, 79), (⟨"NoTwoTogetherModel", "keepsRow", "()V"⟩, 79), (⟨"NoTwoTogetherModel", "givesRowBack", "()V"⟩, 79), (⟨"NoTwoTogetherModel", "sortsOrder", "()V"⟩, 79), (⟨"NoTwoTogetherModel", "goesOn", "()Z"⟩, 79), (⟨"NoTwoTogetherModel", "thinks", "(III)V"⟩, 79), (⟨"NoTwoTogetherModel", "asides", "(Z)V"⟩, 79), (⟨"NoTwoTogetherModel", "putAside", "(I)I"⟩, 79), (⟨"NoTwoTogetherModel", "keepsTexts", "()V"⟩, 79), (⟨"NoTwoTogetherModel", "keptText", "(I)I"⟩, 79)]
theorem lw_r7 : ∀ q ∈ lw_privs_7, lw_okq q := List.forall_mem_cons.mpr ⟨lw_p96, List.forall_mem_cons.mpr ⟨lw_p97, List.forall_mem_cons.mpr ⟨lw_p98, List.forall_mem_cons.mpr ⟨lw_p99, List.forall_mem_cons.mpr ⟨lw_p100, List.forall_mem_cons.mpr ⟨lw_p101, List.forall_mem_cons.mpr ⟨lw_p102, List.forall_mem_cons.mpr ⟨lw_p103, List.forall_mem_cons.mpr ⟨lw_p104, List.forall_mem_cons.mpr ⟨lw_p105, List.forall_mem_cons.mpr ⟨lw_p106, fun _ h => absurd h List.not_mem_nil⟩⟩⟩⟩⟩⟩⟩⟩⟩⟩⟩
def lw_privs : List (MethodName × Nat) := lw_privs_1 ++ (lw_privs_2 ++ (lw_privs_3 ++ (lw_privs_4 ++ (lw_privs_5 ++ (lw_privs_6 ++ (lw_privs_7))))))
def lw_tbl : List Cond := k2_sels lw_privs ++ tables_1
theorem lw_privs_ok : ∀ q ∈ lw_privs, lw_okq q := by
  show ∀ q ∈ lw_privs_1 ++ (lw_privs_2 ++ (lw_privs_3 ++ (lw_privs_4 ++ (lw_privs_5 ++ (lw_privs_6 ++ (lw_privs_7)))))), lw_okq q
  exact List.forall_mem_append.mpr ⟨lw_r1, List.forall_mem_append.mpr ⟨lw_r2, List.forall_mem_append.mpr ⟨lw_r3, List.forall_mem_append.mpr ⟨lw_r4, List.forall_mem_append.mpr ⟨lw_r5, List.forall_mem_append.mpr ⟨lw_r6, lw_r7⟩⟩⟩⟩⟩⟩
-- ===== end of PART A; then your names; then what follows =====
def RX0 : String := "NoTwoTogether$Asker"
def TX0 : u_T := fun k => match k with
  | 0 => ("NoTwoTogether$Asker", "names", "[I", true)
  | _ => ("NoTwoTogether$Asker", "stack", "[I", true)
def tyX0 : Nat → FieldType := fun k => match k with
  | 0 => .array .int
  | _ => .array .int
abbrev wsX00 : List Cond := u_ws RX0 TX0 2
theorem nmX0 : ∀ a, a < 2 → ∀ b, b < 2 → a ≠ b → (TX0 a).2.1 ≠ (TX0 b).2.1 := by decide +kernel
theorem tyX0_ok : ∀ k, k < 2 → parseFieldDescriptor (TX0 k).2.2.1 = some (tyX0 k) := by decide +kernel
abbrev cX0_init : ByteArray := prog_2_method_1_code
def yX0_init : MethodName := ⟨RX0, "<init>", "()V"⟩
abbrev cX0_goes : ByteArray := prog_2_method_2_code
def yX0_goes : MethodName := ⟨RX0, "goes", "(LNoTwoTogether$Row;LNoTwoTogether$Lines;III)I"⟩
abbrev cX0_urge : ByteArray := prog_2_method_3_code
def yX0_urge : MethodName := ⟨RX0, "urge", "(LNoTwoTogether$Row;LNoTwoTogether$Lines;I)I"⟩
abbrev cX0_guess : ByteArray := prog_2_method_4_code
def yX0_guess : MethodName := ⟨RX0, "guess", "(LNoTwoTogether$Row;LNoTwoTogether$Lines;I)I"⟩
abbrev cX0_name : ByteArray := prog_2_method_5_code
def yX0_name : MethodName := ⟨RX0, "name", "(LNoTwoTogether$Row;III)V"⟩
abbrev cX0_firstOf : ByteArray := prog_2_method_6_code
def yX0_firstOf : MethodName := ⟨RX0, "firstOf", "(LNoTwoTogether$Lines;)I"⟩
abbrev cX0_valueOf : ByteArray := prog_2_method_7_code
def yX0_valueOf : MethodName := ⟨RX0, "valueOf", "(LNoTwoTogether$Lines;II)I"⟩
def RX1 : String := "NoTwoTogether$Breaks"
def TX1 : u_T := fun k => match k with
  | _ => ("NoTwoTogether$Breaks", "enough", "[I", true)
def tyX1 : Nat → FieldType := fun k => match k with
  | _ => .array .int
abbrev wsX10 : List Cond := u_ws RX1 TX1 1
theorem nmX1 : ∀ a, a < 1 → ∀ b, b < 1 → a ≠ b → (TX1 a).2.1 ≠ (TX1 b).2.1 := by decide +kernel
theorem tyX1_ok : ∀ k, k < 1 → parseFieldDescriptor (TX1 k).2.2.1 = some (tyX1 k) := by decide +kernel
abbrev cX1_init : ByteArray := prog_3_method_1_code
def yX1_init : MethodName := ⟨RX1, "<init>", "()V"⟩
abbrev cX1_clear : ByteArray := prog_3_method_2_code
def yX1_clear : MethodName := ⟨RX1, "clear", "()V"⟩
abbrev cX1_addAny : ByteArray := prog_3_method_3_code
def yX1_addAny : MethodName := ⟨RX1, "addAny", "(II)V"⟩
abbrev cX1_addShape : ByteArray := prog_3_method_4_code
def yX1_addShape : MethodName := ⟨RX1, "addShape", "(III)V"⟩
abbrev cX1_isMet : ByteArray := prog_3_method_5_code
def yX1_isMet : MethodName := ⟨RX1, "isMet", "(II)Z"⟩
abbrev cX1_breaksRow : ByteArray := prog_3_method_6_code
def yX1_breaksRow : MethodName := ⟨RX1, "breaksRow", "(JI)Z"⟩
abbrev cX1_copy : ByteArray := prog_3_method_7_code
def yX1_copy : MethodName := ⟨RX1, "copy", "(LNoTwoTogether$Breaks;)V"⟩
def RX2 : String := "NoTwoTogether$Bridge"
def TX2 : u_T := fun k => match k with
  | 0 => ("NoTwoTogether$Bridge", "asker", "LNoTwoTogether$Asker;", true)
  | 1 => ("NoTwoTogether$Bridge", "goes", "[I", true)
  | _ => ("NoTwoTogether$Bridge", "urges", "[I", true)
def tyX2 : Nat → FieldType := fun k => match k with
  | 0 => .object "NoTwoTogether$Asker"
  | 1 => .array .int
  | _ => .array .int
abbrev wsX20 : List Cond := u_ws RX2 TX2 3
theorem nmX2 : ∀ a, a < 3 → ∀ b, b < 3 → a ≠ b → (TX2 a).2.1 ≠ (TX2 b).2.1 := by decide +kernel
theorem tyX2_ok : ∀ k, k < 3 → parseFieldDescriptor (TX2 k).2.2.1 = some (tyX2 k) := by decide +kernel
abbrev cX2_init : ByteArray := prog_4_method_1_code
def yX2_init : MethodName := ⟨RX2, "<init>", "(LNoTwoTogether$Asker;)V"⟩
abbrev cX2_passDay : ByteArray := prog_4_method_2_code
def yX2_passDay : MethodName := ⟨RX2, "passDay", "(LNoTwoTogether$Row;LNoTwoTogether$Texts;LNoTwoTogether$Lines;)V"⟩
abbrev cX2_wear : ByteArray := prog_4_method_3_code
def yX2_wear : MethodName := ⟨RX2, "wear", "(LNoTwoTogether$Row;I)V"⟩
abbrev cX2_come : ByteArray := prog_4_method_4_code
def yX2_come : MethodName := ⟨RX2, "come", "(LNoTwoTogether$Row;LNoTwoTogether$Lines;)V"⟩
abbrev cX2_mostUrgent : ByteArray := prog_4_method_5_code
def yX2_mostUrgent : MethodName := ⟨RX2, "mostUrgent", "(I)I"⟩
abbrev cX2_change : ByteArray := prog_4_method_6_code
def yX2_change : MethodName := ⟨RX2, "change", "(LNoTwoTogether$Row;I)V"⟩
def RX3 : String := "NoTwoTogether$Future"
def TX3 : u_T := fun k => match k with
  | 0 => ("NoTwoTogether$Future", "asker", "LNoTwoTogether$Asker;", true)
  | 1 => ("NoTwoTogether$Future", "weights", "[J", false)
  | 2 => ("NoTwoTogether$Future", "next", "[J", false)
  | 3 => ("NoTwoTogether$Future", "broken", "[Z", true)
  | 4 => ("NoTwoTogether$Future", "goes", "[I", true)
  | 5 => ("NoTwoTogether$Future", "partSets", "[I", true)
  | 6 => ("NoTwoTogether$Future", "partWeights", "[J", true)
  | 7 => ("NoTwoTogether$Future", "size", "I", false)
  | _ => ("NoTwoTogether$Future", "sets", "I", false)
def tyX3 : Nat → FieldType := fun k => match k with
  | 0 => .object "NoTwoTogether$Asker"
  | 1 => .array .long
  | 2 => .array .long
  | 3 => .array .boolean
  | 4 => .array .int
  | 5 => .array .int
  | 6 => .array .long
  | 7 => .int
  | _ => .int
abbrev wsX30 : List Cond := u_ws RX3 TX3 9
theorem nmX3 : ∀ a, a < 9 → ∀ b, b < 9 → a ≠ b → (TX3 a).2.1 ≠ (TX3 b).2.1 := by decide +kernel
theorem tyX3_ok : ∀ k, k < 9 → parseFieldDescriptor (TX3 k).2.2.1 = some (tyX3 k) := by decide +kernel
abbrev cX3_init : ByteArray := prog_5_method_1_code
def yX3_init : MethodName := ⟨RX3, "<init>", "(LNoTwoTogether$Asker;)V"⟩
abbrev cX3_begin : ByteArray := prog_5_method_2_code
def yX3_begin : MethodName := ⟨RX3, "begin", "(LNoTwoTogether$Row;LNoTwoTogether$Breaks;)V"⟩
abbrev cX3_passDay : ByteArray := prog_5_method_3_code
def yX3_passDay : MethodName := ⟨RX3, "passDay", "(LNoTwoTogether$Row;LNoTwoTogether$Lines;I)V"⟩
abbrev cX3_split : ByteArray := prog_5_method_4_code
def yX3_split : MethodName := ⟨RX3, "split", "(I)V"⟩
abbrev cX3_splitBy : ByteArray := prog_5_method_5_code
def yX3_splitBy : MethodName := ⟨RX3, "splitBy", "(III)I"⟩
abbrev cX3_remaining : ByteArray := prog_5_method_6_code
def yX3_remaining : MethodName := ⟨RX3, "remaining", "()J"⟩
abbrev cX3_mostLikely : ByteArray := prog_5_method_7_code
def yX3_mostLikely : MethodName := ⟨RX3, "mostLikely", "()I"⟩
def RX4 : String := "NoTwoTogether$Lines"
def TX4 : u_T := fun k => match k with
  | 0 => ("NoTwoTogether$Lines", "code", "[I", true)
  | 1 => ("NoTwoTogether$Lines", "starts", "[I", true)
  | 2 => ("NoTwoTogether$Lines", "whens", "[I", true)
  | 3 => ("NoTwoTogether$Lines", "count", "I", false)
  | _ => ("NoTwoTogether$Lines", "used", "I", false)
def tyX4 : Nat → FieldType := fun k => match k with
  | 0 => .array .int
  | 1 => .array .int
  | 2 => .array .int
  | 3 => .int
  | _ => .int
abbrev wsX40 : List Cond := u_ws RX4 TX4 5
theorem nmX4 : ∀ a, a < 5 → ∀ b, b < 5 → a ≠ b → (TX4 a).2.1 ≠ (TX4 b).2.1 := by decide +kernel
theorem tyX4_ok : ∀ k, k < 5 → parseFieldDescriptor (TX4 k).2.2.1 = some (tyX4 k) := by decide +kernel
abbrev cX4_init : ByteArray := prog_6_method_1_code
def yX4_init : MethodName := ⟨RX4, "<init>", "()V"⟩
abbrev cX4_clear : ByteArray := prog_6_method_2_code
def yX4_clear : MethodName := ⟨RX4, "clear", "()V"⟩
abbrev cX4_put : ByteArray := prog_6_method_3_code
def yX4_put : MethodName := ⟨RX4, "put", "(I)Z"⟩
abbrev cX4_beginWhen : ByteArray := prog_6_method_4_code
def yX4_beginWhen : MethodName := ⟨RX4, "beginWhen", "(I)V"⟩
abbrev cX4_endLine : ByteArray := prog_6_method_5_code
def yX4_endLine : MethodName := ⟨RX4, "endLine", "(I)V"⟩
abbrev cX4_copy : ByteArray := prog_6_method_6_code
def yX4_copy : MethodName := ⟨RX4, "copy", "(LNoTwoTogether$Lines;)V"⟩
def RX5 : String := "NoTwoTogether$Odds"
def TX5 : u_T := fun k => match k with
  | 0 => ("NoTwoTogether$Odds", "asker", "LNoTwoTogether$Asker;", true)
  | 1 => ("NoTwoTogether$Odds", "chances", "[I", true)
  | 2 => ("NoTwoTogether$Odds", "weights", "[J", false)
  | 3 => ("NoTwoTogether$Odds", "next", "[J", false)
  | 4 => ("NoTwoTogether$Odds", "rows", "[J", false)
  | _ => ("NoTwoTogether$Odds", "nextRows", "[J", false)
def tyX5 : Nat → FieldType := fun k => match k with
  | 0 => .object "NoTwoTogether$Asker"
  | 1 => .array .int
  | 2 => .array .long
  | 3 => .array .long
  | 4 => .array .long
  | _ => .array .long
abbrev wsX50 : List Cond := u_ws RX5 TX5 6
theorem nmX5 : ∀ a, a < 6 → ∀ b, b < 6 → a ≠ b → (TX5 a).2.1 ≠ (TX5 b).2.1 := by decide +kernel
theorem tyX5_ok : ∀ k, k < 6 → parseFieldDescriptor (TX5 k).2.2.1 = some (tyX5 k) := by decide +kernel
abbrev cX5_init : ByteArray := prog_7_method_1_code
def yX5_init : MethodName := ⟨RX5, "<init>", "(LNoTwoTogether$Asker;)V"⟩
abbrev cX5_ofNow : ByteArray := prog_7_method_2_code
def yX5_ofNow : MethodName := ⟨RX5, "ofNow", "(LNoTwoTogether$Row;LNoTwoTogether$Texts;)J"⟩
abbrev cX5_ofThought : ByteArray := prog_7_method_3_code
def yX5_ofThought : MethodName := ⟨RX5, "ofThought", "(LNoTwoTogether$Row;LNoTwoTogether$Texts;)J"⟩
abbrev cX5_out : ByteArray := prog_7_method_4_code
def yX5_out : MethodName := ⟨RX5, "out", "(ILNoTwoTogether$Breaks;)J"⟩
abbrev cX5_setsAhead : ByteArray := prog_7_method_5_code
def yX5_setsAhead : MethodName := ⟨RX5, "setsAhead", "(I)I"⟩
abbrev cX5_pass : ByteArray := prog_7_method_6_code
def yX5_pass : MethodName := ⟨RX5, "pass", "(ILNoTwoTogether$Breaks;)J"⟩
abbrev cX5_holding : ByteArray := prog_7_method_7_code
def yX5_holding : MethodName := ⟨RX5, "holding", "(IILNoTwoTogether$Breaks;)J"⟩
abbrev cX5_clearRows : ByteArray := prog_7_method_8_code
def yX5_clearRows : MethodName := ⟨RX5, "clearRows", "(I)V"⟩
abbrev cX5_addRows : ByteArray := prog_7_method_9_code
def yX5_addRows : MethodName := ⟨RX5, "addRows", "(IILNoTwoTogether$Breaks;)V"⟩
def RX6 : String := "NoTwoTogether$Parser"
def TX6 : u_T := fun k => match k with
  | 0 => ("NoTwoTogether$Parser", "tape", "LNoTwoTogether$Tape;", true)
  | 1 => ("NoTwoTogether$Parser", "lines", "LNoTwoTogether$Lines;", true)
  | 2 => ("NoTwoTogether$Parser", "breaks", "LNoTwoTogether$Breaks;", true)
  | 3 => ("NoTwoTogether$Parser", "fault", "I", false)
  | 4 => ("NoTwoTogether$Parser", "faultPlace", "I", false)
  | _ => ("NoTwoTogether$Parser", "isLaw", "Z", false)
def tyX6 : Nat → FieldType := fun k => match k with
  | 0 => .object "NoTwoTogether$Tape"
  | 1 => .object "NoTwoTogether$Lines"
  | 2 => .object "NoTwoTogether$Breaks"
  | 3 => .int
  | 4 => .int
  | _ => .boolean
abbrev wsX60 : List Cond := u_ws RX6 TX6 6
theorem nmX6 : ∀ a, a < 6 → ∀ b, b < 6 → a ≠ b → (TX6 a).2.1 ≠ (TX6 b).2.1 := by decide +kernel
theorem tyX6_ok : ∀ k, k < 6 → parseFieldDescriptor (TX6 k).2.2.1 = some (tyX6 k) := by decide +kernel
abbrev cX6_init : ByteArray := prog_8_method_1_code
def yX6_init : MethodName := ⟨RX6, "<init>", "(LNoTwoTogether$Tape;)V"⟩
abbrev cX6_readLines : ByteArray := prog_8_method_2_code
def yX6_readLines : MethodName := ⟨RX6, "readLines", "(Z)I"⟩
abbrev cX6_readBreaks : ByteArray := prog_8_method_3_code
def yX6_readBreaks : MethodName := ⟨RX6, "readBreaks", "()I"⟩
abbrev cX6_begin : ByteArray := prog_8_method_4_code
def yX6_begin : MethodName := ⟨RX6, "begin", "()V"⟩
abbrev cX6_stop : ByteArray := prog_8_method_5_code
def yX6_stop : MethodName := ⟨RX6, "stop", "(I)Z"⟩
abbrev cX6_pass : ByteArray := prog_8_method_6_code
def yX6_pass : MethodName := ⟨RX6, "pass", "(I)Z"⟩
abbrev cX6_readLine : ByteArray := prog_8_method_7_code
def yX6_readLine : MethodName := ⟨RX6, "readLine", "(I)Z"⟩
abbrev cX6_readSum : ByteArray := prog_8_method_8_code
def yX6_readSum : MethodName := ⟨RX6, "readSum", "()Z"⟩
abbrev cX6_readProduct : ByteArray := prog_8_method_9_code
def yX6_readProduct : MethodName := ⟨RX6, "readProduct", "()Z"⟩
abbrev cX6_isDivisor : ByteArray := prog_8_method_10_code
def yX6_isDivisor : MethodName := ⟨RX6, "isDivisor", "()Z"⟩
abbrev cX6_readUnit : ByteArray := prog_8_method_11_code
def yX6_readUnit : MethodName := ⟨RX6, "readUnit", "()Z"⟩
abbrev cX6_isName : ByteArray := prog_8_method_12_code
def yX6_isName : MethodName := ⟨RX6, "isName", "(I)Z"⟩
abbrev cX6_readOr : ByteArray := prog_8_method_13_code
def yX6_readOr : MethodName := ⟨RX6, "readOr", "(I)Z"⟩
abbrev cX6_readAnd : ByteArray := prog_8_method_14_code
def yX6_readAnd : MethodName := ⟨RX6, "readAnd", "(I)Z"⟩
abbrev cX6_readClause : ByteArray := prog_8_method_15_code
def yX6_readClause : MethodName := ⟨RX6, "readClause", "(I)Z"⟩
abbrev cX6_readBreak : ByteArray := prog_8_method_16_code
def yX6_readBreak : MethodName := ⟨RX6, "readBreak", "(I)Z"⟩
abbrev cX6_readSide : ByteArray := prog_8_method_17_code
def yX6_readSide : MethodName := ⟨RX6, "readSide", "()Z"⟩
abbrev cX6_readAny : ByteArray := prog_8_method_18_code
def yX6_readAny : MethodName := ⟨RX6, "readAny", "()Z"⟩
abbrev cX6_passNumber : ByteArray := prog_8_method_19_code
def yX6_passNumber : MethodName := ⟨RX6, "passNumber", "(I)Z"⟩
abbrev cX6_readShape : ByteArray := prog_8_method_20_code
def yX6_readShape : MethodName := ⟨RX6, "readShape", "()Z"⟩
abbrev cX6_isShapePart : ByteArray := prog_8_method_21_code
def yX6_isShapePart : MethodName := ⟨RX6, "isShapePart", "(I)Z"⟩
def RX7 : String := "NoTwoTogether$Row"
def TX7 : u_T := fun k => match k with
  | 0 => ("NoTwoTogether$Row", "size", "I", false)
  | 1 => ("NoTwoTogether$Row", "sort", "[I", true)
  | 2 => ("NoTwoTogether$Row", "age", "[I", true)
  | 3 => ("NoTwoTogether$Row", "seen", "[I", true)
  | 4 => ("NoTwoTogether$Row", "changes", "[I", true)
  | 5 => ("NoTwoTogether$Row", "gone", "J", false)
  | 6 => ("NoTwoTogether$Row", "seenGone", "J", false)
  | 7 => ("NoTwoTogether$Row", "weak", "[I", true)
  | 8 => ("NoTwoTogether$Row", "price", "[I", true)
  | 9 => ("NoTwoTogether$Row", "told", "[I", true)
  | 10 => ("NoTwoTogether$Row", "draws", "I", false)
  | 11 => ("NoTwoTogether$Row", "day", "I", false)
  | 12 => ("NoTwoTogether$Row", "failures", "I", false)
  | 13 => ("NoTwoTogether$Row", "cost", "I", false)
  | 14 => ("NoTwoTogether$Row", "changed", "I", false)
  | 15 => ("NoTwoTogether$Row", "stay", "I", false)
  | _ => ("NoTwoTogether$Row", "stayPlace", "I", false)
def tyX7 : Nat → FieldType := fun k => match k with
  | 0 => .int
  | 1 => .array .int
  | 2 => .array .int
  | 3 => .array .int
  | 4 => .array .int
  | 5 => .long
  | 6 => .long
  | 7 => .array .int
  | 8 => .array .int
  | 9 => .array .int
  | 10 => .int
  | 11 => .int
  | 12 => .int
  | 13 => .int
  | 14 => .int
  | 15 => .int
  | _ => .int
abbrev wsX70 : List Cond := u_ws RX7 TX7 17
theorem nmX7 : ∀ a, a < 17 → ∀ b, b < 17 → a ≠ b → (TX7 a).2.1 ≠ (TX7 b).2.1 := by decide +kernel
theorem tyX7_ok : ∀ k, k < 17 → parseFieldDescriptor (TX7 k).2.2.1 = some (tyX7 k) := by decide +kernel
abbrev cX7_init : ByteArray := prog_9_method_1_code
def yX7_init : MethodName := ⟨RX7, "<init>", "()V"⟩
abbrev cX7_begin : ByteArray := prog_9_method_2_code
def yX7_begin : MethodName := ⟨RX7, "begin", "(I)V"⟩
abbrev cX7_has : ByteArray := prog_9_method_3_code
def yX7_has : MethodName := ⟨RX7, "has", "(I)Z"⟩
abbrev cX7_lookAt : ByteArray := prog_9_method_4_code
def yX7_lookAt : MethodName := ⟨RX7, "lookAt", "(I)V"⟩
abbrev cX7_draw : ByteArray := prog_9_method_5_code
def yX7_draw : MethodName := ⟨RX7, "draw", "(I)I"⟩
abbrev cX7_copy : ByteArray := prog_9_method_6_code
def yX7_copy : MethodName := ⟨RX7, "copy", "(LNoTwoTogether$Row;)V"⟩
def RX8 : String := "NoTwoTogether$Tape"
def TX8 : u_T := fun k => match k with
  | 0 => ("NoTwoTogether$Tape", "bytes", "[B", true)
  | 1 => ("NoTwoTogether$Tape", "kinds", "[I", true)
  | 2 => ("NoTwoTogether$Tape", "places", "[I", true)
  | 3 => ("NoTwoTogether$Tape", "numbers", "[I", true)
  | 4 => ("NoTwoTogether$Tape", "length", "I", false)
  | _ => ("NoTwoTogether$Tape", "at", "I", false)
def tyX8 : Nat → FieldType := fun k => match k with
  | 0 => .array .byte
  | 1 => .array .int
  | 2 => .array .int
  | 3 => .array .int
  | 4 => .int
  | _ => .int
abbrev wsX80 : List Cond := u_ws RX8 TX8 6
theorem nmX8 : ∀ a, a < 6 → ∀ b, b < 6 → a ≠ b → (TX8 a).2.1 ≠ (TX8 b).2.1 := by decide +kernel
theorem tyX8_ok : ∀ k, k < 6 → parseFieldDescriptor (TX8 k).2.2.1 = some (tyX8 k) := by decide +kernel
abbrev cX8_init : ByteArray := prog_10_method_1_code
def yX8_init : MethodName := ⟨RX8, "<init>", "()V"⟩
abbrev cX8_add : ByteArray := prog_10_method_2_code
def yX8_add : MethodName := ⟨RX8, "add", "(I)V"⟩
abbrev cX8_kind : ByteArray := prog_10_method_3_code
def yX8_kind : MethodName := ⟨RX8, "kind", "()I"⟩
abbrev cX8_number : ByteArray := prog_10_method_4_code
def yX8_number : MethodName := ⟨RX8, "number", "()I"⟩
abbrev cX8_next : ByteArray := prog_10_method_5_code
def yX8_next : MethodName := ⟨RX8, "next", "()V"⟩
abbrev cX8_cutTokens : ByteArray := prog_10_method_6_code
def yX8_cutTokens : MethodName := ⟨RX8, "cutTokens", "()V"⟩
abbrev cX8_tokenEnd : ByteArray := prog_10_method_7_code
def yX8_tokenEnd : MethodName := ⟨RX8, "tokenEnd", "(I)I"⟩
abbrev cX8_kindOf : ByteArray := prog_10_method_8_code
def yX8_kindOf : MethodName := ⟨RX8, "kindOf", "(II)I"⟩
abbrev cX8_wordKind : ByteArray := prog_10_method_9_code
def yX8_wordKind : MethodName := ⟨RX8, "wordKind", "(II)I"⟩
abbrev cX8_valueOf : ByteArray := prog_10_method_10_code
def yX8_valueOf : MethodName := ⟨RX8, "valueOf", "(II)I"⟩
abbrev cX8_isBlank : ByteArray := prog_10_method_11_code
def yX8_isBlank : MethodName := ⟨RX8, "isBlank", "(I)Z"⟩
abbrev cX8_isLetter : ByteArray := prog_10_method_12_code
def yX8_isLetter : MethodName := ⟨RX8, "isLetter", "(I)Z"⟩
abbrev cX8_isDigit : ByteArray := prog_10_method_13_code
def yX8_isDigit : MethodName := ⟨RX8, "isDigit", "(I)Z"⟩
abbrev cX8_isSymbol : ByteArray := prog_10_method_14_code
def yX8_isSymbol : MethodName := ⟨RX8, "isSymbol", "(I)Z"⟩
def RX9 : String := "NoTwoTogether$Texts"
def TX9 : u_T := fun k => match k with
  | 0 => ("NoTwoTogether$Texts", "law", "LNoTwoTogether$Lines;", true)
  | 1 => ("NoTwoTogether$Texts", "first", "LNoTwoTogether$Lines;", true)
  | 2 => ("NoTwoTogether$Texts", "second", "LNoTwoTogether$Lines;", true)
  | _ => ("NoTwoTogether$Texts", "breaks", "LNoTwoTogether$Breaks;", true)
def tyX9 : Nat → FieldType := fun k => match k with
  | 0 => .object "NoTwoTogether$Lines"
  | 1 => .object "NoTwoTogether$Lines"
  | 2 => .object "NoTwoTogether$Lines"
  | _ => .object "NoTwoTogether$Breaks"
abbrev wsX90 : List Cond := u_ws RX9 TX9 4
theorem nmX9 : ∀ a, a < 4 → ∀ b, b < 4 → a ≠ b → (TX9 a).2.1 ≠ (TX9 b).2.1 := by decide +kernel
theorem tyX9_ok : ∀ k, k < 4 → parseFieldDescriptor (TX9 k).2.2.1 = some (tyX9 k) := by decide +kernel
abbrev cX9_init : ByteArray := prog_11_method_1_code
def yX9_init : MethodName := ⟨RX9, "<init>", "()V"⟩
abbrev cX9_lines : ByteArray := prog_11_method_2_code
def yX9_lines : MethodName := ⟨RX9, "lines", "(I)LNoTwoTogether$Lines;"⟩
abbrev cX9_copy : ByteArray := prog_11_method_3_code
def yX9_copy : MethodName := ⟨RX9, "copy", "(LNoTwoTogether$Texts;)V"⟩
def RX10 : String := "NoTwoTogether$Tries"
def TX10 : u_T := fun k => match k with
  | 0 => ("NoTwoTogether$Tries", "odds", "LNoTwoTogether$Odds;", true)
  | _ => ("NoTwoTogether$Tries", "bestSorts", "[I", true)
def tyX10 : Nat → FieldType := fun k => match k with
  | 0 => .object "NoTwoTogether$Odds"
  | _ => .array .int
abbrev wsX100 : List Cond := u_ws RX10 TX10 2
theorem nmX10 : ∀ a, a < 2 → ∀ b, b < 2 → a ≠ b → (TX10 a).2.1 ≠ (TX10 b).2.1 := by decide +kernel
theorem tyX10_ok : ∀ k, k < 2 → parseFieldDescriptor (TX10 k).2.2.1 = some (tyX10 k) := by decide +kernel
abbrev cX10_init : ByteArray := prog_12_method_1_code
def yX10_init : MethodName := ⟨RX10, "<init>", "(LNoTwoTogether$Odds;)V"⟩
abbrev cX10_bestChange : ByteArray := prog_12_method_2_code
def yX10_bestChange : MethodName := ⟨RX10, "bestChange", "(ILNoTwoTogether$Row;LNoTwoTogether$Row;LNoTwoTogether$Texts;)I"⟩
abbrev cX10_renew : ByteArray := prog_12_method_3_code
def yX10_renew : MethodName := ⟨RX10, "renew", "(LNoTwoTogether$Row;LNoTwoTogether$Row;I)V"⟩
abbrev cX10_bestOrder : ByteArray := prog_12_method_4_code
def yX10_bestOrder : MethodName := ⟨RX10, "bestOrder", "(ILNoTwoTogether$Row;LNoTwoTogether$Row;LNoTwoTogether$Texts;)I"⟩
abbrev cX10_sortUp : ByteArray := prog_12_method_5_code
def yX10_sortUp : MethodName := ⟨RX10, "sortUp", "([II)V"⟩
abbrev cX10_nextOrder : ByteArray := prog_12_method_6_code
def yX10_nextOrder : MethodName := ⟨RX10, "nextOrder", "([II)Z"⟩
abbrev cX10_swap : ByteArray := prog_12_method_7_code
def yX10_swap : MethodName := ⟨RX10, "swap", "([III)V"⟩
abbrev cX10_leastWay : ByteArray := prog_12_method_8_code
def yX10_leastWay : MethodName := ⟨RX10, "leastWay", "(IILNoTwoTogether$Row;)I"⟩
abbrev cX10_wayOf : ByteArray := prog_12_method_9_code
def yX10_wayOf : MethodName := ⟨RX10, "wayOf", "(III)I"⟩
def RX11 : String := "NoTwoTogether"
def TX11 : u_T := fun k => match k with
  | 0 => ("NoTwoTogether", "tape", "LNoTwoTogether$Tape;", true)
  | 1 => ("NoTwoTogether", "parser", "LNoTwoTogether$Parser;", true)
  | 2 => ("NoTwoTogether", "texts", "LNoTwoTogether$Texts;", true)
  | 3 => ("NoTwoTogether", "keptTexts", "LNoTwoTogether$Texts;", true)
  | 4 => ("NoTwoTogether", "now", "LNoTwoTogether$Row;", true)
  | 5 => ("NoTwoTogether", "kept", "LNoTwoTogether$Row;", true)
  | 6 => ("NoTwoTogether", "mind", "LNoTwoTogether$Row;", true)
  | 7 => ("NoTwoTogether", "asker", "LNoTwoTogether$Asker;", true)
  | 8 => ("NoTwoTogether", "odds", "LNoTwoTogether$Odds;", true)
  | 9 => ("NoTwoTogether", "future", "LNoTwoTogether$Future;", true)
  | 10 => ("NoTwoTogether", "bridge", "LNoTwoTogether$Bridge;", true)
  | 11 => ("NoTwoTogether", "tries", "LNoTwoTogether$Tries;", true)
  | 12 => ("NoTwoTogether", "isKept", "Z", false)
  | 13 => ("NoTwoTogether", "fault", "I", false)
  | _ => ("NoTwoTogether", "faultPlace", "I", false)
def tyX11 : Nat → FieldType := fun k => match k with
  | 0 => .object "NoTwoTogether$Tape"
  | 1 => .object "NoTwoTogether$Parser"
  | 2 => .object "NoTwoTogether$Texts"
  | 3 => .object "NoTwoTogether$Texts"
  | 4 => .object "NoTwoTogether$Row"
  | 5 => .object "NoTwoTogether$Row"
  | 6 => .object "NoTwoTogether$Row"
  | 7 => .object "NoTwoTogether$Asker"
  | 8 => .object "NoTwoTogether$Odds"
  | 9 => .object "NoTwoTogether$Future"
  | 10 => .object "NoTwoTogether$Bridge"
  | 11 => .object "NoTwoTogether$Tries"
  | 12 => .boolean
  | 13 => .int
  | _ => .int
abbrev wsX110 : List Cond := u_ws RX11 TX11 15
theorem nmX11 : ∀ a, a < 15 → ∀ b, b < 15 → a ≠ b → (TX11 a).2.1 ≠ (TX11 b).2.1 := by decide +kernel
theorem tyX11_ok : ∀ k, k < 15 → parseFieldDescriptor (TX11 k).2.2.1 = some (tyX11 k) := by decide +kernel
abbrev cX11_init : ByteArray := prog_1_method_1_code
def yX11_init : MethodName := ⟨RX11, "<init>", "()V"⟩
abbrev cX11_state : ByteArray := prog_1_method_2_code
def yX11_state : MethodName := ⟨RX11, "state", "(I)I"⟩
abbrev cX11_row : ByteArray := prog_1_method_3_code
def yX11_row : MethodName := ⟨RX11, "row", "(I)Z"⟩
abbrev cX11_place : ByteArray := prog_1_method_4_code
def yX11_place : MethodName := ⟨RX11, "place", "(IIIZ)Z"⟩
abbrev cX11_sort : ByteArray := prog_1_method_5_code
def yX11_sort : MethodName := ⟨RX11, "sort", "(III)Z"⟩
abbrev cX11_set : ByteArray := prog_1_method_6_code
def yX11_set : MethodName := ⟨RX11, "set", "(II)Z"⟩
abbrev cX11_feed : ByteArray := prog_1_method_7_code
def yX11_feed : MethodName := ⟨RX11, "feed", "(IIIII)I"⟩
abbrev cX11_end : ByteArray := prog_1_method_8_code
def yX11_end : MethodName := ⟨RX11, "end", "(I)Z"⟩
abbrev cX11_text : ByteArray := prog_1_method_9_code
def yX11_text : MethodName := ⟨RX11, "text", "(I)I"⟩
abbrev cX11_fault : ByteArray := prog_1_method_10_code
def yX11_fault : MethodName := ⟨RX11, "fault", "(I)I"⟩
abbrev cX11_of : ByteArray := prog_1_method_11_code
def yX11_of : MethodName := ⟨RX11, "of", "(II)I"⟩
abbrev cX11_see : ByteArray := prog_1_method_12_code
def yX11_see : MethodName := ⟨RX11, "see", "(I)Z"⟩
abbrev cX11_fails : ByteArray := prog_1_method_13_code
def yX11_fails : MethodName := ⟨RX11, "fails", "(II)I"⟩
abbrev cX11_days : ByteArray := prog_1_method_14_code
def yX11_days : MethodName := ⟨RX11, "days", "(I)I"⟩
abbrev cX11_chance : ByteArray := prog_1_method_15_code
def yX11_chance : MethodName := ⟨RX11, "chance", "(I)J"⟩
abbrev cX11_left : ByteArray := prog_1_method_16_code
def yX11_left : MethodName := ⟨RX11, "left", "(I)J"⟩
abbrev cX11_ahead : ByteArray := prog_1_method_17_code
def yX11_ahead : MethodName := ⟨RX11, "ahead", "(II)I"⟩
abbrev cX11_hold : ByteArray := prog_1_method_18_code
def yX11_hold : MethodName := ⟨RX11, "hold", "(I)J"⟩
abbrev cX11_which : ByteArray := prog_1_method_19_code
def yX11_which : MethodName := ⟨RX11, "which", "(I)I"⟩
abbrev cX11_where : ByteArray := prog_1_method_20_code
def yX11_where : MethodName := ⟨RX11, "where", "(I)I"⟩
abbrev cX11_stocks : ByteArray := prog_1_method_21_code
def yX11_stocks : MethodName := ⟨RX11, "stocks", "(II)I"⟩
abbrev cX11_thought : ByteArray := prog_1_method_22_code
def yX11_thought : MethodName := ⟨RX11, "thought", "(IIII)I"⟩
abbrev cX11_often : ByteArray := prog_1_method_23_code
def yX11_often : MethodName := ⟨RX11, "often", "(II)I"⟩
abbrev cX11_nine : ByteArray := prog_1_method_24_code
def yX11_nine : MethodName := ⟨RX11, "nine", "(I)I"⟩
abbrev cX11_image : ByteArray := prog_1_method_25_code
def yX11_image : MethodName := ⟨RX11, "image", "(Z)Z"⟩
abbrev cX11_look : ByteArray := prog_1_method_26_code
def yX11_look : MethodName := ⟨RX11, "look", "(I)I"⟩
abbrev cX11_keepRead : ByteArray := prog_1_method_27_code
def yX11_keepRead : MethodName := ⟨RX11, "keepRead", "(I)V"⟩
abbrev cX11_goAhead : ByteArray := prog_1_method_28_code
def yX11_goAhead : MethodName := ⟨RX11, "goAhead", "(I)V"⟩
abbrev cX11_lasts : ByteArray := prog_1_method_29_code
def yX11_lasts : MethodName := ⟨RX11, "lasts", "()I"⟩
abbrev cX11_think : ByteArray := prog_1_method_30_code
def yX11_think : MethodName := ⟨RX11, "think", "(III)V"⟩
abbrev cX11_cheapestEvery : ByteArray := prog_1_method_31_code
def yX11_cheapestEvery : MethodName := ⟨RX11, "cheapestEvery", "(I)I"⟩
abbrev cX11_cheaperRule : ByteArray := prog_1_method_32_code
def yX11_cheaperRule : MethodName := ⟨RX11, "cheaperRule", "(I)I"⟩
abbrev cX11_isEvery : ByteArray := prog_1_method_33_code
def yX11_isEvery : MethodName := ⟨RX11, "isEvery", "(I)Z"⟩
abbrev cX11_bit : ByteArray := prog_1_method_34_code
def yX11_bit : MethodName := ⟨RX11, "bit", "(JI)I"⟩
abbrev cX11_besideIn : ByteArray := prog_1_method_35_code
def yX11_besideIn : MethodName := ⟨RX11, "besideIn", "(JI)I"⟩
def RX12 : String := "NoTwoTogetherModel"
def TX12 : u_T := fun k => match k with
  | 0 => ("NoTwoTogetherModel", "told", "I", false)
  | 1 => ("NoTwoTogetherModel", "state", "I", false)
  | 2 => ("NoTwoTogetherModel", "n", "I", false)
  | 3 => ("NoTwoTogetherModel", "sortOf", "[I", true)
  | 4 => ("NoTwoTogetherModel", "ageOf", "[I", true)
  | 5 => ("NoTwoTogetherModel", "isGone", "[I", true)
  | 6 => ("NoTwoTogetherModel", "seenOf", "[I", true)
  | 7 => ("NoTwoTogetherModel", "wasGone", "[I", true)
  | 8 => ("NoTwoTogetherModel", "changedOf", "[I", true)
  | 9 => ("NoTwoTogetherModel", "weakOf", "[I", true)
  | 10 => ("NoTwoTogetherModel", "priceOf", "[I", true)
  | 11 => ("NoTwoTogetherModel", "settings", "[I", true)
  | 12 => ("NoTwoTogetherModel", "day", "I", false)
  | 13 => ("NoTwoTogetherModel", "failures", "I", false)
  | 14 => ("NoTwoTogetherModel", "cost", "I", false)
  | 15 => ("NoTwoTogetherModel", "changed", "I", false)
  | 16 => ("NoTwoTogetherModel", "longest", "I", false)
  | 17 => ("NoTwoTogetherModel", "longestAt", "I", false)
  | 18 => ("NoTwoTogetherModel", "tape", "[I", true)
  | 19 => ("NoTwoTogetherModel", "taped", "I", false)
  | 20 => ("NoTwoTogetherModel", "spot", "I", false)
  | 21 => ("NoTwoTogetherModel", "from", "I", false)
  | 22 => ("NoTwoTogetherModel", "token", "I", false)
  | 23 => ("NoTwoTogetherModel", "value", "I", false)
  | 24 => ("NoTwoTogetherModel", "words", "[I", true)
  | 25 => ("NoTwoTogetherModel", "lineMany", "[I", true)
  | 26 => ("NoTwoTogetherModel", "lineFrom", "[I", true)
  | 27 => ("NoTwoTogetherModel", "lineSum", "[I", true)
  | 28 => ("NoTwoTogetherModel", "lineTo", "[I", true)
  | 29 => ("NoTwoTogetherModel", "op", "[I", true)
  | 30 => ("NoTwoTogetherModel", "arg", "[I", true)
  | 31 => ("NoTwoTogetherModel", "isLaw", "Z", false)
  | 32 => ("NoTwoTogetherModel", "many", "I", false)
  | 33 => ("NoTwoTogetherModel", "open", "I", false)
  | 34 => ("NoTwoTogetherModel", "pending", "[I", true)
  | 35 => ("NoTwoTogetherModel", "pendings", "I", false)
  | 36 => ("NoTwoTogetherModel", "readFault", "I", false)
  | 37 => ("NoTwoTogetherModel", "readPlace", "I", false)
  | 38 => ("NoTwoTogetherModel", "faultKind", "I", false)
  | 39 => ("NoTwoTogetherModel", "faultPlace", "I", false)
  | 40 => ("NoTwoTogetherModel", "failMany", "I", false)
  | 41 => ("NoTwoTogetherModel", "failSort", "[I", true)
  | 42 => ("NoTwoTogetherModel", "failOne", "[I", true)
  | 43 => ("NoTwoTogetherModel", "failTwo", "[I", true)
  | 44 => ("NoTwoTogetherModel", "shapes", "[I", true)
  | 45 => ("NoTwoTogetherModel", "asked", "[I", true)
  | 46 => ("NoTwoTogetherModel", "stack", "[I", true)
  | 47 => ("NoTwoTogetherModel", "trial", "[I", true)
  | 48 => ("NoTwoTogetherModel", "goes", "[I", true)
  | 49 => ("NoTwoTogetherModel", "urges", "[I", true)
  | 50 => ("NoTwoTogetherModel", "rule", "I", false)
  | 51 => ("NoTwoTogetherModel", "every", "I", false)
  | 52 => ("NoTwoTogetherModel", "weights", "[J", true)
  | 53 => ("NoTwoTogetherModel", "nextWeights", "[J", true)
  | 54 => ("NoTwoTogetherModel", "chances", "[I", true)
  | 55 => ("NoTwoTogetherModel", "setWeights", "[J", true)
  | 56 => ("NoTwoTogetherModel", "nextSets", "[J", true)
  | 57 => ("NoTwoTogetherModel", "partSets", "[I", true)
  | 58 => ("NoTwoTogetherModel", "partWeights", "[J", true)
  | 59 => ("NoTwoTogetherModel", "setGoes", "[I", true)
  | 60 => ("NoTwoTogetherModel", "setFails", "[Z", true)
  | 61 => ("NoTwoTogetherModel", "holds", "[J", true)
  | 62 => ("NoTwoTogetherModel", "nextHolds", "[J", true)
  | 63 => ("NoTwoTogetherModel", "keptSort", "[I", true)
  | 64 => ("NoTwoTogetherModel", "keptAge", "[I", true)
  | 65 => ("NoTwoTogetherModel", "keptGone", "[I", true)
  | 66 => ("NoTwoTogetherModel", "order", "[I", true)
  | 67 => ("NoTwoTogetherModel", "bestOrder", "[I", true)
  | 68 => ("NoTwoTogetherModel", "ways", "[I", true)
  | 69 => ("NoTwoTogetherModel", "isPutting", "Z", false)
  | 70 => ("NoTwoTogetherModel", "asideAt", "I", false)
  | 71 => ("NoTwoTogetherModel", "aside", "[I", true)
  | 72 => ("NoTwoTogetherModel", "thoughtCost", "I", false)
  | 73 => ("NoTwoTogetherModel", "thoughtFailures", "I", false)
  | 74 => ("NoTwoTogetherModel", "thoughtChanged", "I", false)
  | 75 => ("NoTwoTogetherModel", "hasImage", "Z", false)
  | 76 => ("NoTwoTogetherModel", "images", "[I", true)
  | 77 => ("NoTwoTogetherModel", "imageTexts", "[I", true)
  | _ => ("NoTwoTogetherModel", "textAt", "I", false)
def tyX12 : Nat → FieldType := fun k => match k with
  | 0 => .int
  | 1 => .int
  | 2 => .int
  | 3 => .array .int
  | 4 => .array .int
  | 5 => .array .int
  | 6 => .array .int
  | 7 => .array .int
  | 8 => .array .int
  | 9 => .array .int
  | 10 => .array .int
  | 11 => .array .int
  | 12 => .int
  | 13 => .int
  | 14 => .int
  | 15 => .int
  | 16 => .int
  | 17 => .int
  | 18 => .array .int
  | 19 => .int
  | 20 => .int
  | 21 => .int
  | 22 => .int
  | 23 => .int
  | 24 => .array .int
  | 25 => .array .int
  | 26 => .array .int
  | 27 => .array .int
  | 28 => .array .int
  | 29 => .array .int
  | 30 => .array .int
  | 31 => .boolean
  | 32 => .int
  | 33 => .int
  | 34 => .array .int
  | 35 => .int
  | 36 => .int
  | 37 => .int
  | 38 => .int
  | 39 => .int
  | 40 => .int
  | 41 => .array .int
  | 42 => .array .int
  | 43 => .array .int
  | 44 => .array .int
  | 45 => .array .int
  | 46 => .array .int
  | 47 => .array .int
  | 48 => .array .int
  | 49 => .array .int
  | 50 => .int
  | 51 => .int
  | 52 => .array .long
  | 53 => .array .long
  | 54 => .array .int
  | 55 => .array .long
  | 56 => .array .long
  | 57 => .array .int
  | 58 => .array .long
  | 59 => .array .int
  | 60 => .array .boolean
  | 61 => .array .long
  | 62 => .array .long
  | 63 => .array .int
  | 64 => .array .int
  | 65 => .array .int
  | 66 => .array .int
  | 67 => .array .int
  | 68 => .array .int
  | 69 => .boolean
  | 70 => .int
  | 71 => .array .int
  | 72 => .int
  | 73 => .int
  | 74 => .int
  | 75 => .boolean
  | 76 => .array .int
  | 77 => .array .int
  | _ => .int
abbrev wsX120 : List Cond := u_ws RX12 TX12 79
theorem nmX12 : ∀ a, a < 79 → ∀ b, b < 79 → a ≠ b → (TX12 a).2.1 ≠ (TX12 b).2.1 := by decide +kernel
theorem tyX12_ok : ∀ k, k < 79 → parseFieldDescriptor (TX12 k).2.2.1 = some (tyX12 k) := by decide +kernel
abbrev cX12_init : ByteArray := prog_14_method_1_code
def yX12_init : MethodName := ⟨RX12, "<init>", "()V"⟩
abbrev cX12_isIn : ByteArray := prog_14_method_3_code
def yX12_isIn : MethodName := ⟨RX12, "isIn", "(III)Z"⟩
abbrev cX12_ones : ByteArray := prog_14_method_4_code
def yX12_ones : MethodName := ⟨RX12, "ones", "(I)I"⟩
abbrev cX12_size : ByteArray := prog_14_method_5_code
def yX12_size : MethodName := ⟨RX12, "size", "(I)I"⟩
abbrev cX12_state : ByteArray := prog_14_method_6_code
def yX12_state : MethodName := ⟨RX12, "state", "(I)I"⟩
abbrev cX12_draw : ByteArray := prog_14_method_7_code
def yX12_draw : MethodName := ⟨RX12, "draw", "(I)I"⟩
abbrev cX12_isPlace : ByteArray := prog_14_method_8_code
def yX12_isPlace : MethodName := ⟨RX12, "isPlace", "(I)Z"⟩
abbrev cX12_row : ByteArray := prog_14_method_9_code
def yX12_row : MethodName := ⟨RX12, "row", "(I)Z"⟩
abbrev cX12_place : ByteArray := prog_14_method_10_code
def yX12_place : MethodName := ⟨RX12, "place", "(IIIZ)Z"⟩
abbrev cX12_sort : ByteArray := prog_14_method_11_code
def yX12_sort : MethodName := ⟨RX12, "sort", "(III)Z"⟩
abbrev cX12_leastOf : ByteArray := prog_14_method_12_code
def yX12_leastOf : MethodName := ⟨RX12, "leastOf", "(I)I"⟩
abbrev cX12_mostOf : ByteArray := prog_14_method_13_code
def yX12_mostOf : MethodName := ⟨RX12, "mostOf", "(I)I"⟩
abbrev cX12_set : ByteArray := prog_14_method_14_code
def yX12_set : MethodName := ⟨RX12, "set", "(II)Z"⟩
abbrev cX12_puts : ByteArray := prog_14_method_15_code
def yX12_puts : MethodName := ⟨RX12, "puts", "(I)V"⟩
abbrev cX12_feed : ByteArray := prog_14_method_16_code
def yX12_feed : MethodName := ⟨RX12, "feed", "(IIIII)I"⟩
abbrev cX12_end : ByteArray := prog_14_method_17_code
def yX12_end : MethodName := ⟨RX12, "end", "(I)Z"⟩
abbrev cX12_raw : ByteArray := prog_14_method_18_code
def yX12_raw : MethodName := ⟨RX12, "raw", "(I)I"⟩
abbrev cX12_isLetter : ByteArray := prog_14_method_19_code
def yX12_isLetter : MethodName := ⟨RX12, "isLetter", "(I)Z"⟩
abbrev cX12_isDigit : ByteArray := prog_14_method_20_code
def yX12_isDigit : MethodName := ⟨RX12, "isDigit", "(I)Z"⟩
abbrev cX12_isMarkSign : ByteArray := prog_14_method_21_code
def yX12_isMarkSign : MethodName := ⟨RX12, "isMarkSign", "(I)Z"⟩
abbrev cX12_wordAt : ByteArray := prog_14_method_22_code
def yX12_wordAt : MethodName := ⟨RX12, "wordAt", "(II)I"⟩
abbrev cX12_reads : ByteArray := prog_14_method_23_code
def yX12_reads : MethodName := ⟨RX12, "reads", "()V"⟩
abbrev cX12_errs : ByteArray := prog_14_method_24_code
def yX12_errs : MethodName := ⟨RX12, "errs", "(I)I"⟩
abbrev cX12_isWord : ByteArray := prog_14_method_25_code
def yX12_isWord : MethodName := ⟨RX12, "isWord", "(I)Z"⟩
abbrev cX12_isSign : ByteArray := prog_14_method_26_code
def yX12_isSign : MethodName := ⟨RX12, "isSign", "(I)Z"⟩
abbrev cX12_emits : ByteArray := prog_14_method_27_code
def yX12_emits : MethodName := ⟨RX12, "emits", "(II)V"⟩
abbrev cX12_isAskedWord : ByteArray := prog_14_method_28_code
def yX12_isAskedWord : MethodName := ⟨RX12, "isAskedWord", "()Z"⟩
abbrev cX12_readUnit : ByteArray := prog_14_method_29_code
def yX12_readUnit : MethodName := ⟨RX12, "readUnit", "()I"⟩
abbrev cX12_readProduct : ByteArray := prog_14_method_30_code
def yX12_readProduct : MethodName := ⟨RX12, "readProduct", "()I"⟩
abbrev cX12_readSum : ByteArray := prog_14_method_31_code
def yX12_readSum : MethodName := ⟨RX12, "readSum", "()I"⟩
abbrev cX12_readCompared : ByteArray := prog_14_method_32_code
def yX12_readCompared : MethodName := ⟨RX12, "readCompared", "()I"⟩
abbrev cX12_waits : ByteArray := prog_14_method_33_code
def yX12_waits : MethodName := ⟨RX12, "waits", "(I)V"⟩
abbrev cX12_settles : ByteArray := prog_14_method_34_code
def yX12_settles : MethodName := ⟨RX12, "settles", "(I)V"⟩
abbrev cX12_readAny : ByteArray := prog_14_method_35_code
def yX12_readAny : MethodName := ⟨RX12, "readAny", "()I"⟩
abbrev cX12_readLine : ByteArray := prog_14_method_36_code
def yX12_readLine : MethodName := ⟨RX12, "readLine", "(I)I"⟩
abbrev cX12_readLaw : ByteArray := prog_14_method_37_code
def yX12_readLaw : MethodName := ⟨RX12, "readLaw", "()I"⟩
abbrev cX12_readNumber : ByteArray := prog_14_method_38_code
def yX12_readNumber : MethodName := ⟨RX12, "readNumber", "(I)I"⟩
abbrev cX12_readShape : ByteArray := prog_14_method_39_code
def yX12_readShape : MethodName := ⟨RX12, "readShape", "(I)I"⟩
abbrev cX12_readFail : ByteArray := prog_14_method_40_code
def yX12_readFail : MethodName := ⟨RX12, "readFail", "(I)I"⟩
abbrev cX12_readFails : ByteArray := prog_14_method_41_code
def yX12_readFails : MethodName := ⟨RX12, "readFails", "()I"⟩
abbrev cX12_takes : ByteArray := prog_14_method_42_code
def yX12_takes : MethodName := ⟨RX12, "takes", "(II)V"⟩
abbrev cX12_takesFails : ByteArray := prog_14_method_43_code
def yX12_takesFails : MethodName := ⟨RX12, "takesFails", "(I)V"⟩
abbrev cX12_text : ByteArray := prog_14_method_44_code
def yX12_text : MethodName := ⟨RX12, "text", "(I)I"⟩
abbrev cX12_fault : ByteArray := prog_14_method_45_code
def yX12_fault : MethodName := ⟨RX12, "fault", "(I)I"⟩
abbrev cX12_twoOf : ByteArray := prog_14_method_46_code
def yX12_twoOf : MethodName := ⟨RX12, "twoOf", "(III)I"⟩
abbrev cX12_worth : ByteArray := prog_14_method_47_code
def yX12_worth : MethodName := ⟨RX12, "worth", "(III)I"⟩
abbrev cX12_tells : ByteArray := prog_14_method_48_code
def yX12_tells : MethodName := ⟨RX12, "tells", "(I)I"⟩
abbrev cX12_goesOf : ByteArray := prog_14_method_49_code
def yX12_goesOf : MethodName := ⟨RX12, "goesOf", "(IIIII)I"⟩
abbrev cX12_besideOf : ByteArray := prog_14_method_50_code
def yX12_besideOf : MethodName := ⟨RX12, "besideOf", "(I)I"⟩
abbrev cX12_goesNow : ByteArray := prog_14_method_51_code
def yX12_goesNow : MethodName := ⟨RX12, "goesNow", "(I)I"⟩
abbrev cX12_urgeOf : ByteArray := prog_14_method_52_code
def yX12_urgeOf : MethodName := ⟨RX12, "urgeOf", "(II)I"⟩
abbrev cX12_guessOf : ByteArray := prog_14_method_53_code
def yX12_guessOf : MethodName := ⟨RX12, "guessOf", "(I)I"⟩
abbrev cX12_isShape : ByteArray := prog_14_method_54_code
def yX12_isShape : MethodName := ⟨RX12, "isShape", "(II)Z"⟩
abbrev cX12_isMet : ByteArray := prog_14_method_55_code
def yX12_isMet : MethodName := ⟨RX12, "isMet", "(II)Z"⟩
abbrev cX12_failsTrial : ByteArray := prog_14_method_56_code
def yX12_failsTrial : MethodName := ⟨RX12, "failsTrial", "()Z"⟩
abbrev cX12_failsNow : ByteArray := prog_14_method_57_code
def yX12_failsNow : MethodName := ⟨RX12, "failsNow", "()Z"⟩
abbrev cX12_areBits : ByteArray := prog_14_method_58_code
def yX12_areBits : MethodName := ⟨RX12, "areBits", "(II)Z"⟩
abbrev cX12_fails : ByteArray := prog_14_method_59_code
def yX12_fails : MethodName := ⟨RX12, "fails", "(II)I"⟩
abbrev cX12_bestUrge : ByteArray := prog_14_method_60_code
def yX12_bestUrge : MethodName := ⟨RX12, "bestUrge", "()I"⟩
abbrev cX12_changes : ByteArray := prog_14_method_61_code
def yX12_changes : MethodName := ⟨RX12, "changes", "(I)Z"⟩
abbrev cX12_heComes : ByteArray := prog_14_method_62_code
def yX12_heComes : MethodName := ⟨RX12, "heComes", "()V"⟩
abbrev cX12_goesBy : ByteArray := prog_14_method_63_code
def yX12_goesBy : MethodName := ⟨RX12, "goesBy", "()V"⟩
abbrev cX12_days : ByteArray := prog_14_method_64_code
def yX12_days : MethodName := ⟨RX12, "days", "(I)I"⟩
abbrev cX12_see : ByteArray := prog_14_method_65_code
def yX12_see : MethodName := ⟨RX12, "see", "(I)Z"⟩
abbrev cX12_of : ByteArray := prog_14_method_66_code
def yX12_of : MethodName := ⟨RX12, "of", "(II)I"⟩
abbrev cX12_chanceOf : ByteArray := prog_14_method_67_code
def yX12_chanceOf : MethodName := ⟨RX12, "chanceOf", "()J"⟩
abbrev cX12_chanceNow : ByteArray := prog_14_method_68_code
def yX12_chanceNow : MethodName := ⟨RX12, "chanceNow", "()J"⟩
abbrev cX12_chance : ByteArray := prog_14_method_69_code
def yX12_chance : MethodName := ⟨RX12, "chance", "(I)J"⟩
abbrev cX12_findsSetFails : ByteArray := prog_14_method_70_code
def yX12_findsSetFails : MethodName := ⟨RX12, "findsSetFails", "()V"⟩
abbrev cX12_beginsAhead : ByteArray := prog_14_method_71_code
def yX12_beginsAhead : MethodName := ⟨RX12, "beginsAhead", "()V"⟩
abbrev cX12_splits : ByteArray := prog_14_method_72_code
def yX12_splits : MethodName := ⟨RX12, "splits", "(II)V"⟩
abbrev cX12_aDayAhead : ByteArray := prog_14_method_73_code
def yX12_aDayAhead : MethodName := ⟨RX12, "aDayAhead", "(I)V"⟩
abbrev cX12_leftNow : ByteArray := prog_14_method_74_code
def yX12_leftNow : MethodName := ⟨RX12, "leftNow", "()J"⟩
abbrev cX12_left : ByteArray := prog_14_method_75_code
def yX12_left : MethodName := ⟨RX12, "left", "(I)J"⟩
abbrev cX12_lasts : ByteArray := prog_14_method_76_code
def yX12_lasts : MethodName := ⟨RX12, "lasts", "()I"⟩
abbrev cX12_ahead : ByteArray := prog_14_method_77_code
def yX12_ahead : MethodName := ⟨RX12, "ahead", "(II)I"⟩
abbrev cX12_hold : ByteArray := prog_14_method_78_code
def yX12_hold : MethodName := ⟨RX12, "hold", "(I)J"⟩
abbrev cX12_keepsRow : ByteArray := prog_14_method_79_code
def yX12_keepsRow : MethodName := ⟨RX12, "keepsRow", "()V"⟩
abbrev cX12_givesRowBack : ByteArray := prog_14_method_80_code
def yX12_givesRowBack : MethodName := ⟨RX12, "givesRowBack", "()V"⟩
abbrev cX12_which : ByteArray := prog_14_method_81_code
def yX12_which : MethodName := ⟨RX12, "which", "(I)I"⟩
abbrev cX12_goesOn : ByteArray := prog_14_method_82_code
def yX12_goesOn : MethodName := ⟨RX12, "goesOn", "()Z"⟩
abbrev cX12_sortsOrder : ByteArray := prog_14_method_83_code
def yX12_sortsOrder : MethodName := ⟨RX12, "sortsOrder", "()V"⟩
abbrev cX12_where : ByteArray := prog_14_method_84_code
def yX12_where : MethodName := ⟨RX12, "where", "(I)I"⟩
abbrev cX12_stocks : ByteArray := prog_14_method_85_code
def yX12_stocks : MethodName := ⟨RX12, "stocks", "(II)I"⟩
abbrev cX12_putAside : ByteArray := prog_14_method_86_code
def yX12_putAside : MethodName := ⟨RX12, "putAside", "(I)I"⟩
abbrev cX12_asides : ByteArray := prog_14_method_87_code
def yX12_asides : MethodName := ⟨RX12, "asides", "(Z)V"⟩
abbrev cX12_thinks : ByteArray := prog_14_method_88_code
def yX12_thinks : MethodName := ⟨RX12, "thinks", "(III)V"⟩
abbrev cX12_thought : ByteArray := prog_14_method_89_code
def yX12_thought : MethodName := ⟨RX12, "thought", "(IIII)I"⟩
abbrev cX12_often : ByteArray := prog_14_method_90_code
def yX12_often : MethodName := ⟨RX12, "often", "(II)I"⟩
abbrev cX12_nine : ByteArray := prog_14_method_91_code
def yX12_nine : MethodName := ⟨RX12, "nine", "(I)I"⟩
abbrev cX12_keptText : ByteArray := prog_14_method_92_code
def yX12_keptText : MethodName := ⟨RX12, "keptText", "(I)I"⟩
abbrev cX12_keepsTexts : ByteArray := prog_14_method_93_code
def yX12_keepsTexts : MethodName := ⟨RX12, "keepsTexts", "()V"⟩
abbrev cX12_image : ByteArray := prog_14_method_94_code
def yX12_image : MethodName := ⟨RX12, "image", "(Z)Z"⟩
abbrev cX12_look : ByteArray := prog_14_method_95_code
def yX12_look : MethodName := ⟨RX12, "look", "(I)I"⟩
def RJx145de : String := "java/io/Serializable"
def RJx9f9b0 : String := "java/lang/CharSequence"
def RJxb160c : String := "java/lang/Comparable"
def RJ6 : String := "java/lang/Integer"
abbrev cJ6_bitCount_0f7a4 : ByteArray := prog_15_method_49_code
def yJ6_bitCount_0f7a4 : MethodName := ⟨RJ6, "bitCount", "(I)I"⟩
def RJ13 : String := "java/lang/Long"
abbrev cJ13_bitCount_95d88 : ByteArray := prog_16_method_50_code
def yJ13_bitCount_95d88 : MethodName := ⟨RJ13, "bitCount", "(J)I"⟩
def RJ9 : String := "java/lang/Math"
def RJ0 : String := "java/lang/String"
abbrev cJ0_length_8abf5 : ByteArray := prog_18_method_54_code
def yJ0_length_8abf5 : MethodName := ⟨RJ0, "length", "()I"⟩
abbrev cJ0_charAt_5068e : ByteArray := prog_18_method_56_code
def yJ0_charAt_5068e : MethodName := ⟨RJ0, "charAt", "(I)C"⟩
abbrev cJ0_coder_7d493 : ByteArray := prog_18_method_152_code
def yJ0_coder_7d493 : MethodName := ⟨RJ0, "coder", "()B"⟩
abbrev cJ0_isLatin1_aae02 : ByteArray := prog_18_method_154_code
def yJ0_isLatin1_aae02 : MethodName := ⟨RJ0, "isLatin1", "()Z"⟩
abbrev cJ0_checkIndex_df160 : ByteArray := prog_18_method_155_code
def yJ0_checkIndex_df160 : MethodName := ⟨RJ0, "checkIndex", "(II)V"⟩
def RJ1 : String := "java/lang/StringLatin1"
abbrev cJ1_charAt_3b067 : ByteArray := prog_19_method_2_code
def yJ1_charAt_3b067 : MethodName := ⟨RJ1, "charAt", "([BI)C"⟩
def RJ2 : String := "java/lang/StringUTF16"
abbrev cJ2_length_9d52b : ByteArray := prog_20_method_6_code
def yJ2_length_9d52b : MethodName := ⟨RJ2, "length", "([B)I"⟩
abbrev cJ2_charAt_3b067 : ByteArray := prog_20_method_83_code
def yJ2_charAt_3b067 : MethodName := ⟨RJ2, "charAt", "([BI)C"⟩
abbrev cJ2_checkIndex_2214a : ByteArray := prog_20_method_91_code
def yJ2_checkIndex_2214a : MethodName := ⟨RJ2, "checkIndex", "(I[B)V"⟩
def RJ10 : String := "java/lang/System"
def RJxfd54e : String := "java/lang/constant/Constable"
def RJx3cf43 : String := "java/lang/constant/ConstantDesc"
def RJ7 : String := "java/util/Arrays"
abbrev cJ7_fill_d0a16 : ByteArray := prog_22_method_101_code
def yJ7_fill_d0a16 : MethodName := ⟨RJ7, "fill", "([JJ)V"⟩
abbrev cJ7_fill_53178 : ByteArray := prog_22_method_103_code
def yJ7_fill_53178 : MethodName := ⟨RJ7, "fill", "([II)V"⟩
def RJ3 : String := "jdk/internal/util/Preconditions"
abbrev cJ3_checkIndex_8e157 : ByteArray := prog_23_method_11_code
def yJ3_checkIndex_8e157 : MethodName := ⟨RJ3, "checkIndex", "(IILjava/util/function/BiFunction;)I"⟩
def RL : String := "NoTwoTogetherLaw"
abbrev cL_law : ByteArray := code
def yL_law : MethodName := ⟨RL, "law", "([I)Z"⟩
