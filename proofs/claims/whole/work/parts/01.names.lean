-- ===== PART A: goes FIRST, ahead of the names: the tables' words, and 'selects' of the private methods out of them =====
/-- a private method of a class that the tables say can be made, by its rows of tables_1 -/
def lw_okq (q : MethodName × Nat) : Prop := (q.1.cls ≠ "java/lang/invoke/MethodHandle" ∧ q.1.cls ≠ "java/lang/invoke/VarHandle") ∧ Cond.instantiable q.1.cls q.2 ∈ tables_1 ∧ Cond.privateMethod q.1 ∈ tables_1 ∧ Cond.instanceMethod q.1 ∈ tables_1
theorem lw_p0 : lw_okq (⟨"SleepWaves$Scanner", "peek", "()I"⟩, 6) := ⟨⟨by decide +kernel, by decide +kernel⟩, List.mem_of_getElem? (i := 45) (by decide +kernel), List.mem_of_getElem? (i := 456) (by decide +kernel), List.mem_of_getElem? (i := 457) (by decide +kernel)⟩
theorem lw_p1 : lw_okq (⟨"SleepWaves$Scanner", "readNumber", "()V"⟩, 6) := ⟨⟨by decide +kernel, by decide +kernel⟩, List.mem_of_getElem? (i := 45) (by decide +kernel), List.mem_of_getElem? (i := 460) (by decide +kernel), List.mem_of_getElem? (i := 461) (by decide +kernel)⟩
theorem lw_p2 : lw_okq (⟨"SleepWaves$Scanner", "readWord", "()V"⟩, 6) := ⟨⟨by decide +kernel, by decide +kernel⟩, List.mem_of_getElem? (i := 45) (by decide +kernel), List.mem_of_getElem? (i := 464) (by decide +kernel), List.mem_of_getElem? (i := 465) (by decide +kernel)⟩
theorem lw_p3 : lw_okq (⟨"SleepWaves$Scanner", "readSign", "()V"⟩, 6) := ⟨⟨by decide +kernel, by decide +kernel⟩, List.mem_of_getElem? (i := 45) (by decide +kernel), List.mem_of_getElem? (i := 468) (by decide +kernel), List.mem_of_getElem? (i := 469) (by decide +kernel)⟩
theorem lw_p4 : lw_okq (⟨"SleepWaves$CampReader", "readCompany", "()V"⟩, 4) := ⟨⟨by decide +kernel, by decide +kernel⟩, List.mem_of_getElem? (i := 76) (by decide +kernel), List.mem_of_getElem? (i := 525) (by decide +kernel), List.mem_of_getElem? (i := 526) (by decide +kernel)⟩
theorem lw_p5 : lw_okq (⟨"SleepWaves$CampReader", "isOneTooMany", "(Z)Z"⟩, 4) := ⟨⟨by decide +kernel, by decide +kernel⟩, List.mem_of_getElem? (i := 76) (by decide +kernel), List.mem_of_getElem? (i := 529) (by decide +kernel), List.mem_of_getElem? (i := 530) (by decide +kernel)⟩
theorem lw_p6 : lw_okq (⟨"SleepWaves$CampReader", "number", "(II)I"⟩, 4) := ⟨⟨by decide +kernel, by decide +kernel⟩, List.mem_of_getElem? (i := 76) (by decide +kernel), List.mem_of_getElem? (i := 537) (by decide +kernel), List.mem_of_getElem? (i := 538) (by decide +kernel)⟩
theorem lw_p7 : lw_okq (⟨"SleepWaves$CampReader", "readBell", "()V"⟩, 4) := ⟨⟨by decide +kernel, by decide +kernel⟩, List.mem_of_getElem? (i := 76) (by decide +kernel), List.mem_of_getElem? (i := 546) (by decide +kernel), List.mem_of_getElem? (i := 547) (by decide +kernel)⟩
theorem lw_p8 : lw_okq (⟨"SleepWaves$CampReader", "readDuty", "()V"⟩, 4) := ⟨⟨by decide +kernel, by decide +kernel⟩, List.mem_of_getElem? (i := 76) (by decide +kernel), List.mem_of_getElem? (i := 551) (by decide +kernel), List.mem_of_getElem? (i := 552) (by decide +kernel)⟩
theorem lw_p9 : lw_okq (⟨"SleepWaves$CampReader", "readWatch", "()V"⟩, 4) := ⟨⟨by decide +kernel, by decide +kernel⟩, List.mem_of_getElem? (i := 76) (by decide +kernel), List.mem_of_getElem? (i := 556) (by decide +kernel), List.mem_of_getElem? (i := 557) (by decide +kernel)⟩
theorem lw_p10 : lw_okq (⟨"SleepWaves$CampReader", "clauseFollows", "()Z"⟩, 4) := ⟨⟨by decide +kernel, by decide +kernel⟩, List.mem_of_getElem? (i := 76) (by decide +kernel), List.mem_of_getElem? (i := 560) (by decide +kernel), List.mem_of_getElem? (i := 561) (by decide +kernel)⟩
theorem lw_p11 : lw_okq (⟨"SleepWaves$LawReader", "take", "()V"⟩, 9) := ⟨⟨by decide +kernel, by decide +kernel⟩, List.mem_of_getElem? (i := 95) (by decide +kernel), List.mem_of_getElem? (i := 611) (by decide +kernel), List.mem_of_getElem? (i := 612) (by decide +kernel)⟩
theorem lw_p12 : lw_okq (⟨"SleepWaves$LawReader", "takeClause", "()V"⟩, 9) := ⟨⟨by decide +kernel, by decide +kernel⟩, List.mem_of_getElem? (i := 95) (by decide +kernel), List.mem_of_getElem? (i := 615) (by decide +kernel), List.mem_of_getElem? (i := 616) (by decide +kernel)⟩
theorem lw_p13 : lw_okq (⟨"SleepWaves$LawReader", "takeFact", "()V"⟩, 9) := ⟨⟨by decide +kernel, by decide +kernel⟩, List.mem_of_getElem? (i := 95) (by decide +kernel), List.mem_of_getElem? (i := 631) (by decide +kernel), List.mem_of_getElem? (i := 632) (by decide +kernel)⟩
theorem lw_p14 : lw_okq (⟨"SleepWaves$LawReader", "takeValue", "()V"⟩, 9) := ⟨⟨by decide +kernel, by decide +kernel⟩, List.mem_of_getElem? (i := 95) (by decide +kernel), List.mem_of_getElem? (i := 637) (by decide +kernel), List.mem_of_getElem? (i := 638) (by decide +kernel)⟩
theorem lw_p15 : lw_okq (⟨"SleepWaves$LawReader", "wordNumber", "()I"⟩, 9) := ⟨⟨by decide +kernel, by decide +kernel⟩, List.mem_of_getElem? (i := 95) (by decide +kernel), List.mem_of_getElem? (i := 641) (by decide +kernel), List.mem_of_getElem? (i := 642) (by decide +kernel)⟩
def lw_privs_1 : List (MethodName × Nat) := [(⟨"SleepWaves$Scanner", "peek", "()I"⟩, 6), (⟨"SleepWaves$Scanner", "readNumber", "()V"⟩, 6), (⟨"SleepWaves$Scanner", "readWord", "()V"⟩, 6), (⟨"SleepWaves$Scanner", "readSign", "()V"⟩, 6), (⟨"SleepWaves$CampReader", "readCompany", "()V"⟩, 4), (⟨"SleepWaves$CampReader", "isOneTooMany", "(Z)Z"⟩, 4), (⟨"SleepWaves$CampReader", "number", "(II)I"⟩, 4), (⟨"SleepWaves$CampReader", "readBell", "()V"⟩, 4), (⟨"SleepWaves$CampReader", "readDuty", "()V"⟩, 4), (⟨"SleepWaves$CampReader", "readWatch", "()V"⟩, 4), (⟨"SleepWaves$CampReader", "clauseFollows", "()Z"⟩, 4), (⟨"SleepWaves$LawReader", "take", "()V"⟩, 9), (⟨"SleepWaves$LawReader", "takeClause", "()V"⟩, 9), (⟨"SleepWaves$LawReader", "takeFact", "()V"⟩, 9), (⟨"SleepWaves$LawReader", "takeValue", "()V"⟩, 9), (⟨"SleepWaves$LawReader", "wordNumber", "()I"⟩, 9)]
theorem lw_r1 : ∀ q ∈ lw_privs_1, lw_okq q := List.forall_mem_cons.mpr ⟨lw_p0, List.forall_mem_cons.mpr ⟨lw_p1, List.forall_mem_cons.mpr ⟨lw_p2, List.forall_mem_cons.mpr ⟨lw_p3, List.forall_mem_cons.mpr ⟨lw_p4, List.forall_mem_cons.mpr ⟨lw_p5, List.forall_mem_cons.mpr ⟨lw_p6, List.forall_mem_cons.mpr ⟨lw_p7, List.forall_mem_cons.mpr ⟨lw_p8, List.forall_mem_cons.mpr ⟨lw_p9, List.forall_mem_cons.mpr ⟨lw_p10, List.forall_mem_cons.mpr ⟨lw_p11, List.forall_mem_cons.mpr ⟨lw_p12, List.forall_mem_cons.mpr ⟨lw_p13, List.forall_mem_cons.mpr ⟨lw_p14, List.forall_mem_cons.mpr ⟨lw_p15, fun _ h => absurd h List.not_mem_nil⟩⟩⟩⟩⟩⟩⟩⟩⟩⟩⟩⟩⟩⟩⟩⟩
theorem lw_p16 : lw_okq (⟨"SleepWaves$LawReader", "isPartTooMany", "()Z"⟩, 9) := ⟨⟨by decide +kernel, by decide +kernel⟩, List.mem_of_getElem? (i := 95) (by decide +kernel), List.mem_of_getElem? (i := 655) (by decide +kernel), List.mem_of_getElem? (i := 656) (by decide +kernel)⟩
theorem lw_p17 : lw_okq (⟨"SleepWaves$LawReader", "hold", "(I)V"⟩, 9) := ⟨⟨by decide +kernel, by decide +kernel⟩, List.mem_of_getElem? (i := 95) (by decide +kernel), List.mem_of_getElem? (i := 663) (by decide +kernel), List.mem_of_getElem? (i := 664) (by decide +kernel)⟩
theorem lw_p18 : lw_okq (⟨"SleepWaves$LawReader", "takeOperator", "()V"⟩, 9) := ⟨⟨by decide +kernel, by decide +kernel⟩, List.mem_of_getElem? (i := 95) (by decide +kernel), List.mem_of_getElem? (i := 667) (by decide +kernel), List.mem_of_getElem? (i := 668) (by decide +kernel)⟩
theorem lw_p19 : lw_okq (⟨"SleepWaves$LawReader", "release", "(I)V"⟩, 9) := ⟨⟨by decide +kernel, by decide +kernel⟩, List.mem_of_getElem? (i := 95) (by decide +kernel), List.mem_of_getElem? (i := 674) (by decide +kernel), List.mem_of_getElem? (i := 675) (by decide +kernel)⟩
theorem lw_p20 : lw_okq (⟨"SleepWaves$LawReader", "takeJoint", "()V"⟩, 9) := ⟨⟨by decide +kernel, by decide +kernel⟩, List.mem_of_getElem? (i := 95) (by decide +kernel), List.mem_of_getElem? (i := 678) (by decide +kernel), List.mem_of_getElem? (i := 679) (by decide +kernel)⟩
theorem lw_p21 : lw_okq (⟨"SleepWaves$LawReader", "closeBracket", "()V"⟩, 9) := ⟨⟨by decide +kernel, by decide +kernel⟩, List.mem_of_getElem? (i := 95) (by decide +kernel), List.mem_of_getElem? (i := 684) (by decide +kernel), List.mem_of_getElem? (i := 685) (by decide +kernel)⟩
theorem lw_p22 : lw_okq (⟨"SleepWaves", "isLaw", "(I)Z"⟩, 13) := ⟨⟨by decide +kernel, by decide +kernel⟩, List.mem_of_getElem? (i := 20) (by decide +kernel), List.mem_of_getElem? (i := 699) (by decide +kernel), List.mem_of_getElem? (i := 700) (by decide +kernel)⟩
theorem lw_p23 : lw_okq (⟨"SleepWaves$State", "lieDownBy", "(LSleepWaves$Law;)V"⟩, 17) := ⟨⟨by decide +kernel, by decide +kernel⟩, List.mem_of_getElem? (i := 240) (by decide +kernel), List.mem_of_getElem? (i := 711) (by decide +kernel), List.mem_of_getElem? (i := 712) (by decide +kernel)⟩
theorem lw_p24 : lw_okq (⟨"SleepWaves$Law", "clauseHolds", "(ILSleepWaves$State;I)Z"⟩, 7) := ⟨⟨by decide +kernel, by decide +kernel⟩, List.mem_of_getElem? (i := 210) (by decide +kernel), List.mem_of_getElem? (i := 731) (by decide +kernel), List.mem_of_getElem? (i := 732) (by decide +kernel)⟩
theorem lw_p25 : lw_okq (⟨"SleepWaves$State", "bedIsWarm", "(I)Z"⟩, 17) := ⟨⟨by decide +kernel, by decide +kernel⟩, List.mem_of_getElem? (i := 240) (by decide +kernel), List.mem_of_getElem? (i := 742) (by decide +kernel), List.mem_of_getElem? (i := 743) (by decide +kernel)⟩
theorem lw_p26 : lw_okq (⟨"SleepWaves$State", "keepWhy", "(III)V"⟩, 17) := ⟨⟨by decide +kernel, by decide +kernel⟩, List.mem_of_getElem? (i := 240) (by decide +kernel), List.mem_of_getElem? (i := 750) (by decide +kernel), List.mem_of_getElem? (i := 751) (by decide +kernel)⟩
theorem lw_p27 : lw_okq (⟨"SleepWaves$State", "getUpBy", "(LSleepWaves$Law;I)V"⟩, 17) := ⟨⟨by decide +kernel, by decide +kernel⟩, List.mem_of_getElem? (i := 240) (by decide +kernel), List.mem_of_getElem? (i := 754) (by decide +kernel), List.mem_of_getElem? (i := 755) (by decide +kernel)⟩
theorem lw_p28 : lw_okq (⟨"SleepWaves$State", "snore", "()V"⟩, 17) := ⟨⟨by decide +kernel, by decide +kernel⟩, List.mem_of_getElem? (i := 240) (by decide +kernel), List.mem_of_getElem? (i := 762) (by decide +kernel), List.mem_of_getElem? (i := 763) (by decide +kernel)⟩
theorem lw_p29 : lw_okq (⟨"SleepWaves$State", "draw", "()I"⟩, 17) := ⟨⟨by decide +kernel, by decide +kernel⟩, List.mem_of_getElem? (i := 240) (by decide +kernel), List.mem_of_getElem? (i := 766) (by decide +kernel), List.mem_of_getElem? (i := 767) (by decide +kernel)⟩
theorem lw_p30 : lw_okq (⟨"SleepWaves$State", "wakeNextTo", "(I)V"⟩, 17) := ⟨⟨by decide +kernel, by decide +kernel⟩, List.mem_of_getElem? (i := 240) (by decide +kernel), List.mem_of_getElem? (i := 773) (by decide +kernel), List.mem_of_getElem? (i := 774) (by decide +kernel)⟩
theorem lw_p31 : lw_okq (⟨"SleepWaves$State", "tire", "()V"⟩, 17) := ⟨⟨by decide +kernel, by decide +kernel⟩, List.mem_of_getElem? (i := 240) (by decide +kernel), List.mem_of_getElem? (i := 777) (by decide +kernel), List.mem_of_getElem? (i := 778) (by decide +kernel)⟩
def lw_privs_2 : List (MethodName × Nat) := [(⟨"SleepWaves$LawReader", "isPartTooMany", "()Z"⟩, 9), (⟨"SleepWaves$LawReader", "hold", "(I)V"⟩, 9), (⟨"SleepWaves$LawReader", "takeOperator", "()V"⟩, 9), (⟨"SleepWaves$LawReader", "release", "(I)V"⟩, 9), (⟨"SleepWaves$LawReader", "takeJoint", "()V"⟩, 9), (⟨"SleepWaves$LawReader", "closeBracket", "()V"⟩, 9), (⟨"SleepWaves", "isLaw", "(I)Z"⟩, 13), (⟨"SleepWaves$State", "lieDownBy", "(LSleepWaves$Law;)V"⟩, 17), (⟨"SleepWaves$Law", "clauseHolds", "(ILSleepWaves$State;I)Z"⟩, 7), (⟨"SleepWaves$State", "bedIsWarm", "(I)Z"⟩, 17), (⟨"SleepWaves$State", "keepWhy", "(III)V"⟩, 17), (⟨"SleepWaves$State", "getUpBy", "(LSleepWaves$Law;I)V"⟩, 17), (⟨"SleepWaves$State", "snore", "()V"⟩, 17), (⟨"SleepWaves$State", "draw", "()I"⟩, 17), (⟨"SleepWaves$State", "wakeNextTo", "(I)V"⟩, 17), (⟨"SleepWaves$State", "tire", "()V"⟩, 17)]
theorem lw_r2 : ∀ q ∈ lw_privs_2, lw_okq q := List.forall_mem_cons.mpr ⟨lw_p16, List.forall_mem_cons.mpr ⟨lw_p17, List.forall_mem_cons.mpr ⟨lw_p18, List.forall_mem_cons.mpr ⟨lw_p19, List.forall_mem_cons.mpr ⟨lw_p20, List.forall_mem_cons.mpr ⟨lw_p21, List.forall_mem_cons.mpr ⟨lw_p22, List.forall_mem_cons.mpr ⟨lw_p23, List.forall_mem_cons.mpr ⟨lw_p24, List.forall_mem_cons.mpr ⟨lw_p25, List.forall_mem_cons.mpr ⟨lw_p26, List.forall_mem_cons.mpr ⟨lw_p27, List.forall_mem_cons.mpr ⟨lw_p28, List.forall_mem_cons.mpr ⟨lw_p29, List.forall_mem_cons.mpr ⟨lw_p30, List.forall_mem_cons.mpr ⟨lw_p31, fun _ h => absurd h List.not_mem_nil⟩⟩⟩⟩⟩⟩⟩⟩⟩⟩⟩⟩⟩⟩⟩⟩
theorem lw_p32 : lw_okq (⟨"SleepWaves", "isCompany", "(I)Z"⟩, 13) := ⟨⟨by decide +kernel, by decide +kernel⟩, List.mem_of_getElem? (i := 20) (by decide +kernel), List.mem_of_getElem? (i := 795) (by decide +kernel), List.mem_of_getElem? (i := 796) (by decide +kernel)⟩
theorem lw_p33 : lw_okq (⟨"SleepWaves", "areCompanies", "(I)Z"⟩, 13) := ⟨⟨by decide +kernel, by decide +kernel⟩, List.mem_of_getElem? (i := 20) (by decide +kernel), List.mem_of_getElem? (i := 884) (by decide +kernel), List.mem_of_getElem? (i := 885) (by decide +kernel)⟩
theorem lw_p34 : lw_okq (⟨"SleepWaves$Forecast", "restart", "()V"⟩, 5) := ⟨⟨by decide +kernel, by decide +kernel⟩, List.mem_of_getElem? (i := 341) (by decide +kernel), List.mem_of_getElem? (i := 904) (by decide +kernel), List.mem_of_getElem? (i := 905) (by decide +kernel)⟩
theorem lw_p35 : lw_okq (⟨"SleepWaves$Forecast", "keep", "(III)V"⟩, 5) := ⟨⟨by decide +kernel, by decide +kernel⟩, List.mem_of_getElem? (i := 341) (by decide +kernel), List.mem_of_getElem? (i := 936) (by decide +kernel), List.mem_of_getElem? (i := 937) (by decide +kernel)⟩
theorem lw_p36 : lw_okq (⟨"SleepWaves$Gossip", "mutinyOn", "(II)I"⟩, 3) := ⟨⟨by decide +kernel, by decide +kernel⟩, List.mem_of_getElem? (i := 366) (by decide +kernel), List.mem_of_getElem? (i := 955) (by decide +kernel), List.mem_of_getElem? (i := 956) (by decide +kernel)⟩
theorem lw_p37 : lw_okq (⟨"SleepWaves$Gossip", "firstToWin", "(II)I"⟩, 3) := ⟨⟨by decide +kernel, by decide +kernel⟩, List.mem_of_getElem? (i := 366) (by decide +kernel), List.mem_of_getElem? (i := 959) (by decide +kernel), List.mem_of_getElem? (i := 960) (by decide +kernel)⟩
theorem lw_p38 : lw_okq (⟨"SleepWaves$Gossip", "alike", "([II)I"⟩, 3) := ⟨⟨by decide +kernel, by decide +kernel⟩, List.mem_of_getElem? (i := 366) (by decide +kernel), List.mem_of_getElem? (i := 976) (by decide +kernel), List.mem_of_getElem? (i := 977) (by decide +kernel)⟩
theorem lw_p39 : lw_okq (⟨"SleepWavesModel", "put", "(I)V"⟩, 67) := ⟨⟨by decide +kernel, by decide +kernel⟩, List.mem_of_getElem? (i := 1029) (by decide +kernel), List.mem_of_getElem? (i := 1240) (by decide +kernel), List.mem_of_getElem? (i := 1241) (by decide +kernel)⟩
theorem lw_p40 : lw_okq (⟨"SleepWavesModel", "starts", "()V"⟩, 67) := ⟨⟨by decide +kernel, by decide +kernel⟩, List.mem_of_getElem? (i := 1029) (by decide +kernel), List.mem_of_getElem? (i := 1252) (by decide +kernel), List.mem_of_getElem? (i := 1253) (by decide +kernel)⟩
theorem lw_p41 : lw_okq (⟨"SleepWavesModel", "barracksClause", "(I)V"⟩, 67) := ⟨⟨by decide +kernel, by decide +kernel⟩, List.mem_of_getElem? (i := 1029) (by decide +kernel), List.mem_of_getElem? (i := 1256) (by decide +kernel), List.mem_of_getElem? (i := 1257) (by decide +kernel)⟩
theorem lw_p42 : lw_okq (⟨"SleepWavesModel", "blanks", "()V"⟩, 67) := ⟨⟨by decide +kernel, by decide +kernel⟩, List.mem_of_getElem? (i := 1029) (by decide +kernel), List.mem_of_getElem? (i := 1260) (by decide +kernel), List.mem_of_getElem? (i := 1261) (by decide +kernel)⟩
theorem lw_p43 : lw_okq (⟨"SleepWavesModel", "sign", "()I"⟩, 67) := ⟨⟨by decide +kernel, by decide +kernel⟩, List.mem_of_getElem? (i := 1029) (by decide +kernel), List.mem_of_getElem? (i := 1264) (by decide +kernel), List.mem_of_getElem? (i := 1265) (by decide +kernel)⟩
theorem lw_p44 : lw_okq (⟨"SleepWavesModel", "stood", "(Ljava/lang/String;)Z"⟩, 67) := ⟨⟨by decide +kernel, by decide +kernel⟩, List.mem_of_getElem? (i := 1029) (by decide +kernel), List.mem_of_getElem? (i := 1275) (by decide +kernel), List.mem_of_getElem? (i := 1276) (by decide +kernel)⟩
theorem lw_p45 : lw_okq (⟨"SleepWavesModel", "fails", "(II)V"⟩, 67) := ⟨⟨by decide +kernel, by decide +kernel⟩, List.mem_of_getElem? (i := 1029) (by decide +kernel), List.mem_of_getElem? (i := 1281) (by decide +kernel), List.mem_of_getElem? (i := 1282) (by decide +kernel)⟩
theorem lw_p46 : lw_okq (⟨"SleepWavesModel", "isFull", "(II)Z"⟩, 67) := ⟨⟨by decide +kernel, by decide +kernel⟩, List.mem_of_getElem? (i := 1029) (by decide +kernel), List.mem_of_getElem? (i := 1285) (by decide +kernel), List.mem_of_getElem? (i := 1286) (by decide +kernel)⟩
theorem lw_p47 : lw_okq (⟨"SleepWavesModel", "barracksPart", "(I)V"⟩, 67) := ⟨⟨by decide +kernel, by decide +kernel⟩, List.mem_of_getElem? (i := 1029) (by decide +kernel), List.mem_of_getElem? (i := 1289) (by decide +kernel), List.mem_of_getElem? (i := 1290) (by decide +kernel)⟩
def lw_privs_3 : List (MethodName × Nat) := [(⟨"SleepWaves", "isCompany", "(I)Z"⟩, 13), (⟨"SleepWaves", "areCompanies", "(I)Z"⟩, 13), (⟨"SleepWaves$Forecast", "restart", "()V"⟩, 5), (⟨"SleepWaves$Forecast", "keep", "(III)V"⟩, 5), (⟨"SleepWaves$Gossip", "mutinyOn", "(II)I"⟩, 3), (⟨"SleepWaves$Gossip", "firstToWin", "(II)I"⟩, 3), (⟨"SleepWaves$Gossip", "alike", "([II)I"⟩, 3), (⟨"SleepWavesModel", "put", "(I)V"⟩, 67), (⟨"SleepWavesModel", "starts", "()V"⟩, 67), (⟨"SleepWavesModel", "barracksClause", "(I)V"⟩, 67), (⟨"SleepWavesModel", "blanks", "()V"⟩, 67), (⟨"SleepWavesModel", "sign", "()I"⟩, 67), (⟨"SleepWavesModel", "stood", "(Ljava/lang/String;)Z"⟩, 67), (⟨"SleepWavesModel", "fails", "(II)V"⟩, 67), (⟨"SleepWavesModel", "isFull", "(II)Z"⟩, 67), (⟨"SleepWavesModel", "barracksPart", "(I)V"⟩, 67)]
theorem lw_r3 : ∀ q ∈ lw_privs_3, lw_okq q := List.forall_mem_cons.mpr ⟨lw_p32, List.forall_mem_cons.mpr ⟨lw_p33, List.forall_mem_cons.mpr ⟨lw_p34, List.forall_mem_cons.mpr ⟨lw_p35, List.forall_mem_cons.mpr ⟨lw_p36, List.forall_mem_cons.mpr ⟨lw_p37, List.forall_mem_cons.mpr ⟨lw_p38, List.forall_mem_cons.mpr ⟨lw_p39, List.forall_mem_cons.mpr ⟨lw_p40, List.forall_mem_cons.mpr ⟨lw_p41, List.forall_mem_cons.mpr ⟨lw_p42, List.forall_mem_cons.mpr ⟨lw_p43, List.forall_mem_cons.mpr ⟨lw_p44, List.forall_mem_cons.mpr ⟨lw_p45, List.forall_mem_cons.mpr ⟨lw_p46, List.forall_mem_cons.mpr ⟨lw_p47, fun _ h => absurd h List.not_mem_nil⟩⟩⟩⟩⟩⟩⟩⟩⟩⟩⟩⟩⟩⟩⟩⟩
theorem lw_p48 : lw_okq (⟨"SleepWavesModel", "amount", "(II)I"⟩, 67) := ⟨⟨by decide +kernel, by decide +kernel⟩, List.mem_of_getElem? (i := 1029) (by decide +kernel), List.mem_of_getElem? (i := 1293) (by decide +kernel), List.mem_of_getElem? (i := 1294) (by decide +kernel)⟩
theorem lw_p49 : lw_okq (⟨"SleepWavesModel", "digits", "(I)I"⟩, 67) := ⟨⟨by decide +kernel, by decide +kernel⟩, List.mem_of_getElem? (i := 1029) (by decide +kernel), List.mem_of_getElem? (i := 1298) (by decide +kernel), List.mem_of_getElem? (i := 1299) (by decide +kernel)⟩
theorem lw_p50 : lw_okq (⟨"SleepWavesModel", "isDigit", "()Z"⟩, 67) := ⟨⟨by decide +kernel, by decide +kernel⟩, List.mem_of_getElem? (i := 1029) (by decide +kernel), List.mem_of_getElem? (i := 1302) (by decide +kernel), List.mem_of_getElem? (i := 1303) (by decide +kernel)⟩
theorem lw_p51 : lw_okq (⟨"SleepWavesModel", "goesOn", "()Z"⟩, 67) := ⟨⟨by decide +kernel, by decide +kernel⟩, List.mem_of_getElem? (i := 1029) (by decide +kernel), List.mem_of_getElem? (i := 1311) (by decide +kernel), List.mem_of_getElem? (i := 1312) (by decide +kernel)⟩
theorem lw_p52 : lw_okq (⟨"SleepWavesModel", "lawClause", "(I)V"⟩, 67) := ⟨⟨by decide +kernel, by decide +kernel⟩, List.mem_of_getElem? (i := 1029) (by decide +kernel), List.mem_of_getElem? (i := 1322) (by decide +kernel), List.mem_of_getElem? (i := 1323) (by decide +kernel)⟩
theorem lw_p53 : lw_okq (⟨"SleepWavesModel", "test", "()V"⟩, 67) := ⟨⟨by decide +kernel, by decide +kernel⟩, List.mem_of_getElem? (i := 1029) (by decide +kernel), List.mem_of_getElem? (i := 1328) (by decide +kernel), List.mem_of_getElem? (i := 1329) (by decide +kernel)⟩
theorem lw_p54 : lw_okq (⟨"SleepWavesModel", "fact", "()Z"⟩, 67) := ⟨⟨by decide +kernel, by decide +kernel⟩, List.mem_of_getElem? (i := 1029) (by decide +kernel), List.mem_of_getElem? (i := 1332) (by decide +kernel), List.mem_of_getElem? (i := 1333) (by decide +kernel)⟩
theorem lw_p55 : lw_okq (⟨"SleepWavesModel", "opens", "(I)V"⟩, 67) := ⟨⟨by decide +kernel, by decide +kernel⟩, List.mem_of_getElem? (i := 1029) (by decide +kernel), List.mem_of_getElem? (i := 1337) (by decide +kernel), List.mem_of_getElem? (i := 1338) (by decide +kernel)⟩
theorem lw_p56 : lw_okq (⟨"SleepWavesModel", "compared", "()V"⟩, 67) := ⟨⟨by decide +kernel, by decide +kernel⟩, List.mem_of_getElem? (i := 1029) (by decide +kernel), List.mem_of_getElem? (i := 1341) (by decide +kernel), List.mem_of_getElem? (i := 1342) (by decide +kernel)⟩
theorem lw_p57 : lw_okq (⟨"SleepWavesModel", "sum", "()V"⟩, 67) := ⟨⟨by decide +kernel, by decide +kernel⟩, List.mem_of_getElem? (i := 1029) (by decide +kernel), List.mem_of_getElem? (i := 1345) (by decide +kernel), List.mem_of_getElem? (i := 1346) (by decide +kernel)⟩
theorem lw_p58 : lw_okq (⟨"SleepWavesModel", "term", "()V"⟩, 67) := ⟨⟨by decide +kernel, by decide +kernel⟩, List.mem_of_getElem? (i := 1029) (by decide +kernel), List.mem_of_getElem? (i := 1349) (by decide +kernel), List.mem_of_getElem? (i := 1350) (by decide +kernel)⟩
theorem lw_p59 : lw_okq (⟨"SleepWavesModel", "value", "()V"⟩, 67) := ⟨⟨by decide +kernel, by decide +kernel⟩, List.mem_of_getElem? (i := 1029) (by decide +kernel), List.mem_of_getElem? (i := 1353) (by decide +kernel), List.mem_of_getElem? (i := 1354) (by decide +kernel)⟩
theorem lw_p60 : lw_okq (⟨"SleepWavesModel", "isCounted", "(I)V"⟩, 67) := ⟨⟨by decide +kernel, by decide +kernel⟩, List.mem_of_getElem? (i := 1029) (by decide +kernel), List.mem_of_getElem? (i := 1357) (by decide +kernel), List.mem_of_getElem? (i := 1358) (by decide +kernel)⟩
theorem lw_p61 : lw_okq (⟨"SleepWavesModel", "entry", "(II)V"⟩, 67) := ⟨⟨by decide +kernel, by decide +kernel⟩, List.mem_of_getElem? (i := 1029) (by decide +kernel), List.mem_of_getElem? (i := 1361) (by decide +kernel), List.mem_of_getElem? (i := 1362) (by decide +kernel)⟩
theorem lw_p62 : lw_okq (⟨"SleepWavesModel", "answers", "(I)V"⟩, 67) := ⟨⟨by decide +kernel, by decide +kernel⟩, List.mem_of_getElem? (i := 1029) (by decide +kernel), List.mem_of_getElem? (i := 1376) (by decide +kernel), List.mem_of_getElem? (i := 1377) (by decide +kernel)⟩
theorem lw_p63 : lw_okq (⟨"SleepWavesModel", "top", "()I"⟩, 67) := ⟨⟨by decide +kernel, by decide +kernel⟩, List.mem_of_getElem? (i := 1029) (by decide +kernel), List.mem_of_getElem? (i := 1380) (by decide +kernel), List.mem_of_getElem? (i := 1381) (by decide +kernel)⟩
def lw_privs_4 : List (MethodName × Nat) := [(⟨"SleepWavesModel", "amount", "(II)I"⟩, 67), (⟨"SleepWavesModel", "digits", "(I)I"⟩, 67), (⟨"SleepWavesModel", "isDigit", "()Z"⟩, 67), (⟨"SleepWavesModel", "goesOn", "()Z"⟩, 67), (⟨"SleepWavesModel", "lawClause", "(I)V"⟩, 67), (⟨"SleepWavesModel", "test", "()V"⟩, 67), (⟨"SleepWavesModel", "fact", "()Z"⟩, 67), (⟨"SleepWavesModel", "opens", "(I)V"⟩, 67), (⟨"SleepWavesModel", "compared", "()V"⟩, 67), (⟨"SleepWavesModel", "sum", "()V"⟩, 67), (⟨"SleepWavesModel", "term", "()V"⟩, 67), (⟨"SleepWavesModel", "value", "()V"⟩, 67), (⟨"SleepWavesModel", "isCounted", "(I)V"⟩, 67), (⟨"SleepWavesModel", "entry", "(II)V"⟩, 67), (⟨"SleepWavesModel", "answers", "(I)V"⟩, 67), (⟨"SleepWavesModel", "top", "()I"⟩, 67)]
theorem lw_r4 : ∀ q ∈ lw_privs_4, lw_okq q := List.forall_mem_cons.mpr ⟨lw_p48, List.forall_mem_cons.mpr ⟨lw_p49, List.forall_mem_cons.mpr ⟨lw_p50, List.forall_mem_cons.mpr ⟨lw_p51, List.forall_mem_cons.mpr ⟨lw_p52, List.forall_mem_cons.mpr ⟨lw_p53, List.forall_mem_cons.mpr ⟨lw_p54, List.forall_mem_cons.mpr ⟨lw_p55, List.forall_mem_cons.mpr ⟨lw_p56, List.forall_mem_cons.mpr ⟨lw_p57, List.forall_mem_cons.mpr ⟨lw_p58, List.forall_mem_cons.mpr ⟨lw_p59, List.forall_mem_cons.mpr ⟨lw_p60, List.forall_mem_cons.mpr ⟨lw_p61, List.forall_mem_cons.mpr ⟨lw_p62, List.forall_mem_cons.mpr ⟨lw_p63, fun _ h => absurd h List.not_mem_nil⟩⟩⟩⟩⟩⟩⟩⟩⟩⟩⟩⟩⟩⟩⟩⟩
theorem lw_p64 : lw_okq (⟨"SleepWavesModel", "isLaw", "(I)Z"⟩, 67) := ⟨⟨by decide +kernel, by decide +kernel⟩, List.mem_of_getElem? (i := 1029) (by decide +kernel), List.mem_of_getElem? (i := 1390) (by decide +kernel), List.mem_of_getElem? (i := 1391) (by decide +kernel)⟩
theorem lw_p65 : lw_okq (⟨"SleepWavesModel", "quarter", "(I)V"⟩, 67) := ⟨⟨by decide +kernel, by decide +kernel⟩, List.mem_of_getElem? (i := 1029) (by decide +kernel), List.mem_of_getElem? (i := 1395) (by decide +kernel), List.mem_of_getElem? (i := 1396) (by decide +kernel)⟩
theorem lw_p66 : lw_okq (⟨"SleepWavesModel", "upSet", "()I"⟩, 67) := ⟨⟨by decide +kernel, by decide +kernel⟩, List.mem_of_getElem? (i := 1029) (by decide +kernel), List.mem_of_getElem? (i := 1399) (by decide +kernel), List.mem_of_getElem? (i := 1400) (by decide +kernel)⟩
theorem lw_p67 : lw_okq (⟨"SleepWavesModel", "lieDown", "(I)V"⟩, 67) := ⟨⟨by decide +kernel, by decide +kernel⟩, List.mem_of_getElem? (i := 1029) (by decide +kernel), List.mem_of_getElem? (i := 1403) (by decide +kernel), List.mem_of_getElem? (i := 1404) (by decide +kernel)⟩
theorem lw_p68 : lw_okq (⟨"SleepWavesModel", "hasDuty", "(I)Z"⟩, 67) := ⟨⟨by decide +kernel, by decide +kernel⟩, List.mem_of_getElem? (i := 1029) (by decide +kernel), List.mem_of_getElem? (i := 1407) (by decide +kernel), List.mem_of_getElem? (i := 1408) (by decide +kernel)⟩
theorem lw_p69 : lw_okq (⟨"SleepWavesModel", "isFeast", "()Z"⟩, 67) := ⟨⟨by decide +kernel, by decide +kernel⟩, List.mem_of_getElem? (i := 1029) (by decide +kernel), List.mem_of_getElem? (i := 1411) (by decide +kernel), List.mem_of_getElem? (i := 1412) (by decide +kernel)⟩
theorem lw_p70 : lw_okq (⟨"SleepWavesModel", "isFree", "(I)Z"⟩, 67) := ⟨⟨by decide +kernel, by decide +kernel⟩, List.mem_of_getElem? (i := 1029) (by decide +kernel), List.mem_of_getElem? (i := 1415) (by decide +kernel), List.mem_of_getElem? (i := 1416) (by decide +kernel)⟩
theorem lw_p71 : lw_okq (⟨"SleepWavesModel", "some", "(III)Z"⟩, 67) := ⟨⟨by decide +kernel, by decide +kernel⟩, List.mem_of_getElem? (i := 1029) (by decide +kernel), List.mem_of_getElem? (i := 1419) (by decide +kernel), List.mem_of_getElem? (i := 1420) (by decide +kernel)⟩
theorem lw_p72 : lw_okq (⟨"SleepWavesModel", "menOf", "(I)I"⟩, 67) := ⟨⟨by decide +kernel, by decide +kernel⟩, List.mem_of_getElem? (i := 1029) (by decide +kernel), List.mem_of_getElem? (i := 1423) (by decide +kernel), List.mem_of_getElem? (i := 1424) (by decide +kernel)⟩
theorem lw_p73 : lw_okq (⟨"SleepWavesModel", "toneNow", "()I"⟩, 67) := ⟨⟨by decide +kernel, by decide +kernel⟩, List.mem_of_getElem? (i := 1029) (by decide +kernel), List.mem_of_getElem? (i := 1430) (by decide +kernel), List.mem_of_getElem? (i := 1431) (by decide +kernel)⟩
theorem lw_p74 : lw_okq (⟨"SleepWavesModel", "answer", "(III)J"⟩, 67) := ⟨⟨by decide +kernel, by decide +kernel⟩, List.mem_of_getElem? (i := 1029) (by decide +kernel), List.mem_of_getElem? (i := 1434) (by decide +kernel), List.mem_of_getElem? (i := 1435) (by decide +kernel)⟩
theorem lw_p75 : lw_okq (⟨"SleepWavesModel", "isWarm", "(I)Z"⟩, 67) := ⟨⟨by decide +kernel, by decide +kernel⟩, List.mem_of_getElem? (i := 1029) (by decide +kernel), List.mem_of_getElem? (i := 1444) (by decide +kernel), List.mem_of_getElem? (i := 1445) (by decide +kernel)⟩
theorem lw_p76 : lw_okq (⟨"SleepWavesModel", "bellNow", "()I"⟩, 67) := ⟨⟨by decide +kernel, by decide +kernel⟩, List.mem_of_getElem? (i := 1029) (by decide +kernel), List.mem_of_getElem? (i := 1448) (by decide +kernel), List.mem_of_getElem? (i := 1449) (by decide +kernel)⟩
theorem lw_p77 : lw_okq (⟨"SleepWavesModel", "changes", "(IIII)V"⟩, 67) := ⟨⟨by decide +kernel, by decide +kernel⟩, List.mem_of_getElem? (i := 1029) (by decide +kernel), List.mem_of_getElem? (i := 1452) (by decide +kernel), List.mem_of_getElem? (i := 1453) (by decide +kernel)⟩
theorem lw_p78 : lw_okq (⟨"SleepWavesModel", "wakes", "(II)V"⟩, 67) := ⟨⟨by decide +kernel, by decide +kernel⟩, List.mem_of_getElem? (i := 1029) (by decide +kernel), List.mem_of_getElem? (i := 1456) (by decide +kernel), List.mem_of_getElem? (i := 1457) (by decide +kernel)⟩
theorem lw_p79 : lw_okq (⟨"SleepWavesModel", "dutyNow", "(I)I"⟩, 67) := ⟨⟨by decide +kernel, by decide +kernel⟩, List.mem_of_getElem? (i := 1029) (by decide +kernel), List.mem_of_getElem? (i := 1460) (by decide +kernel), List.mem_of_getElem? (i := 1461) (by decide +kernel)⟩
def lw_privs_5 : List (MethodName × Nat) := [(⟨"SleepWavesModel", "isLaw", "(I)Z"⟩, 67), (⟨"SleepWavesModel", "quarter", "(I)V"⟩, 67), (⟨"SleepWavesModel", "upSet", "()I"⟩, 67), (⟨"SleepWavesModel", "lieDown", "(I)V"⟩, 67), (⟨"SleepWavesModel", "hasDuty", "(I)Z"⟩, 67), (⟨"SleepWavesModel", "isFeast", "()Z"⟩, 67), (⟨"SleepWavesModel", "isFree", "(I)Z"⟩, 67), (⟨"SleepWavesModel", "some", "(III)Z"⟩, 67), (⟨"SleepWavesModel", "menOf", "(I)I"⟩, 67), (⟨"SleepWavesModel", "toneNow", "()I"⟩, 67), (⟨"SleepWavesModel", "answer", "(III)J"⟩, 67), (⟨"SleepWavesModel", "isWarm", "(I)Z"⟩, 67), (⟨"SleepWavesModel", "bellNow", "()I"⟩, 67), (⟨"SleepWavesModel", "changes", "(IIII)V"⟩, 67), (⟨"SleepWavesModel", "wakes", "(II)V"⟩, 67), (⟨"SleepWavesModel", "dutyNow", "(I)I"⟩, 67)]
theorem lw_r5 : ∀ q ∈ lw_privs_5, lw_okq q := List.forall_mem_cons.mpr ⟨lw_p64, List.forall_mem_cons.mpr ⟨lw_p65, List.forall_mem_cons.mpr ⟨lw_p66, List.forall_mem_cons.mpr ⟨lw_p67, List.forall_mem_cons.mpr ⟨lw_p68, List.forall_mem_cons.mpr ⟨lw_p69, List.forall_mem_cons.mpr ⟨lw_p70, List.forall_mem_cons.mpr ⟨lw_p71, List.forall_mem_cons.mpr ⟨lw_p72, List.forall_mem_cons.mpr ⟨lw_p73, List.forall_mem_cons.mpr ⟨lw_p74, List.forall_mem_cons.mpr ⟨lw_p75, List.forall_mem_cons.mpr ⟨lw_p76, List.forall_mem_cons.mpr ⟨lw_p77, List.forall_mem_cons.mpr ⟨lw_p78, List.forall_mem_cons.mpr ⟨lw_p79, fun _ h => absurd h List.not_mem_nil⟩⟩⟩⟩⟩⟩⟩⟩⟩⟩⟩⟩⟩⟩⟩⟩
theorem lw_p80 : lw_okq (⟨"SleepWavesModel", "snores", "()V"⟩, 67) := ⟨⟨by decide +kernel, by decide +kernel⟩, List.mem_of_getElem? (i := 1029) (by decide +kernel), List.mem_of_getElem? (i := 1464) (by decide +kernel), List.mem_of_getElem? (i := 1465) (by decide +kernel)⟩
theorem lw_p81 : lw_okq (⟨"SleepWavesModel", "draws", "(I)I"⟩, 67) := ⟨⟨by decide +kernel, by decide +kernel⟩, List.mem_of_getElem? (i := 1029) (by decide +kernel), List.mem_of_getElem? (i := 1468) (by decide +kernel), List.mem_of_getElem? (i := 1469) (by decide +kernel)⟩
theorem lw_p82 : lw_okq (⟨"SleepWavesModel", "neighbour", "(I)I"⟩, 67) := ⟨⟨by decide +kernel, by decide +kernel⟩, List.mem_of_getElem? (i := 1029) (by decide +kernel), List.mem_of_getElem? (i := 1476) (by decide +kernel), List.mem_of_getElem? (i := 1477) (by decide +kernel)⟩
theorem lw_p83 : lw_okq (⟨"SleepWavesModel", "isCompany", "(I)Z"⟩, 67) := ⟨⟨by decide +kernel, by decide +kernel⟩, List.mem_of_getElem? (i := 1029) (by decide +kernel), List.mem_of_getElem? (i := 1484) (by decide +kernel), List.mem_of_getElem? (i := 1485) (by decide +kernel)⟩
theorem lw_p84 : lw_okq (⟨"SleepWavesModel", "tries", "(IIII)I"⟩, 67) := ⟨⟨by decide +kernel, by decide +kernel⟩, List.mem_of_getElem? (i := 1029) (by decide +kernel), List.mem_of_getElem? (i := 1511) (by decide +kernel), List.mem_of_getElem? (i := 1512) (by decide +kernel)⟩
theorem lw_p85 : lw_okq (⟨"SleepWavesModel", "keeps", "()V"⟩, 67) := ⟨⟨by decide +kernel, by decide +kernel⟩, List.mem_of_getElem? (i := 1029) (by decide +kernel), List.mem_of_getElem? (i := 1515) (by decide +kernel), List.mem_of_getElem? (i := 1516) (by decide +kernel)⟩
theorem lw_p86 : lw_okq (⟨"SleepWavesModel", "laysBack", "()V"⟩, 67) := ⟨⟨by decide +kernel, by decide +kernel⟩, List.mem_of_getElem? (i := 1029) (by decide +kernel), List.mem_of_getElem? (i := 1520) (by decide +kernel), List.mem_of_getElem? (i := 1521) (by decide +kernel)⟩
theorem lw_p87 : lw_okq (⟨"SleepWavesModel", "turns", "(IIIII)Z"⟩, 67) := ⟨⟨by decide +kernel, by decide +kernel⟩, List.mem_of_getElem? (i := 1029) (by decide +kernel), List.mem_of_getElem? (i := 1533) (by decide +kernel), List.mem_of_getElem? (i := 1534) (by decide +kernel)⟩
theorem lw_p88 : lw_okq (⟨"SleepWavesModel", "mutineers", "(IIII)I"⟩, 67) := ⟨⟨by decide +kernel, by decide +kernel⟩, List.mem_of_getElem? (i := 1029) (by decide +kernel), List.mem_of_getElem? (i := 1541) (by decide +kernel), List.mem_of_getElem? (i := 1542) (by decide +kernel)⟩
theorem lw_p89 : lw_okq (⟨"SleepWavesModel", "wonBy", "(II)I"⟩, 67) := ⟨⟨by decide +kernel, by decide +kernel⟩, List.mem_of_getElem? (i := 1029) (by decide +kernel), List.mem_of_getElem? (i := 1545) (by decide +kernel), List.mem_of_getElem? (i := 1546) (by decide +kernel)⟩
theorem lw_p90 : lw_okq (⟨"SleepWavesModel", "dreams", "(IIII)I"⟩, 67) := ⟨⟨by decide +kernel, by decide +kernel⟩, List.mem_of_getElem? (i := 1029) (by decide +kernel), List.mem_of_getElem? (i := 1557) (by decide +kernel), List.mem_of_getElem? (i := 1558) (by decide +kernel)⟩
theorem lw_p91 : lw_okq (⟨"SleepWavesModel", "tellsOn", "(I)I"⟩, 67) := ⟨⟨by decide +kernel, by decide +kernel⟩, List.mem_of_getElem? (i := 1029) (by decide +kernel), List.mem_of_getElem? (i := 1561) (by decide +kernel), List.mem_of_getElem? (i := 1562) (by decide +kernel)⟩
theorem lw_p92 : lw_okq (⟨"SleepWavesModel", "swaps", "(II)V"⟩, 67) := ⟨⟨by decide +kernel, by decide +kernel⟩, List.mem_of_getElem? (i := 1029) (by decide +kernel), List.mem_of_getElem? (i := 1601) (by decide +kernel), List.mem_of_getElem? (i := 1602) (by decide +kernel)⟩
theorem lw_p93 : lw_okq (⟨"SleepWavesModel", "carriesAll", "(IZ)V"⟩, 67) := ⟨⟨by decide +kernel, by decide +kernel⟩, List.mem_of_getElem? (i := 1029) (by decide +kernel), List.mem_of_getElem? (i := 1626) (by decide +kernel), List.mem_of_getElem? (i := 1627) (by decide +kernel)⟩
theorem lw_p94 : lw_okq (⟨"SleepWavesModel", "carry", "([I)V"⟩, 67) := ⟨⟨by decide +kernel, by decide +kernel⟩, List.mem_of_getElem? (i := 1029) (by decide +kernel), List.mem_of_getElem? (i := 1630) (by decide +kernel), List.mem_of_getElem? (i := 1631) (by decide +kernel)⟩
def lw_privs_6 : List (MethodName × Nat) := [(⟨"SleepWavesModel", "snores", "()V"⟩, 67), (⟨"SleepWavesModel", "draws", "(I)I"⟩, 67), (⟨"SleepWavesModel", "neighbour", "(I)I"⟩, 67), (⟨"SleepWavesModel", "isCompany", "(I)Z"⟩, 67), (⟨"SleepWavesModel", "tries", "(IIII)I"⟩, 67), (⟨"SleepWavesModel", "keeps", "()V"⟩, 67), (⟨"SleepWavesModel", "laysBack", "()V"⟩, 67), (⟨"SleepWavesModel", "turns", "(IIIII)Z"⟩, 67), (⟨"SleepWavesModel", "mutineers", "(IIII)I"⟩, 67), (⟨"SleepWavesModel", "wonBy", "(II)I"⟩, 67), (⟨"SleepWavesModel", "dreams", "(IIII)I"⟩, 67), (⟨"SleepWavesModel", "tellsOn", "(I)I"⟩, 67), (⟨"SleepWavesModel", "swaps", "(II)V"⟩, 67), (⟨"SleepWavesModel", "carriesAll", "(IZ)V"⟩, 67), (⟨"SleepWavesModel", "carry", "([I)V"⟩, 67)]
theorem lw_r6 : ∀ q ∈ lw_privs_6, lw_okq q := List.forall_mem_cons.mpr ⟨lw_p80, List.forall_mem_cons.mpr ⟨lw_p81, List.forall_mem_cons.mpr ⟨lw_p82, List.forall_mem_cons.mpr ⟨lw_p83, List.forall_mem_cons.mpr ⟨lw_p84, List.forall_mem_cons.mpr ⟨lw_p85, List.forall_mem_cons.mpr ⟨lw_p86, List.forall_mem_cons.mpr ⟨lw_p87, List.forall_mem_cons.mpr ⟨lw_p88, List.forall_mem_cons.mpr ⟨lw_p89, List.forall_mem_cons.mpr ⟨lw_p90, List.forall_mem_cons.mpr ⟨lw_p91, List.forall_mem_cons.mpr ⟨lw_p92, List.forall_mem_cons.mpr ⟨lw_p93, List.forall_mem_cons.mpr ⟨lw_p94, fun _ h => absurd h List.not_mem_nil⟩⟩⟩⟩⟩⟩⟩⟩⟩⟩⟩⟩⟩⟩⟩
def lw_privs : List (MethodName × Nat) := lw_privs_1 ++ (lw_privs_2 ++ (lw_privs_3 ++ (lw_privs_4 ++ (lw_privs_5 ++ (lw_privs_6)))))
def lw_tbl : List Cond := k2_sels lw_privs ++ tables_1
theorem lw_privs_ok : ∀ q ∈ lw_privs, lw_okq q := by
  show ∀ q ∈ lw_privs_1 ++ (lw_privs_2 ++ (lw_privs_3 ++ (lw_privs_4 ++ (lw_privs_5 ++ (lw_privs_6))))), lw_okq q
  exact List.forall_mem_append.mpr ⟨lw_r1, List.forall_mem_append.mpr ⟨lw_r2, List.forall_mem_append.mpr ⟨lw_r3, List.forall_mem_append.mpr ⟨lw_r4, List.forall_mem_append.mpr ⟨lw_r5, lw_r6⟩⟩⟩⟩⟩
-- ===== end of PART A; then your names; then what follows =====
/-! ===== BEGIN words of one list among another's, by their places ===== -/
theorem goodIn_r {big : List Cond} (ws : List Cond) (ps : List Nat) (hp : ws = ps.filterMap (fun i => big[i]?)) (h : ws.all goodWord = true) : GoodIn big ws := by
  intro w hw
  have h1 := List.all_eq_true.mp h w hw
  rw [hp] at hw
  obtain ⟨i, -, hi⟩ := List.mem_filterMap.mp hw
  have hm : w ∈ big := by first | exact List.mem_of_getElem? hi | exact List.getElem?_mem hi
  exact ⟨hm, good_of_word h1⟩
theorem goodIn_app {big a b : List Cond} (ha : GoodIn big a) (hb : GoodIn big b) : GoodIn big (a ++ b) := fun w h => (List.mem_append.mp h).elim (ha w) (hb w)
theorem goodIn_ca {big a b : List Cond} {c : Cond} (ha : GoodIn big (c :: a)) (hb : GoodIn big b) : GoodIn big (c :: (a ++ b)) := fun w h => (List.mem_cons.mp h).elim (fun e => ha w (List.mem_cons.mpr (Or.inl e))) (fun h => (List.mem_append.mp h).elim (fun h => ha w (List.mem_cons.mpr (Or.inr h))) (hb w))
theorem goodIn_sub {big ws : List Cond} (hm : ∀ w ∈ ws, w ∈ big) (h : ws.all goodWord = true) : GoodIn big ws := fun w hw => ⟨hm w hw, good_of_word (List.all_eq_true.mp h w hw)⟩
/-! ===== END ===== -/

/-! ===== BEGIN printed: names, fields, word lists, decode rows ===== -/
def RX0 : String := "SleepWaves$Camp"
def TX0 : u_T := fun k => match k with
  | 0 => ("SleepWaves$Camp", "companies", "I", false)
  | 1 => ("SleepWaves$Camp", "men", "[I", true)
  | 2 => ("SleepWaves$Camp", "hall", "[I", true)
  | 3 => ("SleepWaves$Camp", "bed", "[I", true)
  | 4 => ("SleepWaves$Camp", "snore", "[I", true)
  | 5 => ("SleepWaves$Camp", "bells", "I", false)
  | 6 => ("SleepWaves$Camp", "bellQuarter", "[I", true)
  | 7 => ("SleepWaves$Camp", "bellTone", "[I", true)
  | 8 => ("SleepWaves$Camp", "duties", "I", false)
  | 9 => ("SleepWaves$Camp", "dutyCompany", "[I", true)
  | 10 => ("SleepWaves$Camp", "dutyFrom", "[I", true)
  | 11 => ("SleepWaves$Camp", "dutyTill", "[I", true)
  | _ => ("SleepWaves$Camp", "watch", "I", false)
def tyX0 : Nat → FieldType := fun k => match k with
  | 0 => .int
  | 1 => .array .int
  | 2 => .array .int
  | 3 => .array .int
  | 4 => .array .int
  | 5 => .int
  | 6 => .array .int
  | 7 => .array .int
  | 8 => .int
  | 9 => .array .int
  | 10 => .array .int
  | 11 => .array .int
  | _ => .int
abbrev wsX00 : List Cond := u_ws RX0 TX0 13
theorem nmX0 : ∀ a, a < 13 → ∀ b, b < 13 → a ≠ b → (TX0 a).2.1 ≠ (TX0 b).2.1 := by decide +kernel
theorem tyX0_ok : ∀ k, k < 13 → parseFieldDescriptor (TX0 k).2.2.1 = some (tyX0 k) := by decide +kernel
abbrev cX0_init : ByteArray := prog_2_method_1_code
def yX0_init : MethodName := ⟨RX0, "<init>", "()V"⟩
abbrev cX0_clear : ByteArray := prog_2_method_2_code
def yX0_clear : MethodName := ⟨RX0, "clear", "()V"⟩
abbrev cX0_copyFrom : ByteArray := prog_2_method_3_code
def yX0_copyFrom : MethodName := ⟨RX0, "copyFrom", "(LSleepWaves$Camp;)V"⟩
abbrev cX0_firstBell : ByteArray := prog_2_method_4_code
def yX0_firstBell : MethodName := ⟨RX0, "firstBell", "(I)I"⟩
abbrev cX0_firstDuty : ByteArray := prog_2_method_5_code
def yX0_firstDuty : MethodName := ⟨RX0, "firstDuty", "(II)I"⟩
abbrev cX0_menOf : ByteArray := prog_2_method_6_code
def yX0_menOf : MethodName := ⟨RX0, "menOf", "(I)I"⟩
abbrev cX0_dropBell : ByteArray := prog_2_method_7_code
def yX0_dropBell : MethodName := ⟨RX0, "dropBell", "(I)V"⟩
abbrev cX0_exchangeBeds : ByteArray := prog_2_method_8_code
def yX0_exchangeBeds : MethodName := ⟨RX0, "exchangeBeds", "(II)V"⟩
def RX1 : String := "SleepWaves$CampReader"
def TX1 : u_T := fun k => match k with
  | 0 => ("SleepWaves$CampReader", "scanner", "LSleepWaves$Scanner;", true)
  | 1 => ("SleepWaves$CampReader", "camp", "LSleepWaves$Camp;", false)
  | 2 => ("SleepWaves$CampReader", "isFull", "Z", false)
  | _ => ("SleepWaves$CampReader", "watchTold", "Z", false)
def tyX1 : Nat → FieldType := fun k => match k with
  | 0 => .object "SleepWaves$Scanner"
  | 1 => .object "SleepWaves$Camp"
  | 2 => .boolean
  | _ => .boolean
abbrev wsX10 : List Cond := u_ws RX1 TX1 4
theorem nmX1 : ∀ a, a < 4 → ∀ b, b < 4 → a ≠ b → (TX1 a).2.1 ≠ (TX1 b).2.1 := by decide +kernel
theorem tyX1_ok : ∀ k, k < 4 → parseFieldDescriptor (TX1 k).2.2.1 = some (tyX1 k) := by decide +kernel
abbrev cX1_init : ByteArray := prog_3_method_1_code
def yX1_init : MethodName := ⟨RX1, "<init>", "(LSleepWaves$Scanner;)V"⟩
abbrev cX1_readCamp : ByteArray := prog_3_method_2_code
def yX1_readCamp : MethodName := ⟨RX1, "readCamp", "(LSleepWaves$Camp;)I"⟩
abbrev cX1_clauseFollows : ByteArray := prog_3_method_3_code
def yX1_clauseFollows : MethodName := ⟨RX1, "clauseFollows", "()Z"⟩
abbrev cX1_isOneTooMany : ByteArray := prog_3_method_4_code
def yX1_isOneTooMany : MethodName := ⟨RX1, "isOneTooMany", "(Z)Z"⟩
abbrev cX1_readCompany : ByteArray := prog_3_method_5_code
def yX1_readCompany : MethodName := ⟨RX1, "readCompany", "()V"⟩
abbrev cX1_readBell : ByteArray := prog_3_method_6_code
def yX1_readBell : MethodName := ⟨RX1, "readBell", "()V"⟩
abbrev cX1_readDuty : ByteArray := prog_3_method_7_code
def yX1_readDuty : MethodName := ⟨RX1, "readDuty", "()V"⟩
abbrev cX1_readWatch : ByteArray := prog_3_method_8_code
def yX1_readWatch : MethodName := ⟨RX1, "readWatch", "()V"⟩
abbrev cX1_number : ByteArray := prog_3_method_9_code
def yX1_number : MethodName := ⟨RX1, "number", "(II)I"⟩
def RX2 : String := "SleepWaves$Forecast"
def TX2 : u_T := fun k => match k with
  | 0 => ("SleepWaves$Forecast", "live", "LSleepWaves$State;", true)
  | 1 => ("SleepWaves$Forecast", "probe", "LSleepWaves$State;", true)
  | 2 => ("SleepWaves$Forecast", "base", "LSleepWaves$State;", true)
  | 3 => ("SleepWaves$Forecast", "slept", "[I", true)
  | _ => ("SleepWaves$Forecast", "found", "[I", true)
def tyX2 : Nat → FieldType := fun k => match k with
  | 0 => .object "SleepWaves$State"
  | 1 => .object "SleepWaves$State"
  | 2 => .object "SleepWaves$State"
  | 3 => .array .int
  | _ => .array .int
abbrev wsX20 : List Cond := u_ws RX2 TX2 5
theorem nmX2 : ∀ a, a < 5 → ∀ b, b < 5 → a ≠ b → (TX2 a).2.1 ≠ (TX2 b).2.1 := by decide +kernel
theorem tyX2_ok : ∀ k, k < 5 → parseFieldDescriptor (TX2 k).2.2.1 = some (tyX2 k) := by decide +kernel
abbrev cX2_init : ByteArray := prog_4_method_1_code
def yX2_init : MethodName := ⟨RX2, "<init>", "(LSleepWaves$State;)V"⟩
abbrev cX2_restart : ByteArray := prog_4_method_2_code
def yX2_restart : MethodName := ⟨RX2, "restart", "()V"⟩
abbrev cX2_keep : ByteArray := prog_4_method_3_code
def yX2_keep : MethodName := ⟨RX2, "keep", "(III)V"⟩
abbrev cX2_play : ByteArray := prog_4_method_4_code
def yX2_play : MethodName := ⟨RX2, "play", "(LSleepWaves$Law;I)V"⟩
abbrev cX2_playStruck : ByteArray := prog_4_method_5_code
def yX2_playStruck : MethodName := ⟨RX2, "playStruck", "(LSleepWaves$Law;II)V"⟩
abbrev cX2_outcome : ByteArray := prog_4_method_6_code
def yX2_outcome : MethodName := ⟨RX2, "outcome", "(I)I"⟩
abbrev cX2_findTurn : ByteArray := prog_4_method_7_code
def yX2_findTurn : MethodName := ⟨RX2, "findTurn", "(LSleepWaves$Law;II)V"⟩
abbrev cX2_findHarm : ByteArray := prog_4_method_8_code
def yX2_findHarm : MethodName := ⟨RX2, "findHarm", "(LSleepWaves$Law;I)V"⟩
abbrev cX2_findFair : ByteArray := prog_4_method_9_code
def yX2_findFair : MethodName := ⟨RX2, "findFair", "(LSleepWaves$Law;I)V"⟩
abbrev cX2_findSwap : ByteArray := prog_4_method_10_code
def yX2_findSwap : MethodName := ⟨RX2, "findSwap", "(LSleepWaves$Law;I)V"⟩
abbrev cX2_findStrike : ByteArray := prog_4_method_11_code
def yX2_findStrike : MethodName := ⟨RX2, "findStrike", "(LSleepWaves$Law;I)V"⟩
def RX3 : String := "SleepWaves$Gossip"
def TX3 : u_T := fun k => match k with
  | 0 => ("SleepWaves$Gossip", "live", "LSleepWaves$State;", true)
  | 1 => ("SleepWaves$Gossip", "probe", "LSleepWaves$State;", true)
  | _ => ("SleepWaves$Gossip", "ups", "[I", true)
def tyX3 : Nat → FieldType := fun k => match k with
  | 0 => .object "SleepWaves$State"
  | 1 => .object "SleepWaves$State"
  | _ => .array .int
abbrev wsX30 : List Cond := u_ws RX3 TX3 3
theorem nmX3 : ∀ a, a < 3 → ∀ b, b < 3 → a ≠ b → (TX3 a).2.1 ≠ (TX3 b).2.1 := by decide +kernel
theorem tyX3_ok : ∀ k, k < 3 → parseFieldDescriptor (TX3 k).2.2.1 = some (tyX3 k) := by decide +kernel
abbrev cX3_init : ByteArray := prog_5_method_1_code
def yX3_init : MethodName := ⟨RX3, "<init>", "(LSleepWaves$State;)V"⟩
abbrev cX3_foresee : ByteArray := prog_5_method_2_code
def yX3_foresee : MethodName := ⟨RX3, "foresee", "(LSleepWaves$Law;I)V"⟩
abbrev cX3_menOfMutiny : ByteArray := prog_5_method_3_code
def yX3_menOfMutiny : MethodName := ⟨RX3, "menOfMutiny", "(III)I"⟩
abbrev cX3_mutinyOn : ByteArray := prog_5_method_4_code
def yX3_mutinyOn : MethodName := ⟨RX3, "mutinyOn", "(II)I"⟩
abbrev cX3_firstToWin : ByteArray := prog_5_method_5_code
def yX3_firstToWin : MethodName := ⟨RX3, "firstToWin", "(II)I"⟩
abbrev cX3_dreamOn : ByteArray := prog_5_method_6_code
def yX3_dreamOn : MethodName := ⟨RX3, "dreamOn", "(II)I"⟩
abbrev cX3_alike : ByteArray := prog_5_method_7_code
def yX3_alike : MethodName := ⟨RX3, "alike", "([II)I"⟩
def RX4 : String := "SleepWaves$Law"
def TX4 : u_T := fun k => match k with
  | 0 => ("SleepWaves$Law", "clauses", "I", false)
  | 1 => ("SleepWaves$Law", "isSleep", "[Z", true)
  | 2 => ("SleepWaves$Law", "begins", "[I", true)
  | 3 => ("SleepWaves$Law", "size", "I", false)
  | 4 => ("SleepWaves$Law", "code", "[I", true)
  | 5 => ("SleepWaves$Law", "args", "[I", true)
  | _ => ("SleepWaves$Law", "stack", "[J", true)
def tyX4 : Nat → FieldType := fun k => match k with
  | 0 => .int
  | 1 => .array .boolean
  | 2 => .array .int
  | 3 => .int
  | 4 => .array .int
  | 5 => .array .int
  | _ => .array .long
abbrev wsX40 : List Cond := u_ws RX4 TX4 7
theorem nmX4 : ∀ a, a < 7 → ∀ b, b < 7 → a ≠ b → (TX4 a).2.1 ≠ (TX4 b).2.1 := by decide +kernel
theorem tyX4_ok : ∀ k, k < 7 → parseFieldDescriptor (TX4 k).2.2.1 = some (tyX4 k) := by decide +kernel
abbrev cX4_init : ByteArray := prog_6_method_1_code
def yX4_init : MethodName := ⟨RX4, "<init>", "()V"⟩
abbrev cX4_clear : ByteArray := prog_6_method_2_code
def yX4_clear : MethodName := ⟨RX4, "clear", "()V"⟩
abbrev cX4_isFull : ByteArray := prog_6_method_3_code
def yX4_isFull : MethodName := ⟨RX4, "isFull", "()Z"⟩
abbrev cX4_openClause : ByteArray := prog_6_method_4_code
def yX4_openClause : MethodName := ⟨RX4, "openClause", "(Z)V"⟩
abbrev cX4_closeClause : ByteArray := prog_6_method_5_code
def yX4_closeClause : MethodName := ⟨RX4, "closeClause", "()V"⟩
abbrev cX4_emit : ByteArray := prog_6_method_6_code
def yX4_emit : MethodName := ⟨RX4, "emit", "(II)V"⟩
abbrev cX4_holds : ByteArray := prog_6_method_7_code
def yX4_holds : MethodName := ⟨RX4, "holds", "(ZLSleepWaves$State;I)Z"⟩
abbrev cX4_clauseHolds : ByteArray := prog_6_method_8_code
def yX4_clauseHolds : MethodName := ⟨RX4, "clauseHolds", "(ILSleepWaves$State;I)Z"⟩
abbrev cX4_combine : ByteArray := prog_6_method_9_code
def yX4_combine : MethodName := ⟨RX4, "combine", "(IJJ)J"⟩
def RX5 : String := "SleepWaves$LawReader"
def TX5 : u_T := fun k => match k with
  | 0 => ("SleepWaves$LawReader", "scanner", "LSleepWaves$Scanner;", true)
  | 1 => ("SleepWaves$LawReader", "target", "LSleepWaves$Law;", false)
  | 2 => ("SleepWaves$LawReader", "expected", "I", false)
  | 3 => ("SleepWaves$LawReader", "signed", "Z", false)
  | 4 => ("SleepWaves$LawReader", "parts", "I", false)
  | 5 => ("SleepWaves$LawReader", "held", "[I", true)
  | 6 => ("SleepWaves$LawReader", "heldCount", "I", false)
  | 7 => ("SleepWaves$LawReader", "brackets", "I", false)
  | _ => ("SleepWaves$LawReader", "nots", "I", false)
def tyX5 : Nat → FieldType := fun k => match k with
  | 0 => .object "SleepWaves$Scanner"
  | 1 => .object "SleepWaves$Law"
  | 2 => .int
  | 3 => .boolean
  | 4 => .int
  | 5 => .array .int
  | 6 => .int
  | 7 => .int
  | _ => .int
abbrev wsX50 : List Cond := u_ws RX5 TX5 9
theorem nmX5 : ∀ a, a < 9 → ∀ b, b < 9 → a ≠ b → (TX5 a).2.1 ≠ (TX5 b).2.1 := by decide +kernel
theorem tyX5_ok : ∀ k, k < 9 → parseFieldDescriptor (TX5 k).2.2.1 = some (tyX5 k) := by decide +kernel
abbrev cX5_init : ByteArray := prog_7_method_1_code
def yX5_init : MethodName := ⟨RX5, "<init>", "(LSleepWaves$Scanner;)V"⟩
abbrev cX5_readLaw : ByteArray := prog_7_method_2_code
def yX5_readLaw : MethodName := ⟨RX5, "readLaw", "(LSleepWaves$Law;)I"⟩
abbrev cX5_take : ByteArray := prog_7_method_3_code
def yX5_take : MethodName := ⟨RX5, "take", "()V"⟩
abbrev cX5_takeClause : ByteArray := prog_7_method_4_code
def yX5_takeClause : MethodName := ⟨RX5, "takeClause", "()V"⟩
abbrev cX5_takeFact : ByteArray := prog_7_method_5_code
def yX5_takeFact : MethodName := ⟨RX5, "takeFact", "()V"⟩
abbrev cX5_takeValue : ByteArray := prog_7_method_6_code
def yX5_takeValue : MethodName := ⟨RX5, "takeValue", "()V"⟩
abbrev cX5_isPartTooMany : ByteArray := prog_7_method_7_code
def yX5_isPartTooMany : MethodName := ⟨RX5, "isPartTooMany", "()Z"⟩
abbrev cX5_takeOperator : ByteArray := prog_7_method_8_code
def yX5_takeOperator : MethodName := ⟨RX5, "takeOperator", "()V"⟩
abbrev cX5_takeJoint : ByteArray := prog_7_method_9_code
def yX5_takeJoint : MethodName := ⟨RX5, "takeJoint", "()V"⟩
abbrev cX5_hold : ByteArray := prog_7_method_10_code
def yX5_hold : MethodName := ⟨RX5, "hold", "(I)V"⟩
abbrev cX5_release : ByteArray := prog_7_method_11_code
def yX5_release : MethodName := ⟨RX5, "release", "(I)V"⟩
abbrev cX5_closeBracket : ByteArray := prog_7_method_12_code
def yX5_closeBracket : MethodName := ⟨RX5, "closeBracket", "()V"⟩
abbrev cX5_wordNumber : ByteArray := prog_7_method_13_code
def yX5_wordNumber : MethodName := ⟨RX5, "wordNumber", "()I"⟩
abbrev cX5_operatorOf : ByteArray := prog_7_method_14_code
def yX5_operatorOf : MethodName := ⟨RX5, "operatorOf", "(I)I"⟩
def RX6 : String := "SleepWaves$Log"
def TX6 : u_T := fun k => match k with
  | 0 => ("SleepWaves$Log", "ups", "[I", true)
  | 1 => ("SleepWaves$Log", "newest", "I", false)
  | _ => ("SleepWaves$Log", "size", "I", false)
def tyX6 : Nat → FieldType := fun k => match k with
  | 0 => .array .int
  | 1 => .int
  | _ => .int
abbrev wsX60 : List Cond := u_ws RX6 TX6 3
theorem nmX6 : ∀ a, a < 3 → ∀ b, b < 3 → a ≠ b → (TX6 a).2.1 ≠ (TX6 b).2.1 := by decide +kernel
theorem tyX6_ok : ∀ k, k < 3 → parseFieldDescriptor (TX6 k).2.2.1 = some (tyX6 k) := by decide +kernel
abbrev cX6_init : ByteArray := prog_8_method_1_code
def yX6_init : MethodName := ⟨RX6, "<init>", "()V"⟩
abbrev cX6_clear : ByteArray := prog_8_method_2_code
def yX6_clear : MethodName := ⟨RX6, "clear", "()V"⟩
abbrev cX6_copyFrom : ByteArray := prog_8_method_3_code
def yX6_copyFrom : MethodName := ⟨RX6, "copyFrom", "(LSleepWaves$Log;)V"⟩
abbrev cX6_add : ByteArray := prog_8_method_4_code
def yX6_add : MethodName := ⟨RX6, "add", "(I)V"⟩
abbrev cX6_upAgo : ByteArray := prog_8_method_5_code
def yX6_upAgo : MethodName := ⟨RX6, "upAgo", "(I)I"⟩
abbrev cX6_quartersWith : ByteArray := prog_8_method_6_code
def yX6_quartersWith : MethodName := ⟨RX6, "quartersWith", "(I)I"⟩
abbrev cX6_longestRun : ByteArray := prog_8_method_7_code
def yX6_longestRun : MethodName := ⟨RX6, "longestRun", "(I)I"⟩
abbrev cX6_quartersOf : ByteArray := prog_8_method_8_code
def yX6_quartersOf : MethodName := ⟨RX6, "quartersOf", "(I)I"⟩
abbrev cX6_lastOf : ByteArray := prog_8_method_9_code
def yX6_lastOf : MethodName := ⟨RX6, "lastOf", "(I)I"⟩
def RX7 : String := "SleepWaves$Scanner"
def TX7 : u_T := fun k => match k with
  | 0 => ("SleepWaves$Scanner", "tape", "LSleepWaves$Tape;", true)
  | 1 => ("SleepWaves$Scanner", "at", "I", false)
  | 2 => ("SleepWaves$Scanner", "place", "I", false)
  | 3 => ("SleepWaves$Scanner", "kind", "I", false)
  | 4 => ("SleepWaves$Scanner", "value", "I", false)
  | _ => ("SleepWaves$Scanner", "fault", "I", false)
def tyX7 : Nat → FieldType := fun k => match k with
  | 0 => .object "SleepWaves$Tape"
  | 1 => .int
  | 2 => .int
  | 3 => .int
  | 4 => .int
  | _ => .int
abbrev wsX70 : List Cond := u_ws RX7 TX7 6
theorem nmX7 : ∀ a, a < 6 → ∀ b, b < 6 → a ≠ b → (TX7 a).2.1 ≠ (TX7 b).2.1 := by decide +kernel
theorem tyX7_ok : ∀ k, k < 6 → parseFieldDescriptor (TX7 k).2.2.1 = some (tyX7 k) := by decide +kernel
abbrev cX7_init : ByteArray := prog_9_method_1_code
def yX7_init : MethodName := ⟨RX7, "<init>", "(LSleepWaves$Tape;)V"⟩
abbrev cX7_begin : ByteArray := prog_9_method_2_code
def yX7_begin : MethodName := ⟨RX7, "begin", "()V"⟩
abbrev cX7_fail : ByteArray := prog_9_method_3_code
def yX7_fail : MethodName := ⟨RX7, "fail", "(I)V"⟩
abbrev cX7_failed : ByteArray := prog_9_method_4_code
def yX7_failed : MethodName := ⟨RX7, "failed", "()Z"⟩
abbrev cX7_next : ByteArray := prog_9_method_5_code
def yX7_next : MethodName := ⟨RX7, "next", "()V"⟩
abbrev cX7_peek : ByteArray := prog_9_method_6_code
def yX7_peek : MethodName := ⟨RX7, "peek", "()I"⟩
abbrev cX7_readNumber : ByteArray := prog_9_method_7_code
def yX7_readNumber : MethodName := ⟨RX7, "readNumber", "()V"⟩
abbrev cX7_readWord : ByteArray := prog_9_method_8_code
def yX7_readWord : MethodName := ⟨RX7, "readWord", "()V"⟩
abbrev cX7_readSign : ByteArray := prog_9_method_9_code
def yX7_readSign : MethodName := ⟨RX7, "readSign", "()V"⟩
abbrev cX7_isSign : ByteArray := prog_9_method_10_code
def yX7_isSign : MethodName := ⟨RX7, "isSign", "(I)Z"⟩
abbrev cX7_isWord : ByteArray := prog_9_method_11_code
def yX7_isWord : MethodName := ⟨RX7, "isWord", "(Ljava/lang/String;)Z"⟩
def RX8 : String := "SleepWaves$State"
def TX8 : u_T := fun k => match k with
  | 0 => ("SleepWaves$State", "camp", "LSleepWaves$Camp;", true)
  | 1 => ("SleepWaves$State", "now", "I", false)
  | 2 => ("SleepWaves$State", "x", "I", false)
  | 3 => ("SleepWaves$State", "feastEnd", "I", false)
  | 4 => ("SleepWaves$State", "asleep", "I", false)
  | 5 => ("SleepWaves$State", "menUp", "I", false)
  | 6 => ("SleepWaves$State", "tired", "[I", true)
  | 7 => ("SleepWaves$State", "stayed", "[I", true)
  | 8 => ("SleepWaves$State", "rose", "[I", true)
  | 9 => ("SleepWaves$State", "why", "[I", true)
  | 10 => ("SleepWaves$State", "whyNow", "[I", true)
  | 11 => ("SleepWaves$State", "whyBy", "[I", true)
  | 12 => ("SleepWaves$State", "fails", "I", false)
  | 13 => ("SleepWaves$State", "firstFail", "I", false)
  | 14 => ("SleepWaves$State", "leastUp", "I", false)
  | 15 => ("SleepWaves$State", "warm", "I", false)
  | _ => ("SleepWaves$State", "bell", "I", false)
def tyX8 : Nat → FieldType := fun k => match k with
  | 0 => .object "SleepWaves$Camp"
  | 1 => .int
  | 2 => .int
  | 3 => .int
  | 4 => .int
  | 5 => .int
  | 6 => .array .int
  | 7 => .array .int
  | 8 => .array .int
  | 9 => .array .int
  | 10 => .array .int
  | 11 => .array .int
  | 12 => .int
  | 13 => .int
  | 14 => .int
  | 15 => .int
  | _ => .int
abbrev wsX80 : List Cond := u_ws RX8 TX8 17
theorem nmX8 : ∀ a, a < 17 → ∀ b, b < 17 → a ≠ b → (TX8 a).2.1 ≠ (TX8 b).2.1 := by decide +kernel
theorem tyX8_ok : ∀ k, k < 17 → parseFieldDescriptor (TX8 k).2.2.1 = some (tyX8 k) := by decide +kernel
abbrev cX8_init : ByteArray := prog_10_method_1_code
def yX8_init : MethodName := ⟨RX8, "<init>", "()V"⟩
abbrev cX8_begin : ByteArray := prog_10_method_2_code
def yX8_begin : MethodName := ⟨RX8, "begin", "(LSleepWaves$Camp;)V"⟩
abbrev cX8_beginCounts : ByteArray := prog_10_method_3_code
def yX8_beginCounts : MethodName := ⟨RX8, "beginCounts", "()V"⟩
abbrev cX8_copyFrom : ByteArray := prog_10_method_4_code
def yX8_copyFrom : MethodName := ⟨RX8, "copyFrom", "(LSleepWaves$State;)V"⟩
abbrev cX8_isAsleep : ByteArray := prog_10_method_5_code
def yX8_isAsleep : MethodName := ⟨RX8, "isAsleep", "(I)Z"⟩
abbrev cX8_upBits : ByteArray := prog_10_method_6_code
def yX8_upBits : MethodName := ⟨RX8, "upBits", "()I"⟩
abbrev cX8_tiredTogether : ByteArray := prog_10_method_7_code
def yX8_tiredTogether : MethodName := ⟨RX8, "tiredTogether", "()I"⟩
abbrev cX8_bedIsTaken : ByteArray := prog_10_method_8_code
def yX8_bedIsTaken : MethodName := ⟨RX8, "bedIsTaken", "(I)Z"⟩
abbrev cX8_bedIsWarm : ByteArray := prog_10_method_9_code
def yX8_bedIsWarm : MethodName := ⟨RX8, "bedIsWarm", "(I)Z"⟩
abbrev cX8_lieDown : ByteArray := prog_10_method_10_code
def yX8_lieDown : MethodName := ⟨RX8, "lieDown", "(III)V"⟩
abbrev cX8_getUp : ByteArray := prog_10_method_11_code
def yX8_getUp : MethodName := ⟨RX8, "getUp", "(III)V"⟩
abbrev cX8_keepWhy : ByteArray := prog_10_method_12_code
def yX8_keepWhy : MethodName := ⟨RX8, "keepWhy", "(III)V"⟩
abbrev cX8_wakeAll : ByteArray := prog_10_method_13_code
def yX8_wakeAll : MethodName := ⟨RX8, "wakeAll", "()I"⟩
abbrev cX8_passQuarters : ByteArray := prog_10_method_14_code
def yX8_passQuarters : MethodName := ⟨RX8, "passQuarters", "(LSleepWaves$Law;I)V"⟩
abbrev cX8_lieDownBy : ByteArray := prog_10_method_15_code
def yX8_lieDownBy : MethodName := ⟨RX8, "lieDownBy", "(LSleepWaves$Law;)V"⟩
abbrev cX8_getUpBy : ByteArray := prog_10_method_16_code
def yX8_getUpBy : MethodName := ⟨RX8, "getUpBy", "(LSleepWaves$Law;I)V"⟩
abbrev cX8_snore : ByteArray := prog_10_method_17_code
def yX8_snore : MethodName := ⟨RX8, "snore", "()V"⟩
abbrev cX8_draw : ByteArray := prog_10_method_18_code
def yX8_draw : MethodName := ⟨RX8, "draw", "()I"⟩
abbrev cX8_wakeNextTo : ByteArray := prog_10_method_19_code
def yX8_wakeNextTo : MethodName := ⟨RX8, "wakeNextTo", "(I)V"⟩
abbrev cX8_tire : ByteArray := prog_10_method_20_code
def yX8_tire : MethodName := ⟨RX8, "tire", "()V"⟩
abbrev cX8_valueOf : ByteArray := prog_10_method_21_code
def yX8_valueOf : MethodName := ⟨RX8, "valueOf", "(II)I"⟩
def RX9 : String := "SleepWaves$Tape"
def TX9 : u_T := fun k => match k with
  | 0 => ("SleepWaves$Tape", "bytes", "[I", true)
  | _ => ("SleepWaves$Tape", "size", "I", false)
def tyX9 : Nat → FieldType := fun k => match k with
  | 0 => .array .int
  | _ => .int
abbrev wsX90 : List Cond := u_ws RX9 TX9 2
theorem nmX9 : ∀ a, a < 2 → ∀ b, b < 2 → a ≠ b → (TX9 a).2.1 ≠ (TX9 b).2.1 := by decide +kernel
theorem tyX9_ok : ∀ k, k < 2 → parseFieldDescriptor (TX9 k).2.2.1 = some (tyX9 k) := by decide +kernel
abbrev cX9_init : ByteArray := prog_11_method_1_code
def yX9_init : MethodName := ⟨RX9, "<init>", "()V"⟩
abbrev cX9_add : ByteArray := prog_11_method_2_code
def yX9_add : MethodName := ⟨RX9, "add", "(I)V"⟩
def RX10 : String := "SleepWaves"
def TX10 : u_T := fun k => match k with
  | 0 => ("SleepWaves", "tape", "LSleepWaves$Tape;", true)
  | 1 => ("SleepWaves", "campReader", "LSleepWaves$CampReader;", true)
  | 2 => ("SleepWaves", "lawReader", "LSleepWaves$LawReader;", true)
  | 3 => ("SleepWaves", "draft", "LSleepWaves$Camp;", true)
  | 4 => ("SleepWaves", "laws", "[LSleepWaves$Law;", true)
  | 5 => ("SleepWaves", "lawCount", "I", false)
  | 6 => ("SleepWaves", "live", "LSleepWaves$State;", true)
  | 7 => ("SleepWaves", "past", "LSleepWaves$Log;", true)
  | 8 => ("SleepWaves", "imageStates", "[LSleepWaves$State;", true)
  | 9 => ("SleepWaves", "imagePasts", "[LSleepWaves$Log;", true)
  | 10 => ("SleepWaves", "imageMade", "[Z", true)
  | 11 => ("SleepWaves", "forecast", "LSleepWaves$Forecast;", true)
  | _ => ("SleepWaves", "gossip", "LSleepWaves$Gossip;", true)
def tyX10 : Nat → FieldType := fun k => match k with
  | 0 => .object "SleepWaves$Tape"
  | 1 => .object "SleepWaves$CampReader"
  | 2 => .object "SleepWaves$LawReader"
  | 3 => .object "SleepWaves$Camp"
  | 4 => .array (.object "SleepWaves$Law")
  | 5 => .int
  | 6 => .object "SleepWaves$State"
  | 7 => .object "SleepWaves$Log"
  | 8 => .array (.object "SleepWaves$State")
  | 9 => .array (.object "SleepWaves$Log")
  | 10 => .array .boolean
  | 11 => .object "SleepWaves$Forecast"
  | _ => .object "SleepWaves$Gossip"
abbrev wsX100 : List Cond := u_ws RX10 TX10 13
theorem nmX10 : ∀ a, a < 13 → ∀ b, b < 13 → a ≠ b → (TX10 a).2.1 ≠ (TX10 b).2.1 := by decide +kernel
theorem tyX10_ok : ∀ k, k < 13 → parseFieldDescriptor (TX10 k).2.2.1 = some (tyX10 k) := by decide +kernel
abbrev cX10_init : ByteArray := prog_1_method_1_code
def yX10_init : MethodName := ⟨RX10, "<init>", "()V"⟩
abbrev cX10_feed : ByteArray := prog_1_method_2_code
def yX10_feed : MethodName := ⟨RX10, "feed", "(IIIII)I"⟩
abbrev cX10_end : ByteArray := prog_1_method_3_code
def yX10_end : MethodName := ⟨RX10, "end", "(I)I"⟩
abbrev cX10_barracks : ByteArray := prog_1_method_4_code
def yX10_barracks : MethodName := ⟨RX10, "barracks", "()I"⟩
abbrev cX10_law : ByteArray := prog_1_method_5_code
def yX10_law : MethodName := ⟨RX10, "law", "()I"⟩
abbrev cX10_tick : ByteArray := prog_1_method_6_code
def yX10_tick : MethodName := ⟨RX10, "tick", "(II)I"⟩
abbrev cX10_lie : ByteArray := prog_1_method_7_code
def yX10_lie : MethodName := ⟨RX10, "lie", "(IZ)Z"⟩
abbrev cX10_tires : ByteArray := prog_1_method_8_code
def yX10_tires : MethodName := ⟨RX10, "tires", "(II)I"⟩
abbrev cX10_drum : ByteArray := prog_1_method_9_code
def yX10_drum : MethodName := ⟨RX10, "drum", "()I"⟩
abbrev cX10_feast : ByteArray := prog_1_method_10_code
def yX10_feast : MethodName := ⟨RX10, "feast", "(I)I"⟩
abbrev cX10_seed : ByteArray := prog_1_method_11_code
def yX10_seed : MethodName := ⟨RX10, "seed", "(I)I"⟩
abbrev cX10_image : ByteArray := prog_1_method_12_code
def yX10_image : MethodName := ⟨RX10, "image", "(I)I"⟩
abbrev cX10_back : ByteArray := prog_1_method_13_code
def yX10_back : MethodName := ⟨RX10, "back", "(I)I"⟩
abbrev cX10_company : ByteArray := prog_1_method_14_code
def yX10_company : MethodName := ⟨RX10, "company", "(II)I"⟩
abbrev cX10_why : ByteArray := prog_1_method_15_code
def yX10_why : MethodName := ⟨RX10, "why", "(II)I"⟩
abbrev cX10_count : ByteArray := prog_1_method_16_code
def yX10_count : MethodName := ⟨RX10, "count", "(I)I"⟩
abbrev cX10_log : ByteArray := prog_1_method_17_code
def yX10_log : MethodName := ⟨RX10, "log", "(I)I"⟩
abbrev cX10_both : ByteArray := prog_1_method_18_code
def yX10_both : MethodName := ⟨RX10, "both", "(II)I"⟩
abbrev cX10_run : ByteArray := prog_1_method_19_code
def yX10_run : MethodName := ⟨RX10, "run", "(I)I"⟩
abbrev cX10_just : ByteArray := prog_1_method_20_code
def yX10_just : MethodName := ⟨RX10, "just", "(II)I"⟩
abbrev cX10_ahead : ByteArray := prog_1_method_21_code
def yX10_ahead : MethodName := ⟨RX10, "ahead", "(III)I"⟩
abbrev cX10_struck : ByteArray := prog_1_method_22_code
def yX10_struck : MethodName := ⟨RX10, "struck", "(IIII)I"⟩
abbrev cX10_turned : ByteArray := prog_1_method_23_code
def yX10_turned : MethodName := ⟨RX10, "turned", "(IIII)I"⟩
abbrev cX10_mutiny : ByteArray := prog_1_method_24_code
def yX10_mutiny : MethodName := ⟨RX10, "mutiny", "(IIII)I"⟩
abbrev cX10_crest : ByteArray := prog_1_method_25_code
def yX10_crest : MethodName := ⟨RX10, "crest", "(IIIII)I"⟩
abbrev cX10_dream : ByteArray := prog_1_method_26_code
def yX10_dream : MethodName := ⟨RX10, "dream", "(III)I"⟩
abbrev cX10_told : ByteArray := prog_1_method_27_code
def yX10_told : MethodName := ⟨RX10, "told", "(IIII)I"⟩
abbrev cX10_harm : ByteArray := prog_1_method_28_code
def yX10_harm : MethodName := ⟨RX10, "harm", "(III)I"⟩
abbrev cX10_fair : ByteArray := prog_1_method_29_code
def yX10_fair : MethodName := ⟨RX10, "fair", "(III)I"⟩
abbrev cX10_bestLaw : ByteArray := prog_1_method_30_code
def yX10_bestLaw : MethodName := ⟨RX10, "bestLaw", "(I)I"⟩
abbrev cX10_swap : ByteArray := prog_1_method_31_code
def yX10_swap : MethodName := ⟨RX10, "swap", "(III)I"⟩
abbrev cX10_strike : ByteArray := prog_1_method_32_code
def yX10_strike : MethodName := ⟨RX10, "strike", "(III)I"⟩
abbrev cX10_isLaw : ByteArray := prog_1_method_33_code
def yX10_isLaw : MethodName := ⟨RX10, "isLaw", "(I)Z"⟩
abbrev cX10_isCompany : ByteArray := prog_1_method_34_code
def yX10_isCompany : MethodName := ⟨RX10, "isCompany", "(I)Z"⟩
abbrev cX10_areCompanies : ByteArray := prog_1_method_35_code
def yX10_areCompanies : MethodName := ⟨RX10, "areCompanies", "(I)Z"⟩
def RX11 : String := "SleepWavesModel"
def TX11 : u_T := fun k => match k with
  | 0 => ("SleepWavesModel", "thrown", "I", false)
  | 1 => ("SleepWavesModel", "scalar", "[I", true)
  | 2 => ("SleepWavesModel", "men", "[I", true)
  | 3 => ("SleepWavesModel", "hall", "[I", true)
  | 4 => ("SleepWavesModel", "bed", "[I", true)
  | 5 => ("SleepWavesModel", "snore", "[I", true)
  | 6 => ("SleepWavesModel", "bellAt", "[I", true)
  | 7 => ("SleepWavesModel", "tone", "[I", true)
  | 8 => ("SleepWavesModel", "dutyOf", "[I", true)
  | 9 => ("SleepWavesModel", "dutyFrom", "[I", true)
  | 10 => ("SleepWavesModel", "dutyTill", "[I", true)
  | 11 => ("SleepWavesModel", "newScalar", "[I", true)
  | 12 => ("SleepWavesModel", "newMen", "[I", true)
  | 13 => ("SleepWavesModel", "newHall", "[I", true)
  | 14 => ("SleepWavesModel", "newBed", "[I", true)
  | 15 => ("SleepWavesModel", "newSnore", "[I", true)
  | 16 => ("SleepWavesModel", "newBellAt", "[I", true)
  | 17 => ("SleepWavesModel", "newTone", "[I", true)
  | 18 => ("SleepWavesModel", "newDutyOf", "[I", true)
  | 19 => ("SleepWavesModel", "newDutyFrom", "[I", true)
  | 20 => ("SleepWavesModel", "newDutyTill", "[I", true)
  | 21 => ("SleepWavesModel", "asleep", "[I", true)
  | 22 => ("SleepWavesModel", "tired", "[I", true)
  | 23 => ("SleepWavesModel", "length", "[I", true)
  | 24 => ("SleepWavesModel", "gotUp", "[I", true)
  | 25 => ("SleepWavesModel", "logged", "[I", true)
  | 26 => ("SleepWavesModel", "reason", "[I", true)
  | 27 => ("SleepWavesModel", "changedAt", "[I", true)
  | 28 => ("SleepWavesModel", "changedBy", "[I", true)
  | 29 => ("SleepWavesModel", "without", "I", false)
  | 30 => ("SleepWavesModel", "taped", "I", false)
  | 31 => ("SleepWavesModel", "p", "I", false)
  | 32 => ("SleepWavesModel", "fault", "I", false)
  | 33 => ("SleepWavesModel", "slot", "I", false)
  | 34 => ("SleepWavesModel", "laws", "I", false)
  | 35 => ("SleepWavesModel", "entries", "I", false)
  | 36 => ("SleepWavesModel", "deep", "I", false)
  | 37 => ("SleepWavesModel", "counted", "I", false)
  | 38 => ("SleepWavesModel", "opened", "I", false)
  | 39 => ("SleepWavesModel", "words", "I", false)
  | 40 => ("SleepWavesModel", "isWatchTold", "Z", false)
  | 41 => ("SleepWavesModel", "tape", "[B", true)
  | 42 => ("SleepWavesModel", "sort", "[I", true)
  | 43 => ("SleepWavesModel", "number", "[I", true)
  | 44 => ("SleepWavesModel", "clauses", "[I", true)
  | 45 => ("SleepWavesModel", "ofWake", "[I", true)
  | 46 => ("SleepWavesModel", "testAt", "[I", true)
  | 47 => ("SleepWavesModel", "endAt", "[I", true)
  | 48 => ("SleepWavesModel", "open", "[I", true)
  | 49 => ("SleepWavesModel", "asked", "[J", true)
  | 50 => ("SleepWavesModel", "stack", "[J", true)
  | 51 => ("SleepWavesModel", "keptScalar", "[I", true)
  | 52 => ("SleepWavesModel", "keptAsleep", "[I", true)
  | 53 => ("SleepWavesModel", "keptTired", "[I", true)
  | 54 => ("SleepWavesModel", "keptLength", "[I", true)
  | 55 => ("SleepWavesModel", "keptGotUp", "[I", true)
  | 56 => ("SleepWavesModel", "keptLogged", "[I", true)
  | 57 => ("SleepWavesModel", "keptReason", "[I", true)
  | 58 => ("SleepWavesModel", "keptAt", "[I", true)
  | 59 => ("SleepWavesModel", "keptBy", "[I", true)
  | 60 => ("SleepWavesModel", "turnedFails", "I", false)
  | 61 => ("SleepWavesModel", "toldAt", "I", false)
  | 62 => ("SleepWavesModel", "slept", "[I", true)
  | 63 => ("SleepWavesModel", "images", "[I", true)
  | 64 => ("SleepWavesModel", "isMade", "[Z", true)
  | 65 => ("SleepWavesModel", "imageAt", "I", false)
  | _ => ("SleepWavesModel", "goesBack", "Z", false)
def tyX11 : Nat → FieldType := fun k => match k with
  | 0 => .int
  | 1 => .array .int
  | 2 => .array .int
  | 3 => .array .int
  | 4 => .array .int
  | 5 => .array .int
  | 6 => .array .int
  | 7 => .array .int
  | 8 => .array .int
  | 9 => .array .int
  | 10 => .array .int
  | 11 => .array .int
  | 12 => .array .int
  | 13 => .array .int
  | 14 => .array .int
  | 15 => .array .int
  | 16 => .array .int
  | 17 => .array .int
  | 18 => .array .int
  | 19 => .array .int
  | 20 => .array .int
  | 21 => .array .int
  | 22 => .array .int
  | 23 => .array .int
  | 24 => .array .int
  | 25 => .array .int
  | 26 => .array .int
  | 27 => .array .int
  | 28 => .array .int
  | 29 => .int
  | 30 => .int
  | 31 => .int
  | 32 => .int
  | 33 => .int
  | 34 => .int
  | 35 => .int
  | 36 => .int
  | 37 => .int
  | 38 => .int
  | 39 => .int
  | 40 => .boolean
  | 41 => .array .byte
  | 42 => .array .int
  | 43 => .array .int
  | 44 => .array .int
  | 45 => .array .int
  | 46 => .array .int
  | 47 => .array .int
  | 48 => .array .int
  | 49 => .array .long
  | 50 => .array .long
  | 51 => .array .int
  | 52 => .array .int
  | 53 => .array .int
  | 54 => .array .int
  | 55 => .array .int
  | 56 => .array .int
  | 57 => .array .int
  | 58 => .array .int
  | 59 => .array .int
  | 60 => .int
  | 61 => .int
  | 62 => .array .int
  | 63 => .array .int
  | 64 => .array .boolean
  | 65 => .int
  | _ => .boolean
abbrev wsX110 : List Cond := u_ws RX11 TX11 67
theorem nmX11 : ∀ a, a < 67 → ∀ b, b < 67 → a ≠ b → (TX11 a).2.1 ≠ (TX11 b).2.1 := by decide +kernel
theorem tyX11_ok : ∀ k, k < 67 → parseFieldDescriptor (TX11 k).2.2.1 = some (tyX11 k) := by decide +kernel
abbrev cX11_init : ByteArray := prog_13_method_1_code
def yX11_init : MethodName := ⟨RX11, "<init>", "()V"⟩
abbrev cX11_in : ByteArray := prog_13_method_3_code
def yX11_in : MethodName := ⟨RX11, "in", "(JJJ)Z"⟩
abbrev cX11_has : ByteArray := prog_13_method_4_code
def yX11_has : MethodName := ⟨RX11, "has", "(II)Z"⟩
abbrev cX11_isCompany : ByteArray := prog_13_method_5_code
def yX11_isCompany : MethodName := ⟨RX11, "isCompany", "(I)Z"⟩
abbrev cX11_upSet : ByteArray := prog_13_method_6_code
def yX11_upSet : MethodName := ⟨RX11, "upSet", "()I"⟩
abbrev cX11_menOf : ByteArray := prog_13_method_7_code
def yX11_menOf : MethodName := ⟨RX11, "menOf", "(I)I"⟩
abbrev cX11_hasDuty : ByteArray := prog_13_method_8_code
def yX11_hasDuty : MethodName := ⟨RX11, "hasDuty", "(I)Z"⟩
abbrev cX11_toneNow : ByteArray := prog_13_method_9_code
def yX11_toneNow : MethodName := ⟨RX11, "toneNow", "()I"⟩
abbrev cX11_feed : ByteArray := prog_13_method_10_code
def yX11_feed : MethodName := ⟨RX11, "feed", "(IIIII)I"⟩
abbrev cX11_put : ByteArray := prog_13_method_11_code
def yX11_put : MethodName := ⟨RX11, "put", "(I)V"⟩
abbrev cX11_end : ByteArray := prog_13_method_12_code
def yX11_end : MethodName := ⟨RX11, "end", "(I)I"⟩
abbrev cX11_wordOf : ByteArray := prog_13_method_13_code
def yX11_wordOf : MethodName := ⟨RX11, "wordOf", "(I)Ljava/lang/String;"⟩
abbrev cX11_barracksWord : ByteArray := prog_13_method_14_code
def yX11_barracksWord : MethodName := ⟨RX11, "barracksWord", "(I)Ljava/lang/String;"⟩
abbrev cX11_fails : ByteArray := prog_13_method_15_code
def yX11_fails : MethodName := ⟨RX11, "fails", "(II)V"⟩
abbrev cX11_sign : ByteArray := prog_13_method_16_code
def yX11_sign : MethodName := ⟨RX11, "sign", "()I"⟩
abbrev cX11_blanks : ByteArray := prog_13_method_17_code
def yX11_blanks : MethodName := ⟨RX11, "blanks", "()V"⟩
abbrev cX11_isDigit : ByteArray := prog_13_method_18_code
def yX11_isDigit : MethodName := ⟨RX11, "isDigit", "()Z"⟩
abbrev cX11_stood : ByteArray := prog_13_method_19_code
def yX11_stood : MethodName := ⟨RX11, "stood", "(Ljava/lang/String;)Z"⟩
abbrev cX11_entry : ByteArray := prog_13_method_21_code
def yX11_entry : MethodName := ⟨RX11, "entry", "(II)V"⟩
abbrev cX11_isCounted : ByteArray := prog_13_method_22_code
def yX11_isCounted : MethodName := ⟨RX11, "isCounted", "(I)V"⟩
abbrev cX11_digits : ByteArray := prog_13_method_23_code
def yX11_digits : MethodName := ⟨RX11, "digits", "(I)I"⟩
abbrev cX11_value : ByteArray := prog_13_method_24_code
def yX11_value : MethodName := ⟨RX11, "value", "()V"⟩
abbrev cX11_term : ByteArray := prog_13_method_25_code
def yX11_term : MethodName := ⟨RX11, "term", "()V"⟩
abbrev cX11_sum : ByteArray := prog_13_method_26_code
def yX11_sum : MethodName := ⟨RX11, "sum", "()V"⟩
abbrev cX11_compared : ByteArray := prog_13_method_27_code
def yX11_compared : MethodName := ⟨RX11, "compared", "()V"⟩
abbrev cX11_top : ByteArray := prog_13_method_28_code
def yX11_top : MethodName := ⟨RX11, "top", "()I"⟩
abbrev cX11_opens : ByteArray := prog_13_method_29_code
def yX11_opens : MethodName := ⟨RX11, "opens", "(I)V"⟩
abbrev cX11_answers : ByteArray := prog_13_method_30_code
def yX11_answers : MethodName := ⟨RX11, "answers", "(I)V"⟩
abbrev cX11_fact : ByteArray := prog_13_method_31_code
def yX11_fact : MethodName := ⟨RX11, "fact", "()Z"⟩
abbrev cX11_test : ByteArray := prog_13_method_32_code
def yX11_test : MethodName := ⟨RX11, "test", "()V"⟩
abbrev cX11_amount : ByteArray := prog_13_method_33_code
def yX11_amount : MethodName := ⟨RX11, "amount", "(II)I"⟩
abbrev cX11_barracksPart : ByteArray := prog_13_method_34_code
def yX11_barracksPart : MethodName := ⟨RX11, "barracksPart", "(I)V"⟩
abbrev cX11_isFull : ByteArray := prog_13_method_35_code
def yX11_isFull : MethodName := ⟨RX11, "isFull", "(II)Z"⟩
abbrev cX11_barracksClause : ByteArray := prog_13_method_36_code
def yX11_barracksClause : MethodName := ⟨RX11, "barracksClause", "(I)V"⟩
abbrev cX11_lay : ByteArray := prog_13_method_37_code
def yX11_lay : MethodName := ⟨RX11, "lay", "([I[I)V"⟩
abbrev cX11_goesOn : ByteArray := prog_13_method_38_code
def yX11_goesOn : MethodName := ⟨RX11, "goesOn", "()Z"⟩
abbrev cX11_starts : ByteArray := prog_13_method_39_code
def yX11_starts : MethodName := ⟨RX11, "starts", "()V"⟩
abbrev cX11_barracks : ByteArray := prog_13_method_40_code
def yX11_barracks : MethodName := ⟨RX11, "barracks", "()I"⟩
abbrev cX11_lawClause : ByteArray := prog_13_method_41_code
def yX11_lawClause : MethodName := ⟨RX11, "lawClause", "(I)V"⟩
abbrev cX11_law : ByteArray := prog_13_method_42_code
def yX11_law : MethodName := ⟨RX11, "law", "()I"⟩
abbrev cX11_isLaw : ByteArray := prog_13_method_43_code
def yX11_isLaw : MethodName := ⟨RX11, "isLaw", "(I)Z"⟩
abbrev cX11_truth : ByteArray := prog_13_method_44_code
def yX11_truth : MethodName := ⟨RX11, "truth", "(Z)J"⟩
abbrev cX11_both : ByteArray := prog_13_method_45_code
def yX11_both : MethodName := ⟨RX11, "both", "(IJJ)J"⟩
abbrev cX11_answer : ByteArray := prog_13_method_46_code
def yX11_answer : MethodName := ⟨RX11, "answer", "(III)J"⟩
abbrev cX11_some : ByteArray := prog_13_method_47_code
def yX11_some : MethodName := ⟨RX11, "some", "(III)Z"⟩
abbrev cX11_isFree : ByteArray := prog_13_method_48_code
def yX11_isFree : MethodName := ⟨RX11, "isFree", "(I)Z"⟩
abbrev cX11_isWarm : ByteArray := prog_13_method_49_code
def yX11_isWarm : MethodName := ⟨RX11, "isWarm", "(I)Z"⟩
abbrev cX11_changes : ByteArray := prog_13_method_50_code
def yX11_changes : MethodName := ⟨RX11, "changes", "(IIII)V"⟩
abbrev cX11_bellNow : ByteArray := prog_13_method_51_code
def yX11_bellNow : MethodName := ⟨RX11, "bellNow", "()I"⟩
abbrev cX11_dutyNow : ByteArray := prog_13_method_52_code
def yX11_dutyNow : MethodName := ⟨RX11, "dutyNow", "(I)I"⟩
abbrev cX11_isFeast : ByteArray := prog_13_method_53_code
def yX11_isFeast : MethodName := ⟨RX11, "isFeast", "()Z"⟩
abbrev cX11_draws : ByteArray := prog_13_method_54_code
def yX11_draws : MethodName := ⟨RX11, "draws", "(I)I"⟩
abbrev cX11_neighbour : ByteArray := prog_13_method_55_code
def yX11_neighbour : MethodName := ⟨RX11, "neighbour", "(I)I"⟩
abbrev cX11_lieDown : ByteArray := prog_13_method_56_code
def yX11_lieDown : MethodName := ⟨RX11, "lieDown", "(I)V"⟩
abbrev cX11_snores : ByteArray := prog_13_method_57_code
def yX11_snores : MethodName := ⟨RX11, "snores", "()V"⟩
abbrev cX11_wakes : ByteArray := prog_13_method_58_code
def yX11_wakes : MethodName := ⟨RX11, "wakes", "(II)V"⟩
abbrev cX11_quarter : ByteArray := prog_13_method_59_code
def yX11_quarter : MethodName := ⟨RX11, "quarter", "(I)V"⟩
abbrev cX11_tick : ByteArray := prog_13_method_60_code
def yX11_tick : MethodName := ⟨RX11, "tick", "(II)I"⟩
abbrev cX11_company : ByteArray := prog_13_method_61_code
def yX11_company : MethodName := ⟨RX11, "company", "(II)I"⟩
abbrev cX11_lie : ByteArray := prog_13_method_62_code
def yX11_lie : MethodName := ⟨RX11, "lie", "(IZ)Z"⟩
abbrev cX11_tires : ByteArray := prog_13_method_63_code
def yX11_tires : MethodName := ⟨RX11, "tires", "(II)I"⟩
abbrev cX11_drum : ByteArray := prog_13_method_64_code
def yX11_drum : MethodName := ⟨RX11, "drum", "()I"⟩
abbrev cX11_feast : ByteArray := prog_13_method_65_code
def yX11_feast : MethodName := ⟨RX11, "feast", "(I)I"⟩
abbrev cX11_keeps : ByteArray := prog_13_method_66_code
def yX11_keeps : MethodName := ⟨RX11, "keeps", "()V"⟩
abbrev cX11_laysBack : ByteArray := prog_13_method_67_code
def yX11_laysBack : MethodName := ⟨RX11, "laysBack", "()V"⟩
abbrev cX11_tries : ByteArray := prog_13_method_68_code
def yX11_tries : MethodName := ⟨RX11, "tries", "(IIII)I"⟩
abbrev cX11_ahead : ByteArray := prog_13_method_69_code
def yX11_ahead : MethodName := ⟨RX11, "ahead", "(III)I"⟩
abbrev cX11_struck : ByteArray := prog_13_method_70_code
def yX11_struck : MethodName := ⟨RX11, "struck", "(IIII)I"⟩
abbrev cX11_turns : ByteArray := prog_13_method_71_code
def yX11_turns : MethodName := ⟨RX11, "turns", "(IIIII)Z"⟩
abbrev cX11_turned : ByteArray := prog_13_method_72_code
def yX11_turned : MethodName := ⟨RX11, "turned", "(IIII)I"⟩
abbrev cX11_wonBy : ByteArray := prog_13_method_73_code
def yX11_wonBy : MethodName := ⟨RX11, "wonBy", "(II)I"⟩
abbrev cX11_mutineers : ByteArray := prog_13_method_74_code
def yX11_mutineers : MethodName := ⟨RX11, "mutineers", "(IIII)I"⟩
abbrev cX11_mutiny : ByteArray := prog_13_method_75_code
def yX11_mutiny : MethodName := ⟨RX11, "mutiny", "(IIII)I"⟩
abbrev cX11_crest : ByteArray := prog_13_method_76_code
def yX11_crest : MethodName := ⟨RX11, "crest", "(IIIII)I"⟩
abbrev cX11_tellsOn : ByteArray := prog_13_method_77_code
def yX11_tellsOn : MethodName := ⟨RX11, "tellsOn", "(I)I"⟩
abbrev cX11_dreams : ByteArray := prog_13_method_78_code
def yX11_dreams : MethodName := ⟨RX11, "dreams", "(IIII)I"⟩
abbrev cX11_dream : ByteArray := prog_13_method_79_code
def yX11_dream : MethodName := ⟨RX11, "dream", "(III)I"⟩
abbrev cX11_told : ByteArray := prog_13_method_80_code
def yX11_told : MethodName := ⟨RX11, "told", "(IIII)I"⟩
abbrev cX11_harm : ByteArray := prog_13_method_81_code
def yX11_harm : MethodName := ⟨RX11, "harm", "(III)I"⟩
abbrev cX11_log : ByteArray := prog_13_method_82_code
def yX11_log : MethodName := ⟨RX11, "log", "(I)I"⟩
abbrev cX11_both_ : ByteArray := prog_13_method_83_code
def yX11_both_ : MethodName := ⟨RX11, "both", "(II)I"⟩
abbrev cX11_run : ByteArray := prog_13_method_84_code
def yX11_run : MethodName := ⟨RX11, "run", "(I)I"⟩
abbrev cX11_why : ByteArray := prog_13_method_85_code
def yX11_why : MethodName := ⟨RX11, "why", "(II)I"⟩
abbrev cX11_fair : ByteArray := prog_13_method_86_code
def yX11_fair : MethodName := ⟨RX11, "fair", "(III)I"⟩
abbrev cX11_bestLaw : ByteArray := prog_13_method_87_code
def yX11_bestLaw : MethodName := ⟨RX11, "bestLaw", "(I)I"⟩
abbrev cX11_swaps : ByteArray := prog_13_method_88_code
def yX11_swaps : MethodName := ⟨RX11, "swaps", "(II)V"⟩
abbrev cX11_swap : ByteArray := prog_13_method_89_code
def yX11_swap : MethodName := ⟨RX11, "swap", "(III)I"⟩
abbrev cX11_strike : ByteArray := prog_13_method_90_code
def yX11_strike : MethodName := ⟨RX11, "strike", "(III)I"⟩
abbrev cX11_just : ByteArray := prog_13_method_91_code
def yX11_just : MethodName := ⟨RX11, "just", "(II)I"⟩
abbrev cX11_seed : ByteArray := prog_13_method_92_code
def yX11_seed : MethodName := ⟨RX11, "seed", "(I)I"⟩
abbrev cX11_count : ByteArray := prog_13_method_93_code
def yX11_count : MethodName := ⟨RX11, "count", "(I)I"⟩
abbrev cX11_carry : ByteArray := prog_13_method_94_code
def yX11_carry : MethodName := ⟨RX11, "carry", "([I)V"⟩
abbrev cX11_carriesAll : ByteArray := prog_13_method_95_code
def yX11_carriesAll : MethodName := ⟨RX11, "carriesAll", "(IZ)V"⟩
abbrev cX11_image : ByteArray := prog_13_method_96_code
def yX11_image : MethodName := ⟨RX11, "image", "(I)I"⟩
abbrev cX11_back : ByteArray := prog_13_method_97_code
def yX11_back : MethodName := ⟨RX11, "back", "(I)I"⟩
def RJ9 : String := "java/lang/Math"
def TJ9 : u_T := fun k => match k with
  | _ => ("", "", "", false)
def tyJ9 : Nat → FieldType := fun k => match k with
  | _ => .int
abbrev wsJ90 : List Cond := u_ws RJ9 TJ9 0
theorem nmJ9 : ∀ a, a < 0 → ∀ b, b < 0 → a ≠ b → (TJ9 a).2.1 ≠ (TJ9 b).2.1 := by decide +kernel
theorem tyJ9_ok : ∀ k, k < 0 → parseFieldDescriptor (TJ9 k).2.2.1 = some (tyJ9 k) := by decide +kernel
abbrev cJ9_max_7cf53 : ByteArray := prog_14_method_65_code
def yJ9_max_7cf53 : MethodName := ⟨RJ9, "max", "(II)I"⟩
abbrev cJ9_min_7cf53 : ByteArray := prog_14_method_69_code
def yJ9_min_7cf53 : MethodName := ⟨RJ9, "min", "(II)I"⟩
def RJ0 : String := "java/lang/String"
def TJ0 : u_T := fun k => match k with
  | _ => ("", "", "", false)
def tyJ0 : Nat → FieldType := fun k => match k with
  | _ => .int
abbrev wsJ00 : List Cond := u_ws RJ0 TJ0 0
theorem nmJ0 : ∀ a, a < 0 → ∀ b, b < 0 → a ≠ b → (TJ0 a).2.1 ≠ (TJ0 b).2.1 := by decide +kernel
theorem tyJ0_ok : ∀ k, k < 0 → parseFieldDescriptor (TJ0 k).2.2.1 = some (tyJ0 k) := by decide +kernel
abbrev cJ0_length_8abf5 : ByteArray := prog_15_method_54_code
def yJ0_length_8abf5 : MethodName := ⟨RJ0, "length", "()I"⟩
abbrev cJ0_charAt_5068e : ByteArray := prog_15_method_56_code
def yJ0_charAt_5068e : MethodName := ⟨RJ0, "charAt", "(I)C"⟩
abbrev cJ0_coder_7d493 : ByteArray := prog_15_method_152_code
def yJ0_coder_7d493 : MethodName := ⟨RJ0, "coder", "()B"⟩
abbrev cJ0_isLatin1_aae02 : ByteArray := prog_15_method_154_code
def yJ0_isLatin1_aae02 : MethodName := ⟨RJ0, "isLatin1", "()Z"⟩
abbrev cJ0_checkIndex_df160 : ByteArray := prog_15_method_155_code
def yJ0_checkIndex_df160 : MethodName := ⟨RJ0, "checkIndex", "(II)V"⟩
def RJ1 : String := "java/lang/StringLatin1"
def TJ1 : u_T := fun k => match k with
  | _ => ("", "", "", false)
def tyJ1 : Nat → FieldType := fun k => match k with
  | _ => .int
abbrev wsJ10 : List Cond := u_ws RJ1 TJ1 0
theorem nmJ1 : ∀ a, a < 0 → ∀ b, b < 0 → a ≠ b → (TJ1 a).2.1 ≠ (TJ1 b).2.1 := by decide +kernel
theorem tyJ1_ok : ∀ k, k < 0 → parseFieldDescriptor (TJ1 k).2.2.1 = some (tyJ1 k) := by decide +kernel
abbrev cJ1_charAt_3b067 : ByteArray := prog_16_method_2_code
def yJ1_charAt_3b067 : MethodName := ⟨RJ1, "charAt", "([BI)C"⟩
def RJ2 : String := "java/lang/StringUTF16"
def TJ2 : u_T := fun k => match k with
  | _ => ("", "", "", false)
def tyJ2 : Nat → FieldType := fun k => match k with
  | _ => .int
abbrev wsJ20 : List Cond := u_ws RJ2 TJ2 0
theorem nmJ2 : ∀ a, a < 0 → ∀ b, b < 0 → a ≠ b → (TJ2 a).2.1 ≠ (TJ2 b).2.1 := by decide +kernel
theorem tyJ2_ok : ∀ k, k < 0 → parseFieldDescriptor (TJ2 k).2.2.1 = some (tyJ2 k) := by decide +kernel
abbrev cJ2_getChar_3b067 : ByteArray := prog_17_method_5_code
def yJ2_getChar_3b067 : MethodName := ⟨RJ2, "getChar", "([BI)C"⟩
abbrev cJ2_length_9d52b : ByteArray := prog_17_method_6_code
def yJ2_length_9d52b : MethodName := ⟨RJ2, "length", "([B)I"⟩
abbrev cJ2_charAt_3b067 : ByteArray := prog_17_method_83_code
def yJ2_charAt_3b067 : MethodName := ⟨RJ2, "charAt", "([BI)C"⟩
abbrev cJ2_checkIndex_2214a : ByteArray := prog_17_method_91_code
def yJ2_checkIndex_2214a : MethodName := ⟨RJ2, "checkIndex", "(I[B)V"⟩
def RJ10 : String := "java/lang/System"
def TJ10 : u_T := fun k => match k with
  | _ => ("", "", "", false)
def tyJ10 : Nat → FieldType := fun k => match k with
  | _ => .int
abbrev wsJ100 : List Cond := u_ws RJ10 TJ10 0
theorem nmJ10 : ∀ a, a < 0 → ∀ b, b < 0 → a ≠ b → (TJ10 a).2.1 ≠ (TJ10 b).2.1 := by decide +kernel
theorem tyJ10_ok : ∀ k, k < 0 → parseFieldDescriptor (TJ10 k).2.2.1 = some (tyJ10 k) := by decide +kernel
def RJ3 : String := "jdk/internal/util/Preconditions"
def TJ3 : u_T := fun k => match k with
  | _ => ("", "", "", false)
def tyJ3 : Nat → FieldType := fun k => match k with
  | _ => .int
abbrev wsJ30 : List Cond := u_ws RJ3 TJ3 0
theorem nmJ3 : ∀ a, a < 0 → ∀ b, b < 0 → a ≠ b → (TJ3 a).2.1 ≠ (TJ3 b).2.1 := by decide +kernel
theorem tyJ3_ok : ∀ k, k < 0 → parseFieldDescriptor (TJ3 k).2.2.1 = some (tyJ3 k) := by decide +kernel
abbrev cJ3_checkIndex_8e157 : ByteArray := prog_19_method_11_code
def yJ3_checkIndex_8e157 : MethodName := ⟨RJ3, "checkIndex", "(IILjava/util/function/BiFunction;)I"⟩
def RL : String := "SleepWavesLaw"
abbrev cL_law : ByteArray := code
def yL_law : MethodName := ⟨RL, "law", "([I)Z"⟩
